/-! no NaN in gather -/
theorem hat2_m {d : UInt64} {K : Nat} (hK : 1024 ≤ K) (hK2 : K ≤ 2000) (h : mgd K d) : mgd (K + 2) (hat2 d) := by
  unfold hat2
  split
  · exact m_d0 _ (by omega)
  · split
    · exact m_d0 _ (by omega)
    · exact mgd_add hK2 (mgd_up (K := 1024) (mgd_c (by decide)) hK) h
theorem hat_m {d : UInt64} {K : Nat} (hK : 1024 ≤ K) (hK2 : K ≤ 2000) (h : mgd K d) : mgd (K + 2) (hatF d) := by
  unfold hatF
  split
  · exact hat2_m hK hK2 h
  · split
    · exact hat2_m hK hK2 h
    · exact mgd_sub hK2 (mgd_up (K := 1024) (mgd_c (by decide)) hK) h
theorem fc_m : ∀ f : Fin 84, mgd 1026 (fcX f.val) ∧ mgd 1026 (fcY f.val) := by unfold mgd; decide +kernel
theorem gW_m {X Y : Nat → UInt32} {fi fj : UInt64} {k : Nat} (hx : mgf 130 (X k)) (hy : mgf 130 (Y k)) (hi : mgd 1026 fi) (hj : mgd 1026 fj) : mgd 1040 (gW X Y fi fj k) := by
  have a := hat_m (by omega) (by omega) (mgd_sub (K := 1027) (by omega) (f2d_m (by omega) hx) (mgd_up hi (by omega)))
  have b := hat_m (by omega) (by omega) (mgd_sub (K := 1027) (by omega) (f2d_m (by omega) hy) (mgd_up hj (by omega)))
  exact mgd_up (mgd_mul (by omega) (by omega) a b) (by omega)
theorem gM_m {X Y : Nat → UInt32} {fi fj : UInt64} {np : Nat} (hp : ∀ k, k < np → mgf 130 (X k) ∧ mgf 130 (Y k)) (hi : mgd 1026 fi) (hj : mgd 1026 fj) : ∀ m, m ≤ np → m ≤ 24 → mgd (1040 + 2 * m) (gM X Y fi fj m)
  | 0, _, _ => m_d0 _ (by omega)
  | m + 1, hm, h24 => by
    rw [gM]
    exact mgd_up (mgd_add (K := 1040 + 2 * m) (by omega) (gM_m hp hi hj m (by omega) (by omega)) (mgd_up (gW_m (hp m (by omega)).1 (hp m (by omega)).2 hi hj) (by omega))) (by omega)
theorem gP_m {X Y A : Nat → UInt32} {fi fj : UInt64} {k : Nat} (hx : mgf 130 (X k)) (hy : mgf 130 (Y k)) (ha : mgf 131 (A k)) (hi : mgd 1026 fi) (hj : mgd 1026 fj) : mgd 1046 (FP.dmul (gW X Y fi fj k) (FP.f2d (A k))) := mgd_up (mgd_mul (by omega) (by omega) (gW_m hx hy hi hj) (f2d_m (by omega) ha)) (by omega)
theorem gN_m {X Y A : Nat → UInt32} {fi fj : UInt64} {np : Nat} (hp : ∀ k, k < np → mgf 130 (X k) ∧ mgf 130 (Y k) ∧ mgf 131 (A k)) (hi : mgd 1026 fi) (hj : mgd 1026 fj) : ∀ m, m ≤ np → m ≤ 24 → mgd (1046 + 2 * m) (gN X Y A fi fj m)
  | 0, _, _ => m_d0 _ (by omega)
  | m + 1, hm, h24 => by
    rw [gN]
    obtain ⟨a, b, c⟩ := hp m (by omega)
    exact mgd_up (mgd_add (K := 1046 + 2 * m) (by omega) (gN_m hp hi hj m (by omega) (by omega)) (mgd_up (gP_m a b c hi hj) (by omega))) (by omega)
theorem dz_le {x : UInt64} (h : FP.Core.DZero x) : cvd x FP.dconst0 .l ≤ 0 := by
  obtain ⟨s, q, hx⟩ := h
  have e : FP.dcmp x FP.dconst0 = some .eq := by
    refine FP.Core.dcmp_eq.mpr ⟨by rw [hx]; exact FP.Core.Datum.noConfusion, by decide +kernel, ?_⟩
    have e1 : FP.Core.zval FP.Core.b64 (FP.Core.val64 FP.dconst0) = 0 := by decide +kernel
    rw [e1, hx]
    show FP.Core.signed s (0 * 2 ^ (q - FP.Core.b64.qmin).toNat) = 0
    rw [Nat.zero_mul]
    cases s <;> rfl
  unfold cvd
  rw [e]
  decide
theorem dd_n {x y : UInt64} (hx : vf_n64 x) {K : Nat} (hK : K ≤ 2047) (hy : mgd K y) (h0 : ¬ cvd y FP.dconst0 .l ≤ 0) : vf_n64 (FP.ddiv x y) := by
  have hy2 : y.toNat % 2 ^ 63 < K * 2 ^ 52 := hy
  have f : FP.Core.DFin y := (FP.Core.fin_bits y).mpr (by omega)
  have r := FP.Core.ddiv_out ((FP.Core.notNaN_iff x).mpr (n64_ne hx)) f (fun z => h0 (dz_le z))
  exact n64_of ((FP.Core.notNaN_iff _).mp r)
theorem ga_ok {X Y A : Nat → UInt32} {fi fj : UInt64} {np : Nat} (h24 : np ≤ 24) (hp : ∀ k, k < np → mgf 130 (X k) ∧ mgf 130 (Y k) ∧ mgf 131 (A k)) (hi : mgd 1026 fi) (hj : mgd 1026 fj) : gOkF X Y A fi fj np := by
  have hp2 : ∀ k, k < np → mgf 130 (X k) ∧ mgf 130 (Y k) := fun k hk => ⟨(hp k hk).1, (hp k hk).2.1⟩
  refine ⟨fun k hk => ?_, ?_⟩
  · obtain ⟨a, b, c⟩ := hp k hk
    have a1 := f2d_m (by omega) a
    have b1 := f2d_m (by omega) b
    have a2 := mgd_sub (K := 1027) (by omega) a1 (mgd_up hi (by omega))
    have b2 := mgd_sub (K := 1027) (by omega) b1 (mgd_up hj (by omega))
    exact ⟨mgd_n (by omega) a1, mgd_n (by omega) a2, mgd_n (by omega) (hat_m (by omega) (by omega) a2), mgd_n (by omega) b1, mgd_n (by omega) b2, mgd_n (by omega) (hat_m (by omega) (by omega) b2), mgd_n (by omega) (gW_m a b hi hj), mgd_n (by omega) (f2d_m (by omega) c), mgd_n (by omega) (gP_m a b c hi hj), mgd_n (by omega) (gN_m hp hi hj (k + 1) (by omega) (by omega)), mgd_n (by omega) (gM_m hp2 hi hj (k + 1) (by omega) (by omega))⟩
  · unfold gF
    by_cases h0 : cvd (gM X Y fi fj np) FP.dconst0 .l ≤ 0
    · rw [if_pos h0]
      exact n_d0
    · rw [if_neg h0]
      exact dd_n (mgd_n (by omega) (gN_m hp hi hj np (Nat.le_refl np) h24)) (by omega) (gM_m hp2 hi hj np (Nat.le_refl np) h24) h0
/-- the first piece of noNaN -/
theorem nn_ga {S : cS} {T : mS} {np nq : Nat} (h : Tie S T np nq) : gaOk (stA (mI' T 0 (nI 0)) np) np := fun f hf => by
  obtain ⟨m1, m2⟩ := fc_m ⟨f, hf⟩
  refine ga_ok h.now.n24 (fun k hk => ?_) m1 m2
  obtain ⟨a, b, c, d⟩ := bad_m (h.now.p2 k hk)
  refine ⟨a, b, ?_⟩
  show mgf 131 (fcA (mF T 3) f k)
  unfold fcA
  split
  · exact c
  · exact d
