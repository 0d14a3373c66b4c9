/-! the gathered speeds: at most 8, but for rounding -/
/-- a float as a double: its value -/
theorem f2d_v {a : UInt32} (h : a.toNat % 2 ^ 31 ≤ 130 * 2 ^ 23) : fn (FP.f2d a) ∧ ab (rv (FP.f2d a)) ≤ 8 := by
  have fa := FP.Core.fin_of_lt32 (a := a) (K := 131) (by omega) (by omega)
  obtain ⟨s, c, q, hv⟩ := fa
  have hne : FP.Core.val32 a ≠ .nan := by rw [hv]; exact FP.Core.Datum.noConfusion
  have e9 : FP.f2d a = FP.Core.f2d a := FP.f2d_core ((FP.Core.notNaN_iff32 a).mpr hne)
  have za := FP.Core.zmag_toNat32 (a := a) hne
  have fit := FP.Core.val32_fits a
  rw [hv] at za fit
  obtain ⟨fc, fq, fq2, -⟩ := fit
  rw [FP.Core.qmin_b32] at fq
  have em : FP.Core.b32.qmax = 104 := by decide
  rw [em] at fq2
  have fc : c < 2 ^ 24 := fc
  have qm : FP.Core.b64.qmin ≤ q := by rw [FP.Core.qmin_b64]; omega
  obtain ⟨c', q', r1, r2⟩ := FP.Core.round_exact FP.Core.good_b64 s (c := c) (q := q) (Nat.lt_of_lt_of_le fc (by decide)) qm (by
    have : FP.Core.b64.qmax = 971 := by decide
    omega)
  have hn := FP.Core.val64_f2d a
  rw [hv, r1] at hn
  rw [e9]
  refine ⟨⟨s, c', q', hn⟩, ?_⟩
  unfold rv
  rw [hn]
  have hfit : FP.Core.fits FP.Core.b64 (.fin s c' q') := by
    have := FP.Core.val64_fits (FP.Core.f2d a)
    rw [hn] at this
    exact this
  rw [← dv_units s c' hfit.2.1, r2, dv_units s c qm]
  have fq3 : (-149 : Int) ≤ q := fq
  rw [← dv_units s c fq3, ab_mul, ab_of (Rat.le_of_lt (p2_pos _)), ← na_val, FP.Core.natAbs_signed]
  have u1 : FP.Core.inUnits c q (-149) = FP.Core.unitsOf FP.Core.b32 (a.toNat % 2 ^ 31) := za
  have u2 : FP.Core.unitsOf FP.Core.b32 (a.toNat % 2 ^ 31) ≤ FP.Core.unitsOf FP.Core.b32 (130 * FP.Core.b32.tails) := FP.Core.unitsOf_le_iff.mpr (by rw [FP.Core.tails_b32]; exact h)
  rw [FP.Core.unitsOf_start (by omega), FP.Core.tails_b32, ← u1] at u2
  have u3 := nat_rat u2
  have u4 := Rat.mul_le_mul_of_nonneg_right u3 (Rat.le_of_lt (p2_pos (-149)))
  refine Rat.le_trans u4 ?_
  decide +kernel
theorem off_8 {v : UInt32} (h : offB v 3238002688 1090519040 = false) : fn (FP.f2d v) ∧ ab (rv (FP.f2d v)) ≤ 8 := by
  obtain ⟨-, h1, h2⟩ := off_key h (by unfold vf_n32; decide) (by unfold vf_n32; decide)
  have e1 : FP.Core.fkey 3238002688 = -1090519040 := by decide +kernel
  have e2 : FP.Core.fkey 1090519040 = 1090519040 := by decide +kernel
  rw [e1] at h1
  rw [e2] at h2
  refine f2d_v ?_
  unfold FP.Core.fkey at h1 h2
  have := v.toNat_lt
  by_cases h : 2 ^ 31 ≤ v.toNat
  · rw [if_pos h] at h1 h2
    omega
  · rw [if_neg h] at h1 h2
    omega
theorem off_6 {v : UInt32} (h : offB v 1031798784 1086193664 = false) : fn (FP.f2d v) ∧ ab (rv (FP.f2d v)) ≤ 8 := f2d_v (by
  have h : v.toNat % 2 ^ 31 < 130 * 2 ^ 23 := off_pl h
  omega)
theorem bad_v {x y a b : UInt32} (h : badA x y a b = false) : (fn (FP.f2d x) ∧ ab (rv (FP.f2d x)) ≤ 8) ∧ (fn (FP.f2d y) ∧ ab (rv (FP.f2d y)) ≤ 8) ∧ (fn (FP.f2d a) ∧ ab (rv (FP.f2d a)) ≤ 8) ∧ (fn (FP.f2d b) ∧ ab (rv (FP.f2d b)) ≤ 8) := by
  unfold badA at h
  rw [Bool.or_eq_false_iff, Bool.or_eq_false_iff, Bool.or_eq_false_iff] at h
  exact ⟨off_6 h.1, off_6 h.2.1, off_8 h.2.2.1, off_8 h.2.2.2⟩
/-- no double lies between 1 - uu and 1 -/
theorem gap0 {x : UInt64} (hx : fn x) (h : rv x < 1) : rv x ≤ 1 - uu := by
  obtain ⟨s, c, q, ex⟩ := hx
  have hf := FP.Core.val64_fits x
  unfold rv at h ⊢
  rw [ex] at hf h ⊢
  rw [dv_sg] at h ⊢
  have hc : c < 2 ^ 53 := hf.1
  cases s with
  | true =>
    rw [if_pos rfl]
    have := cq_nn c q
    generalize (c : Rat) * 2 ^ q = Y at *
    unfold uu
    grind
  | false =>
    rw [if_neg (by decide)] at h ⊢
    by_cases hq : q ≤ -54
    · have h1 : (c : Rat) ≤ ((2 ^ 53 : Nat) : Rat) := Rat.natCast_le_natCast.mpr (by omega)
      have h2 := p2_le hq
      have h3 := mul_le2 h1 h2 Rat.natCast_nonneg (Rat.le_of_lt (p2_pos _))
      refine Rat.le_trans h3 ?_
      decide +kernel
    · have e1 : (c : Rat) * 2 ^ q = ((c * 2 ^ (q + 53).toNat : Nat) : Rat) * uu := by
        rw [Rat.natCast_mul, ← p2_nat, uu_p, Rat.mul_assoc, ← p2_add, show ((q + 53).toNat : Int) + -53 = q by omega]
      rw [e1] at h ⊢
      generalize c * 2 ^ (q + 53).toNat = N at *
      have hN : N ≤ 2 ^ 53 - 1 := by
        refine Nat.le_of_not_lt (fun z => ?_)
        have z2 : (((2 ^ 53 : Nat)) : Rat) ≤ (N : Rat) := Rat.natCast_le_natCast.mpr (by omega)
        have z3 := Rat.mul_le_mul_of_nonneg_right z2 (show 0 ≤ uu by decide +kernel)
        have z4 : (((2 ^ 53 : Nat)) : Rat) * uu = 1 := by decide +kernel
        rw [z4] at z3
        exact absurd h (Rat.not_lt.mpr z3)
      have z2 : (N : Rat) ≤ (((2 ^ 53 - 1 : Nat)) : Rat) := Rat.natCast_le_natCast.mpr hN
      have z3 := Rat.mul_le_mul_of_nonneg_right z2 (show 0 ≤ uu by decide +kernel)
      refine Rat.le_trans z3 ?_
      decide +kernel
theorem num_g1 {y d : Rat} (h : ab (y - (1 - d)) ≤ uu * ab (1 - d) + tt) (h0 : 0 ≤ d) (h1 : d ≤ 1 - uu) : 1 / 2 ^ 54 ≤ y ∧ y ≤ 2 := by
  have u0 := uu_0
  rw [ab_of (show 0 ≤ 1 - d by grind)] at h
  have a := ab_le.mp h
  have t1 := tt_u
  have t0 := tt_0
  clear h
  unfold uu at *
  grind
/-- a hat is 0, or not too small -/
theorem hat_v {d : UInt64} (hd : fn d) (hb : ab (rv d) ≤ 2 ^ 100) : fn (hatF d) ∧ (rv (hatF d) = 0 ∨ 1 / 2 ^ 54 ≤ rv (hatF d)) ∧ 0 ≤ rv (hatF d) ∧ rv (hatF d) ≤ 2 := by
  have k0 : fn FP.dconst0 ∧ (rv FP.dconst0 = 0 ∨ 1 / 2 ^ 54 ≤ rv FP.dconst0) ∧ 0 ≤ rv FP.dconst0 ∧ rv FP.dconst0 ≤ 2 := ⟨fn_c0, Or.inl rv_c0, by rw [rv_c0]; decide, by rw [rv_c0]; decide⟩
  have pos : ∀ y : UInt64, fn y → (1 / 2 ^ 54 ≤ rv y ∧ rv y ≤ 2) → fn y ∧ (rv y = 0 ∨ 1 / 2 ^ 54 ≤ rv y) ∧ 0 ≤ rv y ∧ rv y ≤ 2 := fun y f ⟨a, b⟩ => ⟨f, Or.inr a, Rat.le_trans (by decide +kernel) a, b⟩
  have b240 : ab (rv d) ≤ 2 ^ 240 := Rat.le_trans hb (by decide +kernel)
  have h2 : fn (hat2 d) ∧ (rv (hat2 d) = 0 ∨ 1 / 2 ^ 54 ≤ rv (hat2 d)) ∧ 0 ≤ rv (hat2 d) ∧ rv (hat2 d) ≤ 2 := by
    unfold hat2
    by_cases g1 : 0 ≤ cvd d FP.dconst0 .g
    · rw [if_pos g1]
      exact k0
    · rw [if_neg g1]
      by_cases g2 : cvd d 13830554455654793216 .l ≤ 0
      · rw [if_pos g2]
        exact k0
      · rw [if_neg g2]
        have f1 : fn 13830554455654793216 := (FP.Core.fin_bits _).mpr (by decide +kernel)
        have v1 : rv 13830554455654793216 = -1 := by decide +kernel
        have l1 : ¬ rv FP.dconst0 ≤ rv d := fun z => g1 ((cv_ge hd fn_c0 .g).mpr z)
        have l2 : ¬ rv d ≤ rv 13830554455654793216 := fun z => g2 ((cv_le hd f1 .l).mpr z)
        rw [rv_c0] at l1
        rw [v1] at l2
        obtain ⟨a1, a2⟩ := add_small fn_c1 hd (by rw [rv_c1]; decide +kernel) b240
        rw [rv_c1] at a2
        obtain ⟨n1, n2⟩ := rv_neg hd
        have gp := gap0 n1 (by rw [n2]; generalize rv d = X at *; clear a2 b240 hb pos k0; grind)
        rw [n2] at gp
        refine pos _ a1 (num_g1 (d := -rv d) ?_ ?_ gp)
        · rw [show (1 : Rat) - -rv d = 1 + rv d by generalize rv d = X; grind]
          exact a2
        · generalize rv d = X at *
          clear a2 b240 hb pos k0 gp
          grind
  unfold hatF
  by_cases g1 : cvd d FP.dconst0 .l < 0
  · rw [if_pos g1]
    exact h2
  · rw [if_neg g1]
    by_cases g2 : 0 ≤ cvd d FP.dconst1 .g
    · rw [if_pos g2]
      exact h2
    · rw [if_neg g2]
      have l1 : ¬ rv d < rv FP.dconst0 := fun z => g1 ((cv_lt hd fn_c0 .l).mpr z)
      have l2 : ¬ rv FP.dconst1 ≤ rv d := fun z => g2 ((cv_ge hd fn_c1 .g).mpr z)
      rw [rv_c0] at l1
      rw [rv_c1] at l2
      obtain ⟨a1, a2⟩ := sub_small fn_c1 hd (by rw [rv_c1]; decide +kernel) b240
      rw [rv_c1] at a2
      exact pos _ a1 (num_g1 a2 (Rat.not_lt.mp l1) (gap0 hd (Rat.not_le.mp l2)))
theorem num_g2 {p x y : Rat} (h : ab (p - x * y) ≤ uu * ab (x * y) + tt) (hx : 1 / 2 ^ 54 ≤ x) (hy : 1 / 2 ^ 54 ≤ y) (hx2 : x ≤ 2) (hy2 : y ≤ 2) : 1 / 2 ^ 110 ≤ p ∧ p ≤ 5 := by
  have a1 := mul_le2 hx hy (by decide +kernel) (Rat.le_trans (by decide +kernel) hy)
  have a2 := mul_le2 hx2 hy2 (Rat.le_trans (by decide +kernel) hx) (by decide +kernel)
  have a0 : 0 ≤ x * y := Rat.le_trans (by decide +kernel) a1
  rw [ab_of a0] at h
  have b := ab_le.mp h
  have t1 := tt_le
  have t0 := tt_0
  have t2 : ty ≤ 1 / 2 ^ 250 := Rat.le_refl
  clear h
  generalize x * y = X at *
  unfold uu at *
  grind
/-- a weight is 0, or not too small -/
theorem gW_v {X Y : Nat → UInt32} {fi fj : UInt64} {k : Nat} (hx : fn (FP.f2d (X k)) ∧ ab (rv (FP.f2d (X k))) ≤ 8) (hy : fn (FP.f2d (Y k)) ∧ ab (rv (FP.f2d (Y k))) ≤ 8) (hi : fn fi ∧ ab (rv fi) ≤ 8) (hj : fn fj ∧ ab (rv fj) ≤ 8) : fn (gW X Y fi fj k) ∧ (rv (gW X Y fi fj k) = 0 ∨ 1 / 2 ^ 110 ≤ rv (gW X Y fi fj k)) ∧ rv (gW X Y fi fj k) ≤ 5 := by
  have sub8 : ∀ a b : UInt64, fn a → fn b → ab (rv a) ≤ 8 → ab (rv b) ≤ 8 → fn (FP.dsub a b) ∧ ab (rv (FP.dsub a b)) ≤ 2 ^ 100 := fun a b fa fb ha hb => by
    have s := sub_small fa fb (Rat.le_trans ha (by decide +kernel)) (Rat.le_trans hb (by decide +kernel))
    have l := rd_le s
    have m := ab_sub (rv a) (rv b)
    refine ⟨s.1, ?_⟩
    generalize ab (rv (FP.dsub a b)) = Z at *
    generalize ab (rv a - rv b) = W at *
    generalize ab (rv a) = A at *
    generalize ab (rv b) = B at *
    clear s
    grind
  obtain ⟨s1, s2⟩ := sub8 _ _ hx.1 hi.1 hx.2 hi.2
  obtain ⟨s3, s4⟩ := sub8 _ _ hy.1 hj.1 hy.2 hj.2
  obtain ⟨a1, a2, a3, a4⟩ := hat_v s1 s2
  obtain ⟨b1, b2, b3, b4⟩ := hat_v s3 s4
  have m := mul_small a1 b1 (by rw [ab_of a3]; exact Rat.le_trans a4 (by decide +kernel)) (by rw [ab_of b3]; exact Rat.le_trans b4 (by decide +kernel))
  unfold gW
  rcases a2 with a2 | a2
  · have z := rd_0 m (by rw [a2, Rat.zero_mul])
    exact ⟨m.1, Or.inl z, by rw [z]; decide⟩
  · rcases b2 with b2 | b2
    · have z := rd_0 m (by rw [b2, Rat.mul_zero])
      exact ⟨m.1, Or.inl z, by rw [z]; decide⟩
    · obtain ⟨n1, n2⟩ := num_g2 m.2 a2 b2 a4 b4
      exact ⟨m.1, Or.inr n1, n2⟩
