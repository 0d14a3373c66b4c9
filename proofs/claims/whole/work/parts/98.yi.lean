/-! a round: the greatest rest; z and the next direction -/
theorem rv_neg {x : UInt64} (hx : fn x) : fn (FP.Core.dneg x) ∧ rv (FP.Core.dneg x) = -rv x := by
  obtain ⟨s, c, q, ex⟩ := hx
  have hv : FP.Core.val64 (FP.Core.dneg x) = .fin (!s) c q := by
    have := FP.Core.val64_dneg x
    rw [ex] at this
    exact this
  refine ⟨⟨_, c, q, hv⟩, ?_⟩
  unfold rv
  rw [hv, ex, dv_neg]
theorem amt_v {x : UInt64} (hx : fn x) (hb : ab (rv x) ≤ 2 ^ 240) : fn (amtF x) ∧ rv (amtF x) = ab (rv x) := by
  unfold amtF
  by_cases h : 0 ≤ cvd x FP.dconst0 .g
  · rw [if_pos h]
    have := (cv_ge hx fn_c0 .g).mp h
    rw [rv_c0] at this
    exact ⟨hx, (ab_of this).symm⟩
  · rw [if_neg h]
    have h2 : ¬ rv FP.dconst0 ≤ rv x := fun z => h ((cv_ge hx fn_c0 .g).mpr z)
    rw [rv_c0] at h2
    obtain ⟨n1, n2⟩ := rv_neg hx
    have f := (sub_small fn_c0 hx (by rw [rv_c0]; decide +kernel) hb).1
    have a := sub_le fn_c0 hx n1 f (by rw [rv_c0, n2]; generalize rv x = X; grind)
    have b := sub_ge fn_c0 hx n1 f (by rw [rv_c0, n2]; generalize rv x = X; grind)
    refine ⟨f, ?_⟩
    rw [Rat.le_antisymm a b, n2, ← ab_neg, ab_of]
    generalize rv x = X at *
    grind
theorem rs_val {r : Nat → UInt64} (hr : ∀ c, c < 36 → fn (r c) ∧ ab (rv (r c)) ≤ 2 ^ 240) : ∀ n, n ≤ 36 → fn (rsF r n) ∧ 0 ≤ rv (rsF r n) ∧ (∀ c, c < n → ab (rv (r c)) ≤ rv (rsF r n)) ∧ (rv (rsF r n) = 0 ∨ ∃ c, c < n ∧ ab (rv (r c)) = rv (rsF r n))
  | 0, _ => ⟨fn_c0, by show 0 ≤ rv FP.dconst0; rw [rv_c0]; exact Rat.le_refl, fun c hc => absurd hc (by omega), Or.inl rv_c0⟩
  | n + 1, hn => by
    obtain ⟨i1, i2, i3, i4⟩ := rs_val hr n (by omega)
    obtain ⟨a1, a2⟩ := amt_v (hr n (by omega)).1 (hr n (by omega)).2
    rw [rsF]
    by_cases h : cvd (amtF (r n)) (rsF r n) .l ≤ 0
    · rw [if_pos h]
      have h2 := (cv_le a1 i1 .l).mp h
      rw [a2] at h2
      refine ⟨i1, i2, fun c hc => ?_, ?_⟩
      · by_cases e : c = n
        · rw [e]; exact h2
        · exact i3 c (by omega)
      · rcases i4 with i4 | ⟨c, hc, i4⟩
        · exact Or.inl i4
        · exact Or.inr ⟨c, by omega, i4⟩
    · rw [if_neg h]
      have h2 : ¬ rv (amtF (r n)) ≤ rv (rsF r n) := fun z => h ((cv_le a1 i1 .l).mpr z)
      rw [a2] at h2 ⊢
      have h3 := Rat.le_of_lt (Rat.not_le.mp h2)
      refine ⟨a1, ab_nn _, fun c hc => ?_, Or.inr ⟨n, by omega, rfl⟩⟩
      by_cases e : c = n
      · rw [e]; exact Rat.le_refl
      · exact Rat.le_trans (i3 c (by omega)) h3
theorem hv_v : ∀ k : Fin 31, 1 / 2 ^ 30 ≤ rv (hv k.val) ∧ (hv k.val).toNat % 2 ^ 63 < 9218868437227405312 := by decide +kernel
theorem mM_congr {e : Nat → Nat → Rat} {D x y : Nat → Rat} (h : ∀ c, c < 36 → x c = y c) {c : Nat} (hc : c < 36) : mM e D x c = mM e D y c := by
  have t : ∀ p, p < 36 → tV e D x p = tV e D y p := fun p hp => by
    unfold tV
    rw [h p hp, sm_congr 36 (fun j hj => by rw [h j hj])]
  unfold mM
  rw [t c hc, sm_congr 36 (fun p hp => by rw [t p hp])]
theorem num_z1 {c2 y X : Rat} (h : ab (c2 - y) ≤ 40 * uu * X + ty) (hy : ab y ≤ X) (hX : X ≤ 36 * (2 ^ 30 * 2 ^ 10)) (hX0 : 0 ≤ X) : ab c2 ≤ 2 ^ 47 := by
  have w := ab_add (c2 - y) y
  rw [show c2 - y + y = c2 by grind] at w
  have t2 : ty ≤ 1 := by unfold ty; decide +kernel
  have u : 40 * uu * X ≤ X := by
    have := Rat.mul_le_mul_of_nonneg_right (show 40 * uu ≤ 1 by decide +kernel) hX0
    rw [Rat.one_mul] at this
    exact this
  generalize 40 * uu * X = Y at *
  grind
/-- z made: no NaN, and Zn -/
theorem zn_of {S : mS} {lim : UInt64} (hM : MkH (mA S 11) (mD S 15)) (hr : rowOk (mA S 11) (mD S 17) (2 ^ 10)) (hl : ∃ k, k ≤ 30 ∧ lim = hv k) (hx : 0 < cvd (rsF (mD S 17) 36) lim .g) : mzOk S ∧ rowOk (mA S 11) (mkZr S 36) (2 ^ 30) ∧ prOk (mkZr S 36) (mD S 17) ∧ fn (prd (mkZr S 36) (mD S 17) 6) ∧ ab (rv (prd (mkZr S 36) (mD S 17) 6)) ≤ 2 ^ 47 ∧ ∃ f R, Zn (eC (mA S 11)) (tC (mA S 11)) (dC (mA S 11) (mD S 15)) (rR (mA S 11) (mD S 17)) (rR (mA S 11) (mkZr S 36)) f R (rv (prd (mkZr S 36) (mD S 17) 6)) := by
  obtain ⟨k, hk, rfl⟩ := hl
  obtain ⟨l1, l2⟩ := hv_v ⟨k, by omega⟩
  have l1 : 1 / 2 ^ 30 ≤ rv (hv k) := l1
  have l3 : fn (hv k) := (FP.Core.fin_bits _).mpr l2
  obtain ⟨r1, r2, r3, r4⟩ := rs_val (hr.m (N := 2 ^ 240) (by decide +kernel)) 36 (by omega)
  have x1 := (cv_gt r1 l3 .g).mp hx
  have R30 : 1 / 2 ^ 30 ≤ rv (rsF (mD S 17) 36) := Rat.le_trans l1 (Rat.le_of_lt x1)
  have Rne : rv (rsF (mD S 17) 36) ≠ 0 := fun z => by
    rw [z] at R30
    exact absurd R30 (by decide +kernel)
  obtain ⟨c0, hc0, e0⟩ : ∃ c, c < 36 ∧ ab (rv (mD S 17 c)) = rv (rsF (mD S 17) 36) := by
    rcases r4 with r4 | r4
    · exact absurd r4 Rne
    · exact r4
  have t0 : tC (mA S 11) c0 := ⟨hc0, fun z => by
    rw [(hr c0 hc0).2.2 z] at e0
    exact Rne e0.symm⟩
  have R10 : rv (rsF (mD S 17) 36) ≤ 2 ^ 10 := by
    rw [← e0]
    exact (hr c0 hc0).2.1
  obtain ⟨m1, m2, m3⟩ := mz_all hM (fun c hc => ⟨(hr c hc).1, r3 c hc⟩) hr.z (Rat.le_trans (by decide +kernel) R30) (Rat.le_trans R10 (by decide +kernel))
  have hz : rowOk (mA S 11) (mkZr S 36) (2 ^ 30) := fun c hc => by
    obtain ⟨z1, z2, z3⟩ := m2 c hc
    refine ⟨z1, Rat.le_trans z2 ?_, fun h => by rw [z3 h]; exact rv_c0⟩
    have := Rat.mul_le_mul_of_nonneg_left R10 (show (0 : Rat) ≤ 187000 by decide +kernel)
    exact Rat.le_trans this (by decide +kernel)
  have z110 := hz.m (N := 2 ^ 110) (by decide +kernel)
  have r110 := hr.m (N := 2 ^ 110) (by decide +kernel)
  obtain ⟨p1, p2⟩ := pr_val z110 r110
  have e1 : dt (fun c => rv (mkZr S 36 c)) (fun c => rv (mD S 17 c)) = dt (rR (mA S 11) (mkZr S 36)) (rR (mA S 11) (mD S 17)) := dt_congr (fun c hc => (rR_in hz.z hc).symm) (fun c hc => (rR_in hr.z hc).symm)
  have e2 : sm (fun j => ab (rv (mkZr S 36 j)) * ab (rv (mD S 17 j))) 36 = sm (fun j => ab (rR (mA S 11) (mkZr S 36) j) * ab (rR (mA S 11) (mD S 17) j)) 36 := sm_congr 36 (fun j hj => by rw [rR_in hz.z hj, rR_in hr.z hj])
  have X0 : 0 ≤ sm (fun j => ab (rv (mkZr S 36 j)) * ab (rv (mD S 17 j))) 36 := sm_nn 36 (fun j _ => Rat.mul_nonneg (ab_nn _) (ab_nn _))
  have X1 : sm (fun j => ab (rv (mkZr S 36 j)) * ab (rv (mD S 17 j))) 36 ≤ 36 * (2 ^ 30 * 2 ^ 10) := by
    refine Rat.le_trans (sm_le (g := fun _ => (2 : Rat) ^ 30 * 2 ^ 10) 36 (fun j hj => mul_le2 (hz j hj).2.1 (hr j hj).2.1 (ab_nn _) (by decide +kernel))) ?_
    rw [sm_const]
    exact Rat.le_refl
  refine ⟨m1, hz, pr_ok z110 r110, p1, num_z1 p2 (dt_ab _ _) X1 X0, fun c => mM (eC (mA S 11)) (dC (mA S 11) (mD S 15)) (rR (mA S 11) (mkZr S 36)) c - rR (mA S 11) (mD S 17) c, rv (rsF (mD S 17) 36), fun j hj => rR_F hj, fun j hj => ?_, fun j hj => ?_, fun j hj => ?_, ⟨c0, hc0, t0, by rw [rR_T t0]; exact e0⟩, R30, ?_⟩
  · show mM (eC (mA S 11)) (dC (mA S 11) (mD S 15)) (rR (mA S 11) (mkZr S 36)) j = rR (mA S 11) (mD S 17) j + (mM (eC (mA S 11)) (dC (mA S 11) (mD S 15)) (rR (mA S 11) (mkZr S 36)) j - rR (mA S 11) (mD S 17) j)
    generalize mM (eC (mA S 11)) (dC (mA S 11) (mD S 15)) (rR (mA S 11) (mkZr S 36)) j = X
    generalize rR (mA S 11) (mD S 17) j = Y
    grind
  · show ab (mM (eC (mA S 11)) (dC (mA S 11) (mD S 15)) (rR (mA S 11) (mkZr S 36)) j - rR (mA S 11) (mD S 17) j) ≤ _
    rw [rR_in hr.z hj, mM_congr (fun c hc => rR_in hz.z hc) hj]
    exact m3 j hj
  · rw [rR_in hr.z hj]
    exact r3 j hj
  · rw [← e1, ← e2]
    exact p2
theorem num_y1 {c c2 : Rat} (hc : 1 / 2 ^ 66 ≤ c) (h0 : 0 ≤ c2) (h : c2 ≤ 2 ^ 47) : 0 ≤ c2 / c ∧ c2 / c ≤ 2 ^ 113 := by
  have c0 : 0 < c := by grind
  have i : 0 < c⁻¹ := Rat.inv_pos.mpr c0
  have e1 : c * c⁻¹ = 1 := by grind
  have i2 : c⁻¹ ≤ 2 ^ 66 := by
    have := Rat.mul_le_mul_of_nonneg_right hc (Rat.le_of_lt i)
    rw [e1] at this
    generalize c⁻¹ = I at *
    grind
  rw [Rat.div_def]
  exact ⟨Rat.mul_nonneg h0 (Rat.le_of_lt i), Rat.le_trans (mul_le2 h i2 h0 (by decide +kernel)) (by decide +kernel)⟩
theorem num_y2 {be y : Rat} (h : ab (be - y) ≤ uu * ab y + tt) (h0 : 0 ≤ y) (h1 : y ≤ 2 ^ 113) : ab be ≤ 2 ^ 115 ∧ ab (be - y) ≤ uu * y + ty := by
  rw [ab_of h0] at h
  have w := ab_add (be - y) y
  rw [show be - y + y = be by grind, ab_of h0] at w
  have t1 := tt_le
  have t0 := tt_0
  have t2 : ty ≤ 1 / 2 := by unfold ty; decide +kernel
  constructor
  · unfold uu at *
    grind
  · generalize uu * y = X at *
    grind
theorem num_y3 {m x z sn : Rat} (h1 : ab (m - x) ≤ uu * ab x + tt) (h2 : ab (sn - (z + m)) ≤ uu * ab (z + m) + tt) : ab (sn - (z + x)) ≤ 3 * uu * (ab x + ab z) + ty := by
  have w1 := ab_add (z + x) (m - x)
  rw [show z + x + (m - x) = z + m by grind] at w1
  have w2 := ab_add z x
  have w3 := ab_add (sn - (z + m)) (m - x)
  rw [show sn - (z + m) + (m - x) = sn - (z + x) by grind] at w3
  have t1 := tt_le
  have t0 := tt_0
  have := ab_nn x
  have := ab_nn z
  generalize ab (sn - (z + x)) = X1 at *
  generalize ab (sn - (z + m)) = X2 at *
  generalize ab (z + m) = X3 at *
  generalize ab (m - x) = X4 at *
  generalize ab x = X5 at *
  generalize ab z = X6 at *
  generalize ab (z + x) = X7 at *
  unfold uu at *
  grind
theorem num_y4 {be s m : Rat} (h1 : ab be ≤ 2 ^ 115) (h2 : ab s ≤ 2 ^ 90) (h3 : ab m ≤ 2 * ab (be * s) + 1) : ab m ≤ 2 ^ 240 := by
  have := mul_le2 h1 h2 (ab_nn _) (show (0 : Rat) ≤ 2 ^ 90 by decide +kernel)
  rw [← ab_mul] at this
  generalize ab (be * s) = X at *
  grind
/-- the next s: no NaN, and Tn -/
theorem tn_of {tk : Nat → Int32} {s z sn : Nat → UInt64} {now c2 : UInt64} (hs : rowOk tk s (2 ^ 90)) (hz : rowOk tk z (2 ^ 30)) (hn : fn now) (hn1 : 1 / 2 ^ 66 ≤ rv now) (hc : fn c2) (hc0 : 0 ≤ rv c2) (hc1 : ab (rv c2) ≤ 2 ^ 47) (hsn : ∀ c, c < 36 → sn c = FP.dadd (z c) (FP.dmul (FP.ddiv c2 now) (s c))) : fn (FP.ddiv c2 now) ∧ (∀ c, c < 36 → fn (FP.dmul (FP.ddiv c2 now) (s c)) ∧ fn (sn c) ∧ (tk c = 0 → rv (sn c) = 0)) ∧ Tn (tC tk) (rR tk s) (rR tk z) (rv now) (rv c2) (rv (FP.ddiv c2 now)) (rR tk sn) := by
  rw [ab_of hc0] at hc1
  obtain ⟨k0, k1⟩ := num_y1 hn1 hc0 hc1
  have rdd := r_div hc hn (fun z => by rw [z] at hn1; exact absurd hn1 (by decide +kernel)) (by
    rw [ab_of k0]
    exact Rat.le_trans k1 (Rat.le_trans (by decide +kernel) big_ge))
  obtain ⟨b1, b2⟩ := num_y2 rdd.2 k0 k1
  have hm : ∀ c, c < 36 → rd (FP.dmul (FP.ddiv c2 now) (s c)) (rv (FP.ddiv c2 now) * rv (s c)) := fun c hc => mul_small rdd.1 (hs c hc).1 (Rat.le_trans b1 (by decide +kernel)) (Rat.le_trans (hs c hc).2.1 (by decide +kernel))
  have ha : ∀ c, c < 36 → rd (sn c) (rv (z c) + rv (FP.dmul (FP.ddiv c2 now) (s c))) := fun c hc => by
    rw [hsn c hc]
    exact add_small (hz c hc).1 (hm c hc).1 (Rat.le_trans (hz c hc).2.1 (by decide +kernel)) (num_y4 b1 (hs c hc).2.1 (rd_le (hm c hc)))
  have h0 : ∀ c, c < 36 → tk c = 0 → rv (sn c) = 0 := fun c hc h => by
    have a := rd_0 (hm c hc) (by rw [(hs c hc).2.2 h, Rat.mul_zero])
    refine rd_0 (ha c hc) ?_
    rw [a, (hz c hc).2.2 h]
    decide +kernel
  refine ⟨rdd.1, fun c hc => ⟨(hm c hc).1, (ha c hc).1, h0 c hc⟩, fun j hj => rR_F hj, b2, fun j hj => ?_⟩
  rw [rR_in h0 hj, rR_in hz.z hj, rR_in hs.z hj]
  exact num_y3 (hm j hj).2 (ha j hj).2
