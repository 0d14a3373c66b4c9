/-! rounding keeps order; makers of one cell, rounded -/
theorem rv_le {x y : UInt64} (hx : fn x) (hy : fn y) : rv x ≤ rv y ↔ FP.Core.zval FP.Core.b64 (FP.Core.val64 x) ≤ FP.Core.zval FP.Core.b64 (FP.Core.val64 y) := by
  rw [rv_z hx, rv_z hy]
  have hp := p2_pos (-1074)
  constructor
  · intro h
    exact Rat.intCast_le_intCast.mp (Rat.le_of_mul_le_mul_right h hp)
  · intro h
    exact Rat.mul_le_mul_of_nonneg_right (Rat.intCast_le_intCast.mpr h) (Rat.le_of_lt hp)
theorem z_sub {x y v : UInt64} (hx : fn x) (hy : fn y) (hv : fn v) : (rv v ≤ rv x - rv y ↔ FP.Core.zval FP.Core.b64 (FP.Core.val64 v) ≤ FP.Core.zval FP.Core.b64 (FP.Core.val64 x) + -FP.Core.zval FP.Core.b64 (FP.Core.val64 y)) ∧ (rv x - rv y ≤ rv v ↔ FP.Core.zval FP.Core.b64 (FP.Core.val64 x) + -FP.Core.zval FP.Core.b64 (FP.Core.val64 y) ≤ FP.Core.zval FP.Core.b64 (FP.Core.val64 v)) := by
  rw [rv_z hx, rv_z hy, rv_z hv]
  have hp := p2_pos (-1074)
  generalize FP.Core.zval FP.Core.b64 (FP.Core.val64 x) = a
  generalize FP.Core.zval FP.Core.b64 (FP.Core.val64 y) = b
  generalize FP.Core.zval FP.Core.b64 (FP.Core.val64 v) = c
  generalize (2 : Rat) ^ (-1074 : Int) = P at hp
  have e : (a : Rat) * P - b * P = ((a + -b : Int) : Rat) * P := by
    rw [Rat.intCast_add, Rat.intCast_neg]
    grind
  rw [e]
  constructor
  · constructor
    · intro h
      exact Rat.intCast_le_intCast.mp (Rat.le_of_mul_le_mul_right h hp)
    · intro h
      exact Rat.mul_le_mul_of_nonneg_right (Rat.intCast_le_intCast.mpr h) (Rat.le_of_lt hp)
  · constructor
    · intro h
      exact Rat.intCast_le_intCast.mp (Rat.le_of_mul_le_mul_right h hp)
    · intro h
      exact Rat.mul_le_mul_of_nonneg_right (Rat.intCast_le_intCast.mpr h) (Rat.le_of_lt hp)
theorem neg_fin {y : UInt64} (hy : fn y) : ∃ s c q, FP.Core.negate (FP.Core.val64 y) = .fin s c q := by
  obtain ⟨s, c, q, e⟩ := hy
  rw [e]
  exact ⟨!s, c, q, rfl⟩
theorem sub_ge {x y v : UInt64} (hx : fn x) (hy : fn y) (hv : fn v) (hd : fn (FP.dsub x y)) (h : rv v ≤ rv x - rv y) : rv v ≤ rv (FP.dsub x y) := by
  rw [rv_le hv hd, FP.Core.val64_dsub]
  have := FP.Core.sum_ge FP.Core.good_b64 hx (neg_fin hy) (FP.Core.val64_fits x) (FP.Core.negate_fits (FP.Core.val64_fits y)) (FP.Core.val64_fits v) hv.ne_nan (by
    rw [FP.Core.zval_negate]
    exact (z_sub hx hy hv).1.mp h)
  exact this
theorem sub_le {x y v : UInt64} (hx : fn x) (hy : fn y) (hv : fn v) (hd : fn (FP.dsub x y)) (h : rv x - rv y ≤ rv v) : rv (FP.dsub x y) ≤ rv v := by
  rw [rv_le hd hv, FP.Core.val64_dsub]
  have := FP.Core.sum_le FP.Core.good_b64 hx (neg_fin hy) (FP.Core.val64_fits x) (FP.Core.negate_fits (FP.Core.val64_fits y)) (FP.Core.val64_fits v) hv.ne_nan (by
    rw [FP.Core.zval_negate]
    exact (z_sub hx hy hv).2.mp h)
  exact this
/-- no double lies between 1 and 1 + 2 uu -/
theorem gap1 {x : UInt64} (hx : fn x) (h : rv x < 1 + 2 * uu) : rv x ≤ 1 := by
  obtain ⟨s, c, q, ex⟩ := hx
  have hf := FP.Core.val64_fits x
  unfold rv at h ⊢
  rw [ex] at hf h ⊢
  rw [dv_sg] at h ⊢
  have hc : c < 2 ^ 53 := hf.1
  cases s with
  | true =>
    rw [if_pos rfl]
    have := cq_nn c q
    grind
  | false =>
    rw [if_neg (by decide)] at h ⊢
    by_cases hq : q ≤ -53
    · have h1 : (c : Rat) ≤ ((2 ^ 53 : Nat) : Rat) := Rat.natCast_le_natCast.mpr (by omega)
      have h2 := p2_le hq
      have h3 := mul_le2 h1 h2 Rat.natCast_nonneg (Rat.le_of_lt (p2_pos _))
      rw [← uu_p] at h3
      refine Rat.le_trans h3 ?_
      decide +kernel
    · have e1 : (c : Rat) * 2 ^ q = ((c * 2 ^ (q + 52).toNat : Nat) : Rat) * (2 * uu) := by
        rw [Rat.natCast_mul, ← p2_nat, uu_p, show (2 : Rat) * 2 ^ (-53 : Int) = 2 ^ (-52 : Int) by decide +kernel, Rat.mul_assoc, ← p2_add, show ((q + 52).toNat : Int) + -52 = q by omega]
      rw [e1] at h ⊢
      generalize c * 2 ^ (q + 52).toNat = N at *
      have hN : N ≤ 2 ^ 52 := by
        refine Nat.le_of_not_lt (fun z => ?_)
        have z2 : (((2 ^ 52 + 1 : Nat)) : Rat) ≤ (N : Rat) := Rat.natCast_le_natCast.mpr z
        have z3 := Rat.mul_le_mul_of_nonneg_right z2 (show 0 ≤ 2 * uu by decide +kernel)
        have z4 : (((2 ^ 52 + 1 : Nat)) : Rat) * (2 * uu) = 1 + 2 * uu := by decide +kernel
        grind
      have z2 : (N : Rat) ≤ (((2 ^ 52 : Nat)) : Rat) := Rat.natCast_le_natCast.mpr hN
      have z3 := Rat.mul_le_mul_of_nonneg_right z2 (show 0 ≤ 2 * uu by decide +kernel)
      have z4 : (((2 ^ 52 : Nat)) : Rat) * (2 * uu) = 1 := by decide +kernel
      grind
theorem one_div {D : Rat} (h : 1 ≤ D) : 0 ≤ 1 / D ∧ 1 / D ≤ 1 := by
  have h0 : 0 < D := by grind
  have h1 : D * (1 / D) = 1 := by grind
  have h2 : 0 < D⁻¹ := Rat.inv_pos.mpr h0
  rw [Rat.div_def, Rat.one_mul] at *
  refine ⟨Rat.le_of_lt h2, ?_⟩
  have := Rat.mul_le_mul_of_nonneg_right h (Rat.le_of_lt h2)
  grind
theorem tt_u : tt ≤ uu * (1 / 2 ^ 30) := by
  have h : (2 : Rat) ^ (-1075 : Int) ≤ (2 : Rat) ^ (-83 : Int) := p2_le (by decide)
  have e : (2 : Rat) ^ (-83 : Int) = uu * (1 / 2 ^ 30) := by
    decide +kernel
  rw [e] at h
  exact h
theorem one_div4 {D : Rat} (h : 1 ≤ D) (h4 : D ≤ 4) : 1 / 4 ≤ 1 / D := by
  have h0 : 0 < D := by grind
  have h1 : D * (1 / D) = 1 := by grind
  have h2 := (one_div h).1
  have := Rat.mul_le_mul_of_nonneg_right h4 h2
  grind
theorem bigg : (1 : Rat) ≤ big := by
  have h : (2 : Rat) ^ (0 : Int) ≤ (2 : Rat) ^ (1000 : Int) := p2_le (by decide)
  exact h
theorem dv1 {D : UInt64} (hD : fn D) (h : 1 ≤ rv D) (h4 : rv D ≤ 4) : fn (FP.ddiv FP.dconst1 D) ∧ 0 ≤ rv (FP.ddiv FP.dconst1 D) ∧ rv (FP.ddiv FP.dconst1 D) ≤ 1 ∧ ab (rv (FP.ddiv FP.dconst1 D) - 1 / rv D) ≤ 2 * uu := by
  obtain ⟨o1, o2⟩ := one_div h
  have r := r_div fn_c1 hD (by grind) (by
    rw [rv_c1, ab_of o1]
    exact Rat.le_trans o2 bigg)
  rw [rv_c1] at r
  obtain ⟨f, e⟩ := r
  rw [ab_of o1] at e
  have t := tt_u
  have o4 := one_div4 h h4
  generalize 1 / rv D = y at *
  have m := Rat.mul_le_mul_of_nonneg_left o2 (show 0 ≤ uu by decide +kernel)
  have a := ab_le.mp e
  refine ⟨f, ?_, gap1 f ?_, ?_⟩
  · clear e
    unfold uu at *
    grind
  · clear e
    unfold uu at *
    grind
  · refine Rat.le_trans e ?_
    clear e a
    unfold uu at *
    grind
theorem dc_v : ∀ m : Fin 5, rv (FP.i2d (nI m.val)) = (m.val : Rat) := by decide +kernel
theorem dc_fn (m : Nat) : fn (FP.i2d (nI m)) := FP.Core.i2d_fin _
theorem sb1 {x q : UInt64} (hx : fn x) (hq : fn q) (hx4 : ab (rv x) ≤ 4) (q0 : 0 ≤ rv q) (q1 : rv q ≤ 1) : fn (FP.dsub x q) ∧ ab (rv (FP.dsub x q) - (rv x - rv q)) ≤ 6 * uu ∧ rv (FP.dsub x q) ≤ rv x ∧ ∀ m : Nat, m ≤ 4 → (m : Rat) ≤ rv x - 1 → (m : Rat) ≤ rv (FP.dsub x q) := by
  have hb : ab (rv x - rv q) ≤ 5 := by
    refine Rat.le_trans (ab_sub _ _) ?_
    rw [ab_of q0]
    grind
  obtain ⟨f, e⟩ := r_sub hx hq (Rat.le_trans hb (by
    have h : (2 : Rat) ^ (3 : Int) ≤ (2 : Rat) ^ (1000 : Int) := p2_le (by decide)
    refine Rat.le_trans ?_ h
    decide +kernel))
  refine ⟨f, ?_, sub_le hx hq hx f (by grind), fun m hm h => ?_⟩
  · refine Rat.le_trans e ?_
    have m := Rat.mul_le_mul_of_nonneg_left hb (show 0 ≤ uu by decide +kernel)
    have t := tt_u
    unfold uu at *
    grind
  · have e1 := dc_v ⟨m, by omega⟩
    have e1 : rv (FP.i2d (nI m)) = (m : Rat) := e1
    have := sub_ge hx hq (dc_fn m) f (by rw [e1]; grind)
    rw [e1] at this
    exact this
