/-! sampling: no NaN, and how large a sample is -/
theorem rd_l {x : UInt64} {e : Rat} (h : rd x e) : ab (rv x) ≤ 17 / 16 * ab e + 1 / 16 := by
  have w := ab_add (rv x - e) e
  rw [show rv x - e + e = rv x by grind] at w
  have t := tt_u
  have := h.2
  have := ab_nn e
  unfold uu at *
  grind
theorem dc6 : ∀ m : Fin 7, rv (FP.i2d (nI m.val)) = (m.val : Rat) := by decide +kernel
theorem wi_v {x : UInt64} {w : Nat} (hx : fn x) (hw : w ≤ 6) : fn (wiF x (FP.i2d (nI w))) ∧ 0 ≤ rv (wiF x (FP.i2d (nI w))) ∧ rv (wiF x (FP.i2d (nI w))) ≤ 6 := by
  have e : rv (FP.i2d (nI w)) = (w : Rat) := dc6 ⟨w, by omega⟩
  have w6 : (w : Rat) ≤ 6 := nat_rat hw
  unfold wiF
  by_cases h : 0 ≤ cvd x FP.dconst0 .g
  · rw [if_pos h]
    have l := (cv_ge hx fn_c0 .g).mp h
    rw [rv_c0] at l
    by_cases h2 : cvd x (FP.i2d (nI w)) .l ≤ 0
    · rw [if_pos h2]
      have l2 := (cv_le hx (dc_fn w) .l).mp h2
      rw [e] at l2
      exact ⟨hx, l, Rat.le_trans l2 w6⟩
    · rw [if_neg h2, e]
      exact ⟨dc_fn w, Rat.natCast_nonneg, w6⟩
  · rw [if_neg h, rv_c0]
    exact ⟨fn_c0, Rat.le_refl, by decide⟩
theorem num_k1 {x y z : Rat} (h : ab x ≤ 17 / 16 * ab (y - z) + 1 / 16) (hy0 : 0 ≤ y) (hy : y ≤ 6) (hz0 : 0 ≤ z) (hz : z ≤ 6) : ab x ≤ 12 := by
  have : ab (y - z) ≤ 6 := by
    rw [ab_le]
    grind
  generalize ab (y - z) = X at *
  grind
theorem sfr_v {w : Nat} {g : UInt64} (hg : fn g) (h0 : 0 ≤ rv g) (h6 : rv g ≤ 6) (hi : ixN w g ≤ 6) : fn (sfr w g) ∧ ab (rv (sfr w g)) ≤ 12 := by
  have e : rv (FP.i2d (nI (ixN w g))) = (ixN w g : Rat) := dc6 ⟨ixN w g, by omega⟩
  have i6 : ((ixN w g : Nat) : Rat) ≤ 6 := nat_rat hi
  have i0 : (0 : Rat) ≤ ((ixN w g : Nat) : Rat) := Rat.natCast_nonneg
  have s := sub_small hg (dc_fn (ixN w g)) (by rw [ab_of h0]; exact Rat.le_trans h6 (by decide +kernel)) (by rw [e, ab_of i0]; exact Rat.le_trans i6 (by decide +kernel))
  rw [e] at s
  exact ⟨s.1, num_k1 (rd_l s) h0 h6 i0 i6⟩
theorem num_k2 {x f : Rat} (h : ab x ≤ 17 / 16 * ab (1 - f) + 1 / 16) (hf : ab f ≤ 12) : ab x ≤ 14 := by
  have a := ab_sub 1 f
  rw [show ab (1 : Rat) = 1 from rfl] at a
  generalize ab (1 - f) = X at *
  grind
theorem num_k3 {x f a F c d : Rat} (h : ab x ≤ 17 / 16 * ab (f * a) + 1 / 16) (hf : ab f ≤ c) (ha : ab a ≤ d * F) (hF : 1 ≤ F) (hd : 0 ≤ d) : ab x ≤ (17 / 16 * (c * d) + 1 / 16) * F := by
  rw [ab_mul] at h
  have dF := Rat.mul_nonneg hd (show 0 ≤ F by grind)
  have m := mul_le2 hf ha (ab_nn _) dF
  rw [show c * (d * F) = c * d * F by grind] at m
  rw [show (17 / 16 * (c * d) + 1 / 16) * F = 17 / 16 * (c * d * F) + 1 / 16 * F by grind]
  generalize c * d * F = Y at *
  generalize ab f * ab a = Z at *
  clear hf ha dF
  grind
theorem num_k4 {x a b F c d : Rat} (h : ab x ≤ 17 / 16 * ab (a + b) + 1 / 16) (ha : ab a ≤ c * F) (hb : ab b ≤ d * F) (hF : 1 ≤ F) : ab x ≤ (17 / 16 * (c + d) + 1 / 16) * F := by
  have w := ab_add a b
  rw [show (17 / 16 * (c + d) + 1 / 16) * F = 17 / 16 * (c * F) + 17 / 16 * (d * F) + 1 / 16 * F by grind]
  generalize c * F = Y at *
  generalize d * F = Z at *
  generalize ab (a + b) = X at *
  grind
theorem num_k5 {x c F : Rat} (h : ab x ≤ c * F) (hc : c ≤ 1024) (hF : 1 ≤ F) (hF2 : F ≤ 2 ^ 109) : ab x ≤ 2 ^ 119 ∧ ab x ≤ 1024 * F := by
  have := Rat.mul_le_mul_of_nonneg_right hc (show 0 ≤ F by grind)
  generalize c * F = Y at *
  grind
theorem mxX_v {f a b : UInt64} {F : Rat} (hf : fn f ∧ ab (rv f) ≤ 12) (ha : fn a ∧ ab (rv a) ≤ F) (hb : fn b ∧ ab (rv b) ≤ F) (hF : 1 ≤ F) (hF2 : F ≤ 2 ^ 109) : fn (FP.dsub FP.dconst1 f) ∧ ab (rv (FP.dsub FP.dconst1 f)) ≤ 14 ∧ fn (FP.dmul (FP.dsub FP.dconst1 f) a) ∧ fn (FP.dmul f b) ∧ fn (mxX f a b) ∧ ab (rv (mxX f a b)) ≤ 31 * F := by
  have s := sub_small fn_c1 hf.1 (by rw [rv_c1]; decide +kernel) (Rat.le_trans hf.2 (by decide +kernel))
  rw [rv_c1] at s
  have sb := num_k2 (rd_l s) hf.2
  have F110 : F ≤ 2 ^ 110 := Rat.le_trans hF2 (by decide +kernel)
  have m1 := mul_small s.1 ha.1 (Rat.le_trans sb (by decide +kernel)) (Rat.le_trans ha.2 (Rat.le_trans F110 (by decide +kernel)))
  have m2 := mul_small hf.1 hb.1 (Rat.le_trans hf.2 (by decide +kernel)) (Rat.le_trans hb.2 (Rat.le_trans F110 (by decide +kernel)))
  have b1 := num_k3 (rd_l m1) sb (d := 1) (by rw [Rat.one_mul]; exact ha.2) hF (by decide)
  have b2 := num_k3 (rd_l m2) hf.2 (d := 1) (by rw [Rat.one_mul]; exact hb.2) hF (by decide)
  have c1 := num_k5 b1 (by decide +kernel) hF hF2
  have c2 := num_k5 b2 (by decide +kernel) hF hF2
  have a1 := add_small m1.1 m2.1 (Rat.le_trans c1.1 (by decide +kernel)) (Rat.le_trans c2.1 (by decide +kernel))
  have b3 := num_k4 (rd_l a1) b1 b2 hF
  refine ⟨s.1, sb, m1.1, m2.1, a1.1, Rat.le_trans b3 (Rat.mul_le_mul_of_nonneg_right (by decide +kernel) (by clear b1 b2 b3 c1 c2 a1 m1 m2 s; grind))⟩
theorem mxF_v {f g a b c d : UInt64} {F : Rat} (hf : fn f ∧ ab (rv f) ≤ 12) (hg : fn g ∧ ab (rv g) ≤ 12) (ha : fn a ∧ ab (rv a) ≤ F) (hb : fn b ∧ ab (rv b) ≤ F) (hc : fn c ∧ ab (rv c) ≤ F) (hd : fn d ∧ ab (rv d) ≤ F) (hF : 1 ≤ F) (hF2 : F ≤ 2 ^ 109) : mxO f g a b c d ∧ fn (mxF f g a b c d) ∧ ab (rv (mxF f g a b c d)) ≤ 1024 * F := by
  obtain ⟨x1, x2, x3, x4, x5, x6⟩ := mxX_v hf ha hb hF hF2
  obtain ⟨-, -, y3, y4, y5, y6⟩ := mxX_v hf hc hd hF hF2
  obtain ⟨g1, g2, -⟩ := mxX_v hg ha hb hF hF2
  have xb := num_k5 x6 (by decide) hF hF2
  have yb := num_k5 y6 (by decide) hF hF2
  have m1 := mul_small g1 x5 (Rat.le_trans g2 (by decide +kernel)) (Rat.le_trans xb.1 (by decide +kernel))
  have m2 := mul_small hg.1 y5 (Rat.le_trans hg.2 (by decide +kernel)) (Rat.le_trans yb.1 (by decide +kernel))
  have b1 := num_k3 (rd_l m1) g2 x6 hF (by decide)
  have b2 := num_k3 (rd_l m2) hg.2 y6 hF (by decide)
  have c1 := num_k5 b1 (by decide +kernel) hF hF2
  have c2 := num_k5 b2 (by decide +kernel) hF hF2
  have a1 := add_small m1.1 m2.1 (Rat.le_trans c1.1 (by decide +kernel)) (Rat.le_trans c2.1 (by decide +kernel))
  have b3 := num_k5 (num_k4 (rd_l a1) b1 b2 hF) (by decide +kernel) hF hF2
  exact ⟨⟨n64_fn g1, n64_fn x1, n64_fn x3, n64_fn x4, n64_fn x5, n64_fn m1.1, n64_fn y3, n64_fn y4, n64_fn y5, n64_fn m2.1, n64_fn a1.1⟩, a1.1, b3.2⟩
theorem sm_v {A : Nat → UInt64} {F : Rat} (hA : ∀ f, f < 84 → fn (A f) ∧ ab (rv (A f)) ≤ F) (hF : 1 ≤ F) (hF2 : F ≤ 2 ^ 109) (u : Bool) {x y : UInt64} (hx : fn x ∧ ab (rv x) ≤ 2 ^ 200) (hy : fn y ∧ ab (rv y) ≤ 2 ^ 200) : smOk A u x y ∧ fn (smF A u x y) ∧ ab (rv (smF A u x y)) ≤ 1024 * F := by
  have h5 : fn 4602678819172646912 ∧ ab (rv 4602678819172646912) ≤ 2 ^ 240 := ⟨(FP.Core.fin_bits _).mpr (by decide +kernel), by decide +kernel⟩
  have dx := (sub_small hx.1 h5.1 (Rat.le_trans hx.2 (by decide +kernel)) h5.2).1
  have dy := (sub_small hy.1 h5.1 (Rat.le_trans hy.2 (by decide +kernel)) h5.2).1
  have sw : sW u ≤ 6 ∧ 5 ≤ sW u ∧ sW (!u) ≤ 6 ∧ 5 ≤ sW (!u) := by cases u <;> decide
  have wx : fn (spX u x) ∧ 0 ≤ rv (spX u x) ∧ rv (spX u x) ≤ 6 := by
    unfold spX
    refine wi_v ?_ sw.1
    cases u
    · rw [if_neg (by decide)]; exact dx
    · rw [if_pos rfl]; exact hx.1
  have wy : fn (spY u y) ∧ 0 ≤ rv (spY u y) ∧ rv (spY u y) ≤ 6 := by
    unfold spY
    refine wi_v ?_ sw.2.2.1
    cases u
    · rw [if_neg (by decide)]; exact hy.1
    · rw [if_pos rfl]; exact dy
  have ix : ixN (sW u) (spX u x) < sW u := (ixN_lt (by omega) (by omega) (wi_pos _ (by omega))).1
  have iy : ixN (sW (!u)) (spY u y) < sW (!u) := (ixN_lt (by omega) (by omega) (wi_pos _ (by omega))).1
  have fx := sfr_v (w := sW u) wx.1 wx.2.1 wx.2.2 (by omega)
  have fy := sfr_v (w := sW (!u)) wy.1 wy.2.1 wy.2.2 (by omega)
  have hi : sAt u (ixN (sW u) (spX u x)) (ixN (sW (!u)) (spY u y)) + sW u + 1 + 1 < 84 := by
    unfold sAt
    generalize ixN (sW u) (spX u x) = i at *
    generalize ixN (sW (!u)) (spY u y) = j at *
    cases u
    · have e1 : sW false = 5 := rfl
      have e2 : sW (!false) = 6 := rfl
      rw [e1] at ix ⊢
      rw [e2] at iy
      rw [if_neg (by decide)]
      omega
    · have e1 : sW true = 6 := rfl
      have e2 : sW (!true) = 5 := rfl
      rw [e1] at ix ⊢
      rw [e2] at iy
      rw [if_pos rfl]
      omega
  have key := mxF_v fx fy (hA (sAt u (ixN (sW u) (spX u x)) (ixN (sW (!u)) (spY u y))) (by omega)) (hA (sAt u (ixN (sW u) (spX u x)) (ixN (sW (!u)) (spY u y)) + 1) (by omega)) (hA (sAt u (ixN (sW u) (spX u x)) (ixN (sW (!u)) (spY u y)) + sW u + 1) (by omega)) (hA (sAt u (ixN (sW u) (spX u x)) (ixN (sW (!u)) (spY u y)) + sW u + 1 + 1) hi) hF hF2
  exact ⟨⟨fun _ => n64_fn dx, fun _ => n64_fn dy, n64_fn fx.1, n64_fn fy.1, key.1⟩, key.2⟩
/-- a double that isn't large, as a float -/
theorem d2f_m {x : UInt64} {j : Nat} (hx : fn x) (hj : j ≤ 126) (h : ab (rv x) ≤ ((2 ^ j : Nat) : Rat)) : mgf (j + 128) (FP.d2f x) := by
  obtain ⟨s, c, q, hv⟩ := hx
  have fit := FP.Core.val64_fits x
  rw [hv] at fit
  obtain ⟨-, fq, -, -⟩ := fit
  have hn := FP.Core.val32_d2f x
  rw [hv] at hn
  have e9 : FP.d2f x = FP.Core.d2f x := FP.d2f_core ((FP.Core.notNaN_iff x).mpr (by rw [hv]; exact FP.Core.Datum.noConfusion))
  have hu : FP.Core.inUnits c q FP.Core.b64.qmin ≤ 2 ^ (j + 1074) := by
    unfold rv at h
    rw [hv, ← dv_units s c fq, ab_mul, ab_of (Rat.le_of_lt (p2_pos _)), ← na_val, FP.Core.natAbs_signed] at h
    have e1 : FP.Core.b64.qmin = -1074 := by decide
    rw [e1] at h ⊢
    refine Rat.natCast_le_natCast.mp (Rat.le_of_mul_le_mul_right (c := (2 : Rat) ^ (-1074 : Int)) ?_ (p2_pos _))
    refine Rat.le_trans h ?_
    rw [← p2_nat, ← p2_nat, ← p2_add]
    exact p2_le (by omega)
  have hm := FP.Core.mag_le (m := (j + 127) * 2 ^ 23) (A := c) (B := 1) (e := q) (s := s) FP.Core.good_b32 (n := (FP.Core.d2f x).toNat) hn (by decide) (e0 := FP.Core.b64.qmin) (by decide) fq (by
    rw [← FP.Core.tails_b32, FP.Core.unitsOf_start (by omega), FP.Core.tails_b32, FP.Core.qmin_b32, FP.Core.qmin_b64, Nat.mul_one]
    rw [FP.Core.qmin_b64] at hu
    refine Nat.le_trans hu ?_
    rw [← Nat.pow_add, ← Nat.pow_add]
    exact Nat.pow_le_pow_right (by decide) (by omega))
  rw [FP.Core.mag_toNat32] at hm
  unfold mgf
  rw [e9]
  omega
