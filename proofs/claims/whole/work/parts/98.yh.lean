/-! a round: from the doubles to the argument over numbers -/
abbrev rowOk (tk : Nat → Int32) (f : Nat → UInt64) (M : Rat) : Prop := ∀ c, c < 36 → fn (f c) ∧ ab (rv (f c)) ≤ M ∧ (tk c = 0 → rv (f c) = 0)
theorem rowOk.z {tk : Nat → Int32} {f : Nat → UInt64} {M : Rat} (h : rowOk tk f M) : ∀ c, c < 36 → tk c = 0 → rv (f c) = 0 := fun c hc => (h c hc).2.2
theorem rowOk.m {tk : Nat → Int32} {f : Nat → UInt64} {M N : Rat} (h : rowOk tk f M) (hN : M ≤ N) : ∀ c, c < 36 → fn (f c) ∧ ab (rv (f c)) ≤ N := fun c hc => ⟨(h c hc).1, Rat.le_trans (h c hc).2.1 hN⟩
theorem tS_le {tk : Nat → Int32} {s : Nat → UInt64} {c : Nat} {M : Rat} (hc : c < 36) (hM : 0 ≤ M) (hs : ∀ j, j < 36 → ab (rv (s j)) ≤ M) : tS tk s c 4 ≤ 5 * M := by
  have k : ∀ w, w < 4 → tm4 tk (fun p => ab (rv (s p))) c w ≤ M := fun w hw => by
    have := tm4_ab (tk := tk) (f := fun p => ab (rv (s p))) (c := c) (w := w) hM (fun h => by
      show ab (ab (rv (s (nbN c w)))) ≤ M
      rw [ab_of (ab_nn _)]
      exact hs _ (nb_36 hc hw h.1))
    exact Rat.le_trans (ab_self _) this
  have k0 := k 0 (by omega)
  have k1 := k 1 (by omega)
  have k2 := k 2 (by omega)
  have k3 := k 3 (by omega)
  have k4 := hs c hc
  show ab (rv (s c)) + tm4 tk (fun p => ab (rv (s p))) c 0 + tm4 tk (fun p => ab (rv (s p))) c 1 + tm4 tk (fun p => ab (rv (s p))) c 2 + tm4 tk (fun p => ab (rv (s p))) c 3 ≤ 5 * M
  generalize tm4 tk (fun p => ab (rv (s p))) c 0 = a0 at *
  generalize tm4 tk (fun p => ab (rv (s p))) c 1 = a1 at *
  generalize tm4 tk (fun p => ab (rv (s p))) c 2 = a2 at *
  generalize tm4 tk (fun p => ab (rv (s p))) c 3 = a3 at *
  generalize ab (rv (s c)) = a4 at *
  clear k hs
  grind
theorem num_w1 {x P S : Rat} (h : ab (x - P) ≤ (4 + 5 * 4) * (uu * S) + (1 + 2 * 4) * tt) (hP : ab P ≤ 4 * S) (hS : S ≤ 5 * 2 ^ 90) (hS0 : 0 ≤ S) : ab x ≤ 2 ^ 95 ∧ ab (x - P) ≤ 24 * uu * S + ty := by
  have w := ab_add (x - P) P
  rw [show x - P + P = x by grind] at w
  have t1 := tt_le
  have t0 := tt_0
  have t2 : ty ≤ 1 := by unfold ty; decide +kernel
  constructor
  · unfold uu at *
    grind
  · have e : (4 + 5 * 4) * (uu * S) = 24 * uu * S := by grind
    rw [e] at h
    generalize 24 * uu * S = X at *
    grind
/-- the matrix times s: no NaN, magnitudes, both bounds -/
theorem tm_res {tk : Nat → Int32} {dg s : Nat → UInt64} {dn : Nat → Nat} (hD : DgH tk dg dn) (hs : rowOk tk s (2 ^ 90)) : tmOk dg s tk ∧ rowOk tk (tmG dg s tk) (2 ^ 95) ∧ (∀ j, j < 36 → ab (rR tk (tmG dg s tk) j - aS (eC tk) (fun c => (dn c : Rat)) (rR tk s) j) ≤ 24 * uu * Sg (eC tk) (rR tk s) j + ty) ∧ ∀ j, j < 36 → tC tk j → (dn j : Rat) = nn (eC tk) j → ab (rR tk (tmG dg s tk) j - aS (eC tk) (fun c => (dn c : Rat)) (rR tk s) j) ≤ u1 * (6 * ab (rR tk s j) + 4 * Gg (eC tk) (rR tk s) j) + ty := by
  have hs100 : ∀ j, j < 36 → fn (s j) ∧ ab (rv (s j)) ≤ 2 ^ 100 := hs.m (by decide +kernel)
  have hS5 : ∀ j, j < 36 → tS tk s j 4 ≤ 5 * 2 ^ 90 := fun j hj => tS_le hj (by decide +kernel) (fun i hi => (hs i hi).2.1)
  have hS : ∀ j, j < 36 → tS tk s j 4 ≤ 2 ^ 110 := fun j hj => Rat.le_trans (hS5 j hj) (by decide +kernel)
  have S0 : ∀ j, 0 ≤ tS tk s j 4 := fun j => Rat.le_trans (ab_nn (rv (s j))) (tS_up tk s j 0 (by omega))
  have all : ∀ j, j < 36 → ∀ w, w ≤ 4 → _ := fun j hj => tm_all (c := j) hj (hD.1 j hj).1 (hD.1 j hj).2 hs100 (hS j hj)
  have b4 : ∀ j, j < 36 → ab (rv (tmV dg s tk j 4)) ≤ 2 ^ 95 ∧ ab (rv (tmV dg s tk j 4) - tP tk dn s j 4) ≤ 24 * uu * tS tk s j 4 + ty := fun j hj => num_w1 (all j hj 4 (by omega)).2 (num_t5 (tS_up tk s j 0 (by omega)) Rat.le_refl (tP_le (tk := tk) (s := s) (hD.1 j hj).2 4)) (hS5 j hj) (S0 j)
  have eT : ∀ j, tk j ≠ 0 → tmG dg s tk j = tmV dg s tk j 4 := fun j h => by
    unfold tmG
    rw [if_neg h]
  have eF : ∀ j, tk j = 0 → tmG dg s tk j = FP.dconst0 := fun j h => by
    unfold tmG
    rw [if_pos h]
  refine ⟨fun c hc w hw => n64_fn (all c hc w (by omega)).1, fun c hc => ?_, fun j hj => ?_, fun j hj ht hcl => ?_⟩
  · rcases Classical.em (tk c = 0) with h | h
    · rw [eF c h]
      exact ⟨fn_c0, by rw [rv_c0]; decide +kernel, fun _ => rv_c0⟩
    · rw [eT c h]
      exact ⟨(all c hc 4 (by omega)).1, (b4 c hc).1, fun z => absurd z h⟩
  · rcases Classical.em (tk j = 0) with h | h
    · have hn : ¬ tC tk j := fun z => z.2 h
      have e0 : ∀ i, eC tk j i = 0 := fun i => by
        unfold eC
        exact ind_f (fun z => hn z.1)
      unfold aS Sg
      rw [rR_F hn, rR_F hn, Rat.mul_zero, sm_0 36 (fun i _ => by rw [e0 i, Rat.zero_mul]), sm_0 36 (fun i _ => by rw [e0 i, Rat.zero_mul])]
      have := ty_0
      rw [show (0 : Rat) - (0 - 0) = 0 by decide +kernel, ab_of Rat.le_refl, Rat.add_zero, Rat.mul_zero, Rat.zero_add]
      exact Rat.le_of_lt this
    · have hc : tC tk j := ⟨hj, h⟩
      rw [rR_T hc, eT j h, aS_v hc, Sg_v hc]
      exact (b4 j hj).2
  · rw [rR_T ht, eT j ht.2, aS_v ht, Gg_v ht, rR_T ht]
    exact tm_fine ht (hD.1 j hj).1 (hD.2 j hj ht.2).1 (hD.1 j hj).2 hcl hs100 (hS j hj)
theorem num_w2 {c d : Rat} (hc : 0 < c) (h : c / 1024 < d) : 0 < d ∧ 0 ≤ c / d ∧ c / d ≤ 1024 := by
  have hd : 0 < d := by grind
  have i : 0 < d⁻¹ := Rat.inv_pos.mpr hd
  have e : c / d = c * d⁻¹ := Rat.div_def c d
  have e1 : d * d⁻¹ = 1 := by grind
  have m := Rat.mul_le_mul_of_nonneg_right (show c ≤ 1024 * d by grind) (Rat.le_of_lt i)
  have m0 := Rat.mul_nonneg (Rat.le_of_lt hc) (Rat.le_of_lt i)
  rw [e]
  refine ⟨hd, m0, ?_⟩
  rw [show 1024 * d * d⁻¹ = 1024 * (d * d⁻¹) by grind, e1] at m
  generalize c * d⁻¹ = X at *
  grind
theorem num_w3 {al y : Rat} (h : ab (al - y) ≤ uu * ab y + tt) (h0 : 0 ≤ y) (h1 : y ≤ 1024) : ab al ≤ 1025 ∧ ab (al - y) ≤ uu * y + ty := by
  rw [ab_of h0] at h
  have w := ab_add (al - y) y
  rw [show al - y + y = al by grind, ab_of h0] at w
  have t1 := tt_le
  have t0 := tt_0
  have t2 : ty ≤ 1 / 2 := by unfold ty; decide +kernel
  constructor
  · unfold uu at *
    grind
  · generalize uu * y = X at *
    grind
theorem num_w4 {m x r rp : Rat} (h1 : ab (m - x) ≤ uu * ab x + tt) (h2 : ab (rp - (r - m)) ≤ uu * ab (r - m) + tt) : ab (rp - (r - x)) ≤ u1 * ab x + u1 * ab rp + ty := by
  have w1 := ab_sub rp (rp - (r - m))
  rw [show rp - (rp - (r - m)) = r - m by grind] at w1
  have w2 := ab_sub (rp - (r - m)) (m - x)
  rw [show rp - (r - m) - (m - x) = rp - (r - x) by grind] at w2
  have t1 := tt_le
  have t0 := tt_0
  have := ab_nn x
  have := ab_nn rp
  generalize ab (rp - (r - x)) = X1 at *
  generalize ab (rp - (r - m)) = X2 at *
  generalize ab (r - m) = X3 at *
  generalize ab (m - x) = X4 at *
  generalize ab x = X5 at *
  generalize ab rp = X6 at *
  unfold u1 uu at *
  grind
theorem num_w5 {al q : Rat} (h1 : ab al ≤ 1025) (h2 : ab q ≤ 2 ^ 95) : ab (al * q) ≤ 1025 * 2 ^ 95 := by
  rw [ab_mul]
  exact mul_le2 h1 h2 (ab_nn _) (by decide +kernel)
/-- p and r moved along s: no NaN, and Rn -/
theorem rn_of {tk : Nat → Int32} {dg r s q rp : Nat → UInt64} {dn : Nat → Nat} {now : UInt64} (hD : DgH tk dg dn) (hs : rowOk tk s (2 ^ 90)) (hr : rowOk tk r (2 ^ 10)) (hn : fn now) (hn1 : 1 / 2 ^ 66 ≤ rv now) (hq : ∀ c, c < 36 → q c = tmG dg s tk c) (hg : 0 < cvd (prd q s 6) (FP.dmul now 4562146422526312448) .l) (hn2 : rv now ≤ 2 ^ 40) (hrp : ∀ c, c < 36 → rp c = FP.dsub (r c) (FP.dmul (FP.ddiv now (prd q s 6)) (q c))) : fn (FP.ddiv now (prd q s 6)) ∧ ab (rv (FP.ddiv now (prd q s 6))) ≤ 1025 ∧ (∀ c, c < 36 → fn (FP.dmul (FP.ddiv now (prd q s 6)) (q c)) ∧ fn (rp c) ∧ (tk c = 0 → rv (rp c) = 0)) ∧ Rn (eC tk) (fun c => (dn c : Rat)) (tC tk) (rR tk r) (rR tk s) (rv now) (rR tk q) (rv (prd q s 6)) (rv (FP.ddiv now (prd q s 6))) (rR tk rp) := by
  obtain ⟨-, t1, t2, t3⟩ := tm_res hD hs
  have hqr : rowOk tk q (2 ^ 95) := fun c hc => by
    rw [hq c hc]
    exact t1 c hc
  have eq : ∀ j, j < 36 → rR tk q j = rR tk (tmG dg s tk) j := fun j hj => by
    unfold rR
    rw [hq j hj]
  obtain ⟨p1, p2⟩ := pr_val (hqr.m (N := 2 ^ 110) (by decide +kernel)) (hs.m (N := 2 ^ 110) (by decide +kernel))
  have e1 : dt (fun c => rv (q c)) (fun c => rv (s c)) = dt (rR tk q) (rR tk s) := dt_congr (fun c hc => (rR_in hqr.z hc).symm) (fun c hc => (rR_in hs.z hc).symm)
  have e2 : sm (fun j => ab (rv (q j)) * ab (rv (s j))) 36 = sm (fun j => ab (rR tk q j) * ab (rR tk s j)) 36 := sm_congr 36 (fun j hj => by rw [rR_in hqr.z hj, rR_in hs.z hj])
  rw [e1, e2] at p2
  have c0 : 0 < rv now := by
    clear hD hs hr hq hrp t1 t2 t3 hqr eq e1 e2 p2
    generalize rv now = X at *
    grind
  obtain ⟨m1, m2⟩ := mul_m10 hn hn1 (Rat.le_trans hn2 (by decide +kernel))
  have g1 := (cv_gt p1 m1 .l).mp hg
  rw [m2] at g1
  obtain ⟨d0, k0, k1⟩ := num_w2 c0 g1
  have rdd := r_div hn p1 (fun z => by rw [z] at d0; exact absurd d0 (by decide)) (by
    rw [ab_of k0]
    exact Rat.le_trans k1 (Rat.le_trans (by decide +kernel) big_ge))
  obtain ⟨al1, al2⟩ := num_w3 rdd.2 k0 k1
  have hm : ∀ c, c < 36 → rd (FP.dmul (FP.ddiv now (prd q s 6)) (q c)) (rv (FP.ddiv now (prd q s 6)) * rv (q c)) := fun c hc => mul_small rdd.1 (hqr c hc).1 (Rat.le_trans al1 (by decide +kernel)) (Rat.le_trans (hqr c hc).2.1 (by decide +kernel))
  have hmb : ∀ c, c < 36 → ab (rv (FP.dmul (FP.ddiv now (prd q s 6)) (q c))) ≤ 2 ^ 240 := fun c hc => by
    have a := rd_le (hm c hc)
    have b := num_w5 al1 (hqr c hc).2.1
    generalize ab (rv (FP.ddiv now (prd q s 6)) * rv (q c)) = X at *
    generalize ab (rv (FP.dmul (FP.ddiv now (prd q s 6)) (q c))) = Y at *
    clear hm hq hrp t1 t2 t3 hqr eq e1 e2 p2 hD hs hr
    grind
  have hsub : ∀ c, c < 36 → rd (rp c) (rv (r c) - rv (FP.dmul (FP.ddiv now (prd q s 6)) (q c))) := fun c hc => by
    rw [hrp c hc]
    exact sub_small (hr c hc).1 (hm c hc).1 (Rat.le_trans (hr c hc).2.1 (by decide +kernel)) (hmb c hc)
  have hz : ∀ c, c < 36 → tk c = 0 → rv (rp c) = 0 := fun c hc h => by
    have a := rd_0 (hm c hc) (by rw [(hqr c hc).2.2 h, Rat.mul_zero])
    refine rd_0 (hsub c hc) ?_
    rw [a, (hr c hc).2.2 h]
    decide +kernel
  refine ⟨rdd.1, al1, fun c hc => ⟨(hm c hc).1, (hsub c hc).1, hz c hc⟩, fun j hj => rR_F hj, fun j hj => ?_, fun j hj ht hcl => ?_, p2, d0, g1, al2, fun j hj => rR_F hj, fun j hj => ?_⟩
  · rw [eq j hj]
    exact t2 j hj
  · rw [eq j hj]
    exact t3 j hj ht hcl
  · rw [rR_in hz hj, rR_in hr.z hj, rR_in hqr.z hj]
    exact num_w4 (hm j hj).2 (hsub j hj).2
