/-! the forces, the first rest, and SOLVING from it -/
theorem pull_v {g : UInt64} (h : okPull g = true) : fn g ∧ ab (rv g) ≤ 4 := by
  have hn := n64_ne (pull_n h)
  have f1 : fn 13839561654909534208 := (FP.Core.fin_bits _).mpr (by decide +kernel)
  have f2 : fn 4616189618054758400 := (FP.Core.fin_bits _).mpr (by decide +kernel)
  have v1 : rv 13839561654909534208 = -4 := by decide +kernel
  have v2 : rv 4616189618054758400 = 4 := by decide +kernel
  unfold okPull at h
  have hf : fn g := by
    have k1 : FP.dcmp g 13839561654909534208 = some (compare (FP.Core.dkey g) (FP.Core.dkey 13839561654909534208)) := FP.Core.dcmp_key hn f1.ne_nan
    have k2 : FP.dcmp g 4616189618054758400 = some (compare (FP.Core.dkey g) (FP.Core.dkey 4616189618054758400)) := FP.Core.dcmp_key hn f2.ne_nan
    rw [k1, k2] at h
    have e1 : FP.Core.dkey 13839561654909534208 = -4616189618054758400 := by decide +kernel
    have e2 : FP.Core.dkey 4616189618054758400 = 4616189618054758400 := by decide +kernel
    rw [e1, e2] at h
    have l1 : -4616189618054758400 ≤ FP.Core.dkey g := by
      refine Int.not_lt.mp (fun z => ?_)
      rw [(FP.Core.compare_lt_iff _ _).mpr z, if_pos (by decide)] at h
      cases h
    have l2 : FP.Core.dkey g ≤ 4616189618054758400 := by
      refine Int.not_lt.mp (fun z => ?_)
      rw [(FP.Core.compare_gt_iff _ _).mpr z] at h
      split at h
      · cases h
      · rw [if_neg (by decide)] at h
        cases h
    refine (FP.Core.fin_bits g).mpr ?_
    unfold FP.Core.dkey at l1 l2
    have := g.toNat_lt
    by_cases h : 2 ^ 63 ≤ g.toNat
    · rw [if_pos h] at l1 l2
      omega
    · rw [if_neg h] at l1 l2
      omega
  refine ⟨hf, ?_⟩
  have l1 : ¬ rv g < -4 := fun z => by
    rw [← v1] at z
    rw [if_pos ((cv_lt hf f1 .l).mpr z)] at h
    cases h
  have l2 : rv g ≤ 4 := by
    refine Rat.not_lt.mp (fun z => ?_)
    rw [← v2] at z
    rw [if_neg (fun y => by rw [← v1] at l1; exact l1 ((cv_lt hf f1 .l).mp y)), if_neg (fun y => by
      have := (cv_le hf f2 .g).mp y
      exact absurd this (Rat.not_le.mpr z))] at h
    cases h
  rw [ab_le]
  clear h
  generalize rv g = X at *
  grind
theorem t_v {t : UInt64} (hm : mgd 1056 t) (h : okT t = true) : fn t ∧ 0 ≤ rv t ∧ rv t ≤ 1 := by
  have hf := (mag_val (K := 1056) (by omega) hm).1
  unfold okT at h
  by_cases h1 : cvd t FP.dconst0 .l ≤ 0
  · rw [if_pos h1] at h
    cases h
  · rw [if_neg h1] at h
    have h2 := of_decide_eq_true h
    have l1 : ¬ rv t ≤ rv FP.dconst0 := fun z => h1 ((cv_le hf fn_c0 .l).mpr z)
    have l2 := (cv_le hf fn_c1 .l).mp h2
    rw [rv_c0] at l1
    rw [rv_c1] at l2
    exact ⟨hf, Rat.le_of_lt (Rat.not_le.mp l1), l2⟩
theorem num_j1 {m t p : Rat} (h : ab (m - t * p) ≤ uu * ab (t * p) + tt) (ht : 0 ≤ t) (ht1 : t ≤ 1) (hp : ab p ≤ 4) : ab m ≤ 4 + 5 * uu := by
  have a : ab (t * p) ≤ 4 := by
    rw [ab_mul, ab_of ht]
    have := mul_le2 ht1 hp ht (by decide)
    rw [Rat.one_mul] at this
    exact this
  have w := ab_add (m - t * p) (t * p)
  rw [show m - t * p + t * p = m by grind] at w
  have t1 := tt_u
  generalize ab (t * p) = X at *
  unfold uu at *
  grind
theorem num_j2 {y b m : Rat} (h : ab (y - (b + m)) ≤ uu * ab (b + m) + tt) (hb : ab b ≤ 8 + 2048 * uu) (hm : ab m ≤ 4 + 5 * uu) : ab y ≤ 12 + 2100 * uu := by
  have w := ab_add (y - (b + m)) (b + m)
  rw [show y - (b + m) + (b + m) = y by grind] at w
  have w2 := ab_add b m
  have t1 := tt_u
  generalize ab (b + m) = X at *
  unfold uu at *
  grind
theorem frc_v {bef : Nat → UInt64} {sol : Nat → Int32} {t pull : UInt64} {f : Nat} (hb : fn (bef f) ∧ ab (rv (bef f)) ≤ 8 + 2048 * uu) (ht : fn t ∧ 0 ≤ rv t ∧ rv t ≤ 1) (hp : fn pull ∧ ab (rv pull) ≤ 4) : frcOk bef t pull f ∧ fn (frcG bef sol t pull f) ∧ (f < 42 → ab (rv (frcG bef sol t pull f)) ≤ 8 + 2048 * uu) ∧ ab (rv (frcG bef sol t pull f)) ≤ 12 + 2100 * uu ∧ (clB sol f = true → rv (frcG bef sol t pull f) = 0) := by
  have m := mul_small ht.1 hp.1 (by rw [ab_of ht.2.1]; exact Rat.le_trans ht.2.2 (by decide +kernel)) (Rat.le_trans hp.2 (by decide +kernel))
  have mb := num_j1 m.2 ht.2.1 ht.2.2 hp.2
  have a := add_small hb.1 m.1 (Rat.le_trans hb.2 (by decide +kernel)) (Rat.le_trans mb (by decide +kernel))
  have ab2 := num_j2 a.2 hb.2 mb
  refine ⟨fun _ => ⟨n64_fn m.1, n64_fn a.1⟩, ?_⟩
  unfold frcG
  by_cases hcl : clB sol f = true
  · rw [if_pos hcl, rv_c0]
    exact ⟨fn_c0, fun _ => by decide +kernel, by decide +kernel, fun _ => rfl⟩
  · rw [if_neg hcl]
    by_cases hf : f < 42
    · rw [if_pos hf]
      exact ⟨hb.1, fun _ => hb.2, Rat.le_trans hb.2 (by decide +kernel), fun z => absurd z hcl⟩
    · rw [if_neg hf]
      exact ⟨a.1, fun z => absurd z hf, ab2, fun z => absurd z hcl⟩
theorem neg_ex {x : UInt64} (hx : fn x) (hb : ab (rv x) ≤ 2 ^ 240) : fn (FP.dsub FP.dconst0 x) ∧ rv (FP.dsub FP.dconst0 x) = -rv x := by
  obtain ⟨n1, n2⟩ := rv_neg hx
  have f := (sub_small fn_c0 hx (by rw [rv_c0]; decide +kernel) hb).1
  have a := sub_le fn_c0 hx n1 f (by rw [rv_c0, n2]; generalize rv x = X; grind)
  have b := sub_ge fn_c0 hx n1 f (by rw [rv_c0, n2]; generalize rv x = X; grind)
  exact ⟨f, by rw [Rat.le_antisymm a b, n2]⟩
theorem num_j3 {x1 x2 x3 R L U D : Rat} (h1 : ab (x1 - (R - L)) ≤ uu * ab (R - L) + tt) (h2 : ab (x2 - (x1 + U)) ≤ uu * ab (x1 + U) + tt) (h3 : ab (x3 - (x2 - D)) ≤ uu * ab (x2 - D) + tt) (hR : ab R ≤ 8 + 2048 * uu) (hL : ab L ≤ 8 + 2048 * uu) (hU : ab U ≤ 12 + 2100 * uu) (hD : ab D ≤ 12 + 2100 * uu) : ab (x3 - (R - L + U - D)) ≤ 90 * uu ∧ ab x3 ≤ 2 ^ 9 := by
  have t1 := tt_u
  have a1 := ab_sub R L
  have a2 := ab_add (x1 - (R - L)) (R - L + U)
  rw [show x1 - (R - L) + (R - L + U) = x1 + U by grind] at a2
  have a3 := ab_add (R - L) U
  have a4 := ab_add (x2 - (x1 + U)) (x1 + U - D)
  rw [show x2 - (x1 + U) + (x1 + U - D) = x2 - D by grind] at a4
  have a5 := ab_sub (x1 + U) D
  have a6 := ab_add (x3 - (x2 - D)) (x2 - (x1 + U))
  have a7 := ab_add (x3 - (x2 - D) + (x2 - (x1 + U))) (x1 - (R - L))
  rw [show x3 - (x2 - D) + (x2 - (x1 + U)) + (x1 - (R - L)) = x3 - (R - L + U - D) by grind] at a7
  have a8 := ab_add (x3 - (x2 - D)) (x2 - D)
  rw [show x3 - (x2 - D) + (x2 - D) = x3 by grind] at a8
  generalize ab (x3 - (R - L + U - D)) = y1 at *
  generalize ab (x3 - (x2 - D) + (x2 - (x1 + U))) = y2 at *
  generalize ab (x3 - (x2 - D)) = y3 at *
  generalize ab (x2 - (x1 + U)) = y4 at *
  generalize ab (x1 - (R - L)) = y5 at *
  generalize ab (x2 - D) = y6 at *
  generalize ab (x1 + U) = y7 at *
  generalize ab (R - L) = y8 at *
  generalize ab (R - L + U) = y9 at *
  generalize ab (x1 + U - D) = y10 at *
  unfold uu at *
  grind
theorem num_j4 {x1 R L : Rat} (h1 : ab (x1 - (R - L)) ≤ uu * ab (R - L) + tt) (hR : ab R ≤ 12 + 2100 * uu) (hL : ab L ≤ 12 + 2100 * uu) : ab x1 ≤ 2 ^ 5 := by
  have t1 := tt_u
  have a1 := ab_sub R L
  have a2 := ab_add (x1 - (R - L)) (R - L)
  rw [show x1 - (R - L) + (R - L) = x1 by grind] at a2
  generalize ab (R - L) = y8 at *
  unfold uu at *
  grind
theorem num_j5 {x2 x1 U : Rat} (h : ab x2 ≤ 2 * ab (x1 + U) + 1) (h1 : ab x1 ≤ 2 ^ 5) (hU : ab U ≤ 12 + 2100 * uu) : ab x2 ≤ 2 ^ 240 := by
  have := ab_add x1 U
  generalize ab (x1 + U) = X at *
  unfold uu at *
  grind
/-- the first rest of a cell -/
theorem out_v {af : Nat → UInt64} (haf : ∀ f, f < 84 → fn (af f) ∧ (f < 42 → ab (rv (af f)) ≤ 8 + 2048 * uu) ∧ ab (rv (af f)) ≤ 12 + 2100 * uu) {sol fl : Nat → Int32} {c : Nat} (hc : c < 36) : rOk sol fl af c ∧ fn (outF af c) ∧ ab (rv (outF af c)) ≤ 2 ^ 9 ∧ ab (-rv (outF af c) + (gC af c 0 + gC af c 1 + gC af c 2 + gC af c 3)) ≤ 90 * uu := by
  have hL := haf (7 * (c / 6) + c % 6) (by omega)
  have hR := haf (7 * (c / 6) + c % 6 + 1) (by omega)
  have hU := haf (42 + 6 * (c / 6) + 6 + c % 6) (by omega)
  have hD := haf (42 + 6 * (c / 6) + c % 6) (by omega)
  have x1 := sub_small hR.1 hL.1 (Rat.le_trans hR.2.2 (by decide +kernel)) (Rat.le_trans hL.2.2 (by decide +kernel))
  have b1 := num_j4 x1.2 hR.2.2 hL.2.2
  have x2 := add_small x1.1 hU.1 (Rat.le_trans b1 (by decide +kernel)) (Rat.le_trans hU.2.2 (by decide +kernel))
  have b2 := num_j5 (rd_le x2) b1 hU.2.2
  have x3 := sub_small x2.1 hD.1 b2 (Rat.le_trans hD.2.2 (by decide +kernel))
  obtain ⟨k1, k2⟩ := num_j3 x1.2 x2.2 x3.2 (hR.2.1 (by omega)) (hL.2.1 (by omega)) hU.2.2 hD.2.2
  refine ⟨⟨n64_fn x1.1, n64_fn x2.1, n64_fn x3.1, fun _ => n64_fn (neg_ex x3.1 (Rat.le_trans k2 (by decide +kernel))).1⟩, x3.1, k2, ?_⟩
  show ab (-rv (outF af c) + (-1 * rv (af (7 * (c / 6) + c % 6)) + 1 * rv (af (7 * (c / 6) + c % 6 + 1)) + -1 * rv (af (42 + 6 * (c / 6) + c % 6)) + 1 * rv (af (42 + 6 * (c / 6) + 6 + c % 6)))) ≤ 90 * uu
  rw [show -rv (outF af c) + (-1 * rv (af (7 * (c / 6) + c % 6)) + 1 * rv (af (7 * (c / 6) + c % 6 + 1)) + -1 * rv (af (42 + 6 * (c / 6) + c % 6)) + 1 * rv (af (42 + 6 * (c / 6) + 6 + c % 6))) = -(rv (outF af c) - (rv (af (7 * (c / 6) + c % 6 + 1)) - rv (af (7 * (c / 6) + c % 6)) + rv (af (42 + 6 * (c / 6) + 6 + c % 6)) - rv (af (42 + 6 * (c / 6) + c % 6)))) by
    generalize rv (outF af c) = p0
    generalize rv (af (7 * (c / 6) + c % 6)) = p1
    generalize rv (af (7 * (c / 6) + c % 6 + 1)) = p2
    generalize rv (af (42 + 6 * (c / 6) + c % 6)) = p3
    generalize rv (af (42 + 6 * (c / 6) + 6 + c % 6)) = p4
    grind, ab_neg]
  exact k1
