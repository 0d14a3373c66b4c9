/-! making z, rounded: the way back -/
theorem bw_st {tk : Nat → Int32} {z : Nat → UInt64} {c w : Nat} {v D : UInt64} {A X : Rat} (hDf : fn D) (hD4 : 1 / 4 ≤ rv D) (hc : c < 36) (hw : w < 4) (hv : fn v) (hA : ab (rv v) ≤ A) (hA2 : A ≤ 2 ^ 110) (hX0 : 0 ≤ X) (hX2 : X ≤ 2 ^ 110) (hh : nbT tk c w → fn (z (nbN c w)) ∧ ab (rv (z (nbN c w))) ≤ 2 ^ 110 ∧ ab (rv (z (nbN c w)) / rv D) ≤ X) : (¬ nearI tk c w < 0 → vf_n64 (FP.ddiv (z (nearI tk c w).toNatClampNeg) D)) ∧ fn (if nearI tk c w < 0 then v else FP.dadd v (FP.ddiv (z (nearI tk c w).toNatClampNeg) D)) ∧ ab (rv (if nearI tk c w < 0 then v else FP.dadd v (FP.ddiv (z (nearI tk c w).toNatClampNeg) D)) - (rv v + tm4 tk (fun p => rv (z p)) c w / rv D)) ≤ uu * (A + 3 * X) + 3 * tt ∧ ab (tm4 tk (fun p => rv (z p)) c w / rv D) ≤ X := by
  have u0 := uu_0
  have t0 := tt_0
  unfold tm4
  rcases Classical.em (nbT tk c w) with g | g
  · obtain ⟨-, n2, n3, n4⟩ := nb_pos hc hw g
    obtain ⟨h1, h2, h3⟩ := hh g
    obtain ⟨a1, a2, a3⟩ := add_div hv h1 hDf hD4 hA h3 hA2 hX2 h2
    rw [if_neg n2, n3, ind_t g, Rat.one_mul]
    exact ⟨fun _ => n64_fn a1, a2, a3, h3⟩
  · have n2 := nb_neg hc hw g
    have e0 : (0 : Rat) / rv D = 0 := by grind
    rw [if_pos n2, ind_f g, Rat.zero_mul, e0, show rv v - (rv v + 0) = 0 by grind, ab_of Rat.le_refl]
    refine ⟨fun z => absurd n2 z, hv, ?_, hX0⟩
    have := Rat.mul_nonneg (Rat.le_of_lt u0) (show 0 ≤ A + 3 * X by have := ab_nn (rv v); grind)
    grind
theorem pos4 {D : Rat} (h : 1 / 4 ≤ D) : 0 < D := by grind
theorem num_bt {tt' A R : Rat} (t1 : 1000 * tt' ≤ uu * R / 1000) (h : 1 / 4 * R ≤ A) (hA : 0 ≤ A) : 100 * tt' ≤ uu * A / 1000 := by
  unfold uu at *
  grind
theorem num_b0 {x0 hq A : Rat} (h1 : ab hq ≤ 4096 * A) (h2 : ab (x0 - hq) ≤ uu * ab hq + tt) (t1 : 100 * tt ≤ uu * A / 1000) (hA : 0 ≤ A) : ab x0 ≤ 2 * (4096 * A) + A := by
  have w := ab_add (x0 - hq) hq
  rw [show x0 - hq + hq = x0 by grind] at w
  have := tt_0
  unfold uu at *
  grind
theorem num_b1 {x0 x1 z1 A B : Rat} (h1 : ab x0 ≤ 2 * (4096 * A) + A) (h2 : ab (x1 - (x0 + z1)) ≤ uu * (2 * (4096 * A) + A + 3 * B) + 3 * tt) (h3 : ab z1 ≤ B) (t1 : 100 * tt ≤ uu * A / 1000) (hA : 0 ≤ A) (hB : 0 ≤ B) : ab x1 ≤ 3 * (4096 * A) + 2 * B + 2 * A := by
  have w1 := ab_add (x1 - (x0 + z1)) (x0 + z1)
  have w2 := ab_add x0 z1
  rw [show x1 - (x0 + z1) + (x0 + z1) = x1 by grind] at w1
  have := tt_0
  unfold uu at *
  grind
theorem num_b2 {x0 x1 x2 hq z1 z3 A B : Rat} (h0 : ab hq ≤ 4096 * A) (h1 : ab (x0 - hq) ≤ uu * ab hq + tt) (h2 : ab (x1 - (x0 + z1)) ≤ uu * (2 * (4096 * A) + A + 3 * B) + 3 * tt) (h3 : ab (x2 - (x1 + z3)) ≤ uu * (3 * (4096 * A) + 2 * B + 2 * A + 3 * B) + 3 * tt) (t1 : 100 * tt ≤ uu * A / 1000) (hA : 0 ≤ A) (hB : 0 ≤ B) (hB2 : B ≤ 187000 * A) : ab (x2 - (hq + z1 + z3)) ≤ uu * (1910000 * A) := by
  have w1 := ab_add (x0 - hq) (x1 - (x0 + z1))
  have w2 := ab_add (x0 - hq + (x1 - (x0 + z1))) (x2 - (x1 + z3))
  rw [show x0 - hq + (x1 - (x0 + z1)) + (x2 - (x1 + z3)) = x2 - (hq + z1 + z3) by grind] at w2
  have := tt_0
  unfold uu at *
  grind
theorem num_b4 {D I R x h t1 t3 : Rat} (hI : D * I = 1) (hD : 0 ≤ D) (h0 : ab (x - (h * I + t1 * I + t3 * I)) ≤ uu * (1910000 * (R * I))) : ab (D * x - (h + t1 + t3)) ≤ uu * (1910000 * R) := by
  have e : D * (x - (h * I + t1 * I + t3 * I)) = D * x - (h + t1 + t3) := by
    rw [show D * (x - (h * I + t1 * I + t3 * I)) = D * x - (h + t1 + t3) * (D * I) by grind, hI]
    grind
  rw [← e, ab_mul, ab_of hD]
  have := Rat.mul_le_mul_of_nonneg_left h0 hD
  refine Rat.le_trans this ?_
  rw [show D * (uu * (1910000 * (R * I))) = uu * (1910000 * R) * (D * I) by grind, hI, Rat.mul_one]
  exact Rat.le_refl
theorem num_b5 {D X h t1 t3 i1 i3 Z R : Rat} (hD : 0 < D) (hD4 : 1 / 4 ≤ D) (hi : i1 + i3 ≤ D) (h1 : ab (D * X - (h + t1 + t3)) ≤ uu * (1910000 * R)) (hh : ab h ≤ 4096 * R) (ht1 : ab t1 ≤ i1 * Z) (ht3 : ab t3 ≤ i3 * Z) (hR : 0 < R) (hZ : 0 ≤ Z) : ab X ≤ Z + 17000 * R := by
  have w1 := ab_add (D * X - (h + t1 + t3)) (h + t1 + t3)
  have w2 := ab_add (h + t1) t3
  have w3 := ab_add h t1
  rw [show D * X - (h + t1 + t3) + (h + t1 + t3) = D * X by grind, ab_mul, ab_of (Rat.le_of_lt hD)] at w1
  refine Rat.le_of_mul_le_mul_left (c := D) ?_ hD
  have s1 := Rat.mul_le_mul_of_nonneg_right hi hZ
  have s2 := Rat.mul_le_mul_of_nonneg_right hD4 (Rat.le_of_lt hR)
  have e4 : D * (Z + 17000 * R) = D * Z + 17000 * (D * R) := by grind
  have e5 : (i1 + i3) * Z = i1 * Z + i3 * Z := by grind
  rw [e4]
  rw [e5] at s1
  generalize D * ab X = K1 at *
  generalize D * Z = K2 at *
  generalize D * R = K3 at *
  generalize i1 * Z = K4 at *
  generalize i3 * Z = K5 at *
  clear e4 e5 hi
  unfold uu at *
  grind
theorem num_b6 {A B R Z I : Rat} (hA : A = R * I) (hB : B = Z * I) (hI0 : 0 ≤ I) (hI4 : I ≤ 4) (hIl : 1 / 4 ≤ I) (hR0 : 0 < R) (hR2 : R ≤ 2 ^ 80) (hZ0 : 0 ≤ Z) (hZ : Z ≤ 187000 * R) : 0 ≤ A ∧ 0 ≤ B ∧ B ≤ 187000 * A ∧ 1 / 4 * R ≤ A ∧ 2 * (4096 * A) + A ≤ 2 ^ 110 ∧ B ≤ 2 ^ 110 ∧ 3 * (4096 * A) + 2 * B + 2 * A ≤ 2 ^ 110 ∧ 4096 * R ≤ 2 ^ 110 ∧ Z ≤ 2 ^ 110 := by
  have a1 := Rat.mul_nonneg (Rat.le_of_lt hR0) hI0
  have a2 := Rat.mul_nonneg hZ0 hI0
  have a3 := Rat.mul_le_mul_of_nonneg_right hZ hI0
  have a4 := Rat.mul_le_mul_of_nonneg_left hI4 (Rat.le_of_lt hR0)
  have a5 := Rat.mul_le_mul_of_nonneg_left hIl (Rat.le_of_lt hR0)
  rw [show 187000 * R * I = 187000 * (R * I) by grind, ← hA, ← hB] at a3
  rw [← hA] at a1 a4 a5
  rw [← hB] at a2
  clear hA hB
  grind
/-- the way back at one cell: D z = h + z of the right and upper ones, but for E -/
theorem bw_cell {tk : Nat → Int32} {h mk z : Nat → UInt64} {c : Nat} {R Z : Rat} (hM : MkH tk mk) (hc : c < 36) (ht : tk c ≠ 0) (hh : fn (h c)) (hhR : ab (rv (h c)) ≤ 4096 * R) (hR1 : 1 / 2 ^ 60 ≤ R) (hR2 : R ≤ 2 ^ 80) (hZ0 : 0 ≤ Z) (hZ : Z ≤ 187000 * R) (hz : ∀ w, (w = 1 ∨ w = 3) → nbT tk c w → fn (z (nbN c w)) ∧ ab (rv (z (nbN c w))) ≤ Z) : bwOk h mk z tk c ∧ fn (bwV h mk z tk c) ∧ ab (rv (mk c) * rv (bwV h mk z tk c) - (rv (h c) + tm4 tk (fun p => rv (z p)) c 1 + tm4 tk (fun p => rv (z p)) c 3)) ≤ uu * (1910000 * R) ∧ ab (rv (bwV h mk z tk c)) ≤ Z + 17000 * R := by
  have hR0 : 0 < R := by
    clear hz
    grind
  obtain ⟨m1, m2, m3, m4⟩ := hM c hc ht
  have m0 : 0 < rv (mk c) := pos4 m2
  have t1 := tt_R hR1
  obtain ⟨i1, i2⟩ := inv4 m2
  have iD : rv (mk c) * (1 / rv (mk c)) = 1 := by
    clear hz t1
    generalize rv (mk c) = D at *
    grind
  have il : 1 / 4 ≤ 1 / rv (mk c) := by
    have := Rat.mul_le_mul_of_nonneg_right m4 i1
    rw [iD] at this
    clear hz t1
    generalize 1 / rv (mk c) = I at *
    grind
  have hdiv : ∀ x : Rat, x / rv (mk c) = x * (1 / rv (mk c)) := fun x => by
    generalize rv (mk c) = D
    grind
  generalize hI : 1 / rv (mk c) = I at *
  obtain ⟨A, hA⟩ : ∃ A, A = R * I := ⟨_, rfl⟩
  obtain ⟨B, hB⟩ : ∃ B, B = Z * I := ⟨_, rfl⟩
  obtain ⟨n1, n2, n3, n4, n5, n6, n7, n8, n9⟩ := num_b6 hA hB i1 i2 il hR0 hR2 hZ0 hZ
  have t2 := num_bt t1 n4 n1
  obtain ⟨d1, -⟩ := div_small hh m1 m2 (Rat.le_trans hhR (Rat.le_trans n8 (by decide +kernel)))
  have e0 : bw0 h mk tk c = FP.ddiv (h c) (mk c) := by
    unfold bw0
    rw [if_neg ht]
  have dd := d1.2
  have d1 := d1.1
  rw [← e0] at dd d1
  have hq : ab (rv (h c) / rv (mk c)) ≤ 4096 * A := by
    rw [hdiv, ab_mul, ab_of i1, hA, show 4096 * (R * I) = 4096 * R * I by grind]
    exact Rat.mul_le_mul_of_nonneg_right hhR i1
  have zq : ∀ x : Rat, ab x ≤ Z → ab (x / rv (mk c)) ≤ B := fun x hx => by
    rw [hdiv, ab_mul, ab_of i1, hB]
    exact Rat.mul_le_mul_of_nonneg_right hx i1
  have hzz : ∀ w, (w = 1 ∨ w = 3) → nbT tk c w → fn (z (nbN c w)) ∧ ab (rv (z (nbN c w))) ≤ 2 ^ 110 ∧ ab (rv (z (nbN c w)) / rv (mk c)) ≤ B := fun w hw k => by
    obtain ⟨k1, k2⟩ := hz w hw k
    exact ⟨k1, Rat.le_trans k2 n9, zq _ k2⟩
  have hv0 := num_b0 hq dd t2 n1
  obtain ⟨a1, a2, a3, a4⟩ := bw_st (w := 1) m1 m2 hc (by omega) d1 hv0 n5 n2 n6 (hzz 1 (Or.inl rfl))
  have e1 : bw1 h mk z tk c = (if nearI tk c 1 < 0 then bw0 h mk tk c else FP.dadd (bw0 h mk tk c) (FP.ddiv (z (nearI tk c 1).toNatClampNeg) (mk c))) := by
    unfold bw1
    rw [if_neg ht]
  rw [← e1] at a2 a3
  obtain ⟨b1, b2, b3, b4⟩ := bw_st (w := 3) m1 m2 hc (by omega) a2 (num_b1 hv0 a3 a4 t2 n1 n2) n7 n2 n6 (hzz 3 (Or.inr rfl))
  have e2 : bwV h mk z tk c = (if nearI tk c 3 < 0 then bw1 h mk z tk c else FP.dadd (bw1 h mk z tk c) (FP.ddiv (z (nearI tk c 3).toNatClampNeg) (mk c))) := by
    unfold bwV
    rw [if_neg ht]
  rw [← e2] at b2 b3
  have key := num_b2 hq dd a3 b3 t2 n1 n2 n3
  rw [hdiv, hdiv, hdiv, hA] at key
  have key2 := num_b4 iD (Rat.le_of_lt m0) key
  have tz : ∀ w, (w = 1 ∨ w = 3) → ab (tm4 tk (fun p => rv (z p)) c w) ≤ ind (nbT tk c w) * Z := fun w hw => by
    unfold tm4
    rcases Classical.em (nbT tk c w) with g | g
    · rw [ind_t g, Rat.one_mul, Rat.one_mul]
      exact (hz w hw g).2
    · rw [ind_f g, Rat.zero_mul, Rat.zero_mul]
      exact Rat.le_refl
  refine ⟨⟨fun _ => by rw [← e0]; exact n64_fn d1, fun _ k => ⟨a1 k, n64_fn a2⟩, fun _ k => ⟨b1 k, n64_fn b2⟩⟩, b2, key2, num_b5 m0 m2 m3 key2 hhR (tz 1 (Or.inl rfl)) (tz 3 (Or.inr rfl)) hR0 hZ0⟩
