/-! makers -/
theorem near_f {tk : Nat → Int32} {c w : Nat} (hc : c < 36) (hw : w < 4) (h : ¬ nearI tk c w < 0) : nbT tk c w := Classical.byContradiction (fun z => h (nb_neg hc hw z))
theorem nb_lt {c w : Nat} (hc : c < 36) (hw : w = 0 ∨ w = 2) (h : nbI c w = true) : nbN c w < c := by
  obtain ⟨g0, -, g, -⟩ := g_self ⟨c, hc⟩ ⟨w, by omega⟩ h
  have g0 : nbN c w ≠ c := g0
  have g : c < nbN c w ↔ (w = 1 ∨ w = 3) := g
  have : ¬ c < nbN c w := fun k => by have := g.mp k; omega
  omega
theorem nb_gt {c w : Nat} (hc : c < 36) (hw : w = 1 ∨ w = 3) (h : nbI c w = true) : c < nbN c w := by
  obtain ⟨-, -, g, -⟩ := g_self ⟨c, hc⟩ ⟨w, by omega⟩ h
  exact g.mpr hw
theorem mkV_congr {dg m1 m2 : Nat → UInt64} {tk : Nat → Int32} {c : Nat} (hc : c < 36) (h0 : nbT tk c 0 → m1 (nbN c 0) = m2 (nbN c 0)) (h2 : nbT tk c 2 → m1 (nbN c 2) = m2 (nbN c 2)) : mkV dg m1 tk c = mkV dg m2 tk c ∧ (mkOk dg m2 tk c → mkOk dg m1 tk c) := by
  have k0 : ¬ nearI tk c 0 < 0 → m1 (nearI tk c 0).toNatClampNeg = m2 (nearI tk c 0).toNatClampNeg := fun h => by
    have g := near_f hc (by omega) h
    rw [(nb_pos hc (by omega) g).2.2.1]
    exact h0 g
  have k2 : ¬ nearI tk c 2 < 0 → m1 (nearI tk c 2).toNatClampNeg = m2 (nearI tk c 2).toNatClampNeg := fun h => by
    have g := near_f hc (by omega) h
    rw [(nb_pos hc (by omega) g).2.2.1]
    exact h2 g
  have e1 : mk1 dg m1 tk c = mk1 dg m2 tk c := by
    unfold mk1
    split
    · rfl
    · rename_i h
      rw [k0 h]
  have e2 : mk2 dg m1 tk c = mk2 dg m2 tk c := by
    unfold mk2
    rw [e1]
    split
    · rfl
    · rename_i h
      rw [k2 h]
  refine ⟨by unfold mkV; rw [e2], fun ⟨a, b, d⟩ => ⟨fun h => ?_, fun h => ?_, d⟩⟩
  · rw [k0 h, e1]
    exact a h
  · rw [k2 h, e2]
    exact b h
theorem mkR_fix {dg old : Nat → UInt64} {tk : Nat → Int32} {c : Nat} (hc : c < 36) : mkR dg old tk 36 c = mkV dg (mkR dg old tk 36) tk c ∧ (mkOk dg (mkR dg old tk 36) tk c → mkOk dg (mkR dg old tk c) tk c) := by
  have k : ∀ d, d < c → mkR dg old tk c d = mkR dg old tk 36 d := fun d hd => by rw [mkR_at dg old tk c hd, mkR_at dg old tk 36 (by omega)]
  obtain ⟨a, b⟩ := mkV_congr (dg := dg) (m1 := mkR dg old tk c) (m2 := mkR dg old tk 36) hc (fun h => k _ (nb_lt hc (Or.inl rfl) h.1)) (fun h => k _ (nb_lt hc (Or.inr rfl) h.1))
  exact ⟨by rw [mkR_at dg old tk 36 hc, a], b⟩
/-- the diagonal: whole numbers, enough for the neighbours that take part -/
abbrev DgH (tk : Nat → Int32) (dg : Nat → UInt64) (dn : Nat → Nat) : Prop := (∀ c, c < 36 → dg c = FP.i2d (nI (dn c)) ∧ dn c ≤ 4) ∧ ∀ c, c < 36 → tk c ≠ 0 → 1 ≤ dn c ∧ ind (nbT tk c 0) + ind (nbT tk c 1) + ind (nbT tk c 2) + ind (nbT tk c 3) ≤ (dn c : Rat)
theorem dg_v {tk : Nat → Int32} {dg : Nat → UInt64} {dn : Nat → Nat} (h : DgH tk dg dn) {c : Nat} (hc : c < 36) : fn (dg c) ∧ rv (dg c) = (dn c : Rat) ∧ (0 : Rat) ≤ dn c ∧ (dn c : Rat) ≤ 4 := by
  obtain ⟨a, b⟩ := h.1 c hc
  rw [a]
  exact ⟨dc_fn _, dc_v ⟨dn c, by omega⟩, Rat.natCast_nonneg, nat_rat b⟩
theorem ind_2 (p : Prop) : ind p = 0 ∨ ind p = 1 := by
  rcases Classical.em p with h | h
  · exact Or.inr (ind_t h)
  · exact Or.inl (ind_f h)
/-- the number of right and upper neighbours -/
noncomputable def ruN (tk : Nat → Int32) (c : Nat) : Nat := (@ite Nat (nbT tk c 1) (Classical.propDecidable _) 1 0) + (@ite Nat (nbT tk c 3) (Classical.propDecidable _) 1 0)
theorem ruN_v (tk : Nat → Int32) (c : Nat) : (ruN tk c : Rat) = ind (nbT tk c 1) + ind (nbT tk c 3) := by
  unfold ruN
  rw [Rat.natCast_add]
  rcases Classical.em (nbT tk c 1) with h | h <;> rcases Classical.em (nbT tk c 3) with k | k
  · rw [if_pos h, if_pos k, ind_t h, ind_t k]; rfl
  · rw [if_pos h, if_neg k, ind_t h, ind_f k]; rfl
  · rw [if_neg h, if_pos k, ind_f h, ind_t k]; rfl
  · rw [if_neg h, if_neg k, ind_f h, ind_f k]; rfl
theorem ruN_2 (tk : Nat → Int32) (c : Nat) : ruN tk c ≤ 2 := by
  unfold ruN
  split <;> split <;> omega
theorem ru_v {tk : Nat → Int32} {c : Nat} (hc : tC tk c) : ru (eC tk) c = ind (nbT tk c 1) + ind (nbT tk c 3) := by
  unfold ru
  have := uE_dot hc (fun _ => 1)
  rw [sm_congr 36 (fun j _ => (Rat.mul_one (uE (eC tk) c j)).symm), this]
  unfold tm4
  grind
theorem quar {dn : Nat} (h : dn ≤ 4) : fn (FP.dmul 4598175219545276416 (FP.i2d (nI dn))) ∧ rv (FP.dmul 4598175219545276416 (FP.i2d (nI dn))) = 1 / 4 * (dn : Rat) := by
  have t : ∀ m : Fin 5, rv (FP.dmul 4598175219545276416 (FP.i2d (nI m.val))) = 1 / 4 * (m.val : Rat) ∧ (FP.dmul 4598175219545276416 (FP.i2d (nI m.val))).toNat % 2 ^ 63 < 9218868437227405312 := by decide +kernel
  obtain ⟨a, b⟩ := t ⟨dn, by omega⟩
  exact ⟨(FP.Core.fin_bits _).mpr b, a⟩
abbrev mB (mk : Nat → UInt64) (p : Nat) : Prop := fn (mk p) ∧ 1 ≤ rv (mk p) ∧ rv (mk p) ≤ 4
theorem rat_add_le {a b c d : Rat} (h1 : a ≤ b) (h2 : c ≤ d) : a + c ≤ b + d := by grind
theorem ab_box {x d : Rat} (h1 : x ≤ d) (h2 : d ≤ 4) (h3 : 0 ≤ d) (h4 : d - 3 / 2 ≤ x) : ab x ≤ 4 := by
  rw [ab_le]
  grind
theorem num_m3 {i0 i1 i2 i3 d : Rat} (h : i0 + i1 + i2 + i3 ≤ d) (h2 : i2 = 0) : i1 + i3 ≤ d - i0 := by grind
theorem num_m4 {i0 i1 i2 i3 d : Rat} (h : i0 + i1 + i2 + i3 ≤ d) (h2 : i2 = 1) : i1 + i3 + 1 ≤ d - i0 := by grind
theorem num_m5 {a b : Rat} (h : a + 1 ≤ b) : a ≤ b - 1 := by grind
theorem num_m6 {a b : Rat} (h : a ≤ b) : a ≤ b - 0 := by grind
theorem mk_st {tk : Nat → Int32} {mk : Nat → UInt64} {c w : Nat} {x : UInt64} (hc : c < 36) (hw : w < 4) (hx : fn x) (hx4 : ab (rv x) ≤ 4) (h : nbT tk c w → mB mk (nbN c w)) : (¬ nearI tk c w < 0 → vf_n64 (FP.ddiv FP.dconst1 (mk (nearI tk c w).toNatClampNeg))) ∧ fn (if nearI tk c w < 0 then x else FP.dsub x (FP.ddiv FP.dconst1 (mk (nearI tk c w).toNatClampNeg))) ∧ ab (rv (if nearI tk c w < 0 then x else FP.dsub x (FP.ddiv FP.dconst1 (mk (nearI tk c w).toNatClampNeg))) - (rv x - tm4 tk (fun p => 1 / rv (mk p)) c w)) ≤ 8 * uu ∧ rv (if nearI tk c w < 0 then x else FP.dsub x (FP.ddiv FP.dconst1 (mk (nearI tk c w).toNatClampNeg))) ≤ rv x ∧ (∀ m : Nat, m ≤ 4 → (m : Rat) ≤ rv x - ind (nbT tk c w) → (m : Rat) ≤ rv (if nearI tk c w < 0 then x else FP.dsub x (FP.ddiv FP.dconst1 (mk (nearI tk c w).toNatClampNeg)))) ∧ rv x - 3 / 2 ≤ rv (if nearI tk c w < 0 then x else FP.dsub x (FP.ddiv FP.dconst1 (mk (nearI tk c w).toNatClampNeg))) := by
  have u0 := uu_0
  unfold tm4
  rcases Classical.em (nbT tk c w) with g | g
  · obtain ⟨-, n2, n3, n4⟩ := nb_pos hc hw g
    obtain ⟨b1, b2, b3⟩ := h g
    obtain ⟨v1, v2, v3, v4⟩ := dv1 b1 b2 b3
    obtain ⟨w1, w2, w3, w4⟩ := sb1 hx v1 hx4 v2 v3
    rw [if_neg n2, n3, ind_t g, Rat.one_mul]
    refine ⟨fun _ => n64_fn v1, w1, ?_, w3, w4, ?_⟩
    · have a := ab_add (rv (FP.dsub x (FP.ddiv FP.dconst1 (mk (nbN c w)))) - (rv x - rv (FP.ddiv FP.dconst1 (mk (nbN c w))))) (-(rv (FP.ddiv FP.dconst1 (mk (nbN c w))) - 1 / rv (mk (nbN c w))))
      rw [ab_neg] at a
      rw [show rv (FP.dsub x (FP.ddiv FP.dconst1 (mk (nbN c w)))) - (rv x - rv (FP.ddiv FP.dconst1 (mk (nbN c w)))) + -(rv (FP.ddiv FP.dconst1 (mk (nbN c w))) - 1 / rv (mk (nbN c w))) = rv (FP.dsub x (FP.ddiv FP.dconst1 (mk (nbN c w)))) - (rv x - 1 / rv (mk (nbN c w))) by
        generalize 1 / rv (mk (nbN c w)) = y
        clear w4 h
        grind] at a
      refine Rat.le_trans a (Rat.le_trans (rat_add_le w2 v4) ?_)
      unfold uu
      decide +kernel
    · have a := (ab_le.mp w2).2
      generalize rv (FP.dsub x (FP.ddiv FP.dconst1 (mk (nbN c w)))) = X at *
      generalize rv (FP.ddiv FP.dconst1 (mk (nbN c w))) = Y at *
      clear w4 h w2 v4 w1 v1
      unfold uu at *
      grind
  · have n2 := nb_neg hc hw g
    rw [if_pos n2, ind_f g, Rat.zero_mul, show rv x - (rv x - 0) = 0 by grind, ab_of Rat.le_refl]
    refine ⟨fun z => absurd n2 z, hx, by unfold uu; decide +kernel, Rat.le_refl, fun m _ k => ?_, ?_⟩
    · clear h
      grind
    · clear h
      grind
theorem num_m2 {x1 x2 d z0 z2 : Rat} (h1 : ab (x1 - (d - z0)) ≤ 8 * uu) (h2 : ab (x2 - (x1 - z2)) ≤ 8 * uu) : ab (x2 - (d - z0 - z2)) ≤ 16 * uu := by
  have a := ab_add (x2 - (x1 - z2)) (x1 - (d - z0))
  rw [show x2 - (x1 - z2) + (x1 - (d - z0)) = x2 - (d - z0 - z2) by grind] at a
  refine Rat.le_trans a (Rat.le_trans (rat_add_le h2 h1) ?_)
  unfold uu
  decide +kernel
/-- the maker of one cell -/
theorem mk_cell {tk : Nat → Int32} {dg mk : Nat → UInt64} {dn : Nat → Nat} (hD : DgH tk dg dn) (hm : ∀ c, c < 36 → mk c = mkV dg mk tk c) {c : Nat} (hc : c < 36) (h0 : nbT tk c 0 → mB mk (nbN c 0)) (h2 : nbT tk c 2 → mB mk (nbN c 2)) :
    mkOk dg mk tk c ∧ fn (mk2 dg mk tk c) ∧ fn (mk c) ∧ ab (rv (mk2 dg mk tk c) - ((dn c : Rat) - tm4 tk (fun p => 1 / rv (mk p)) c 0 - tm4 tk (fun p => 1 / rv (mk p)) c 2)) ≤ 16 * uu ∧ rv (mk2 dg mk tk c) ≤ dn c ∧ (tk c ≠ 0 → ind (nbT tk c 1) + ind (nbT tk c 3) ≤ rv (mk2 dg mk tk c)) ∧ ((rv (mk2 dg mk tk c) < 1 / 4 * (dn c : Rat) ∧ mk c = dg c) ∨ (1 / 4 * (dn c : Rat) ≤ rv (mk2 dg mk tk c) ∧ mk c = mk2 dg mk tk c)) := by
  obtain ⟨d1, d2, d3, d4⟩ := dg_v hD hc
  obtain ⟨q1, q2⟩ := quar (hD.1 c hc).2
  rw [← (hD.1 c hc).1] at q1 q2
  have hm := hm c hc
  have hru : tk c ≠ 0 → ind (nbT tk c 0) + ind (nbT tk c 1) + ind (nbT tk c 2) + ind (nbT tk c 3) ≤ (dn c : Rat) := fun ht => (hD.2 c hc ht).2
  clear hD
  obtain ⟨a6, a1, a2, a3, a4, a5⟩ := mk_st (w := 0) hc (by omega) d1 (by rw [d2, ab_of d3]; exact d4) h0
  have e1 : mk1 dg mk tk c = (if nearI tk c 0 < 0 then dg c else FP.dsub (dg c) (FP.ddiv FP.dconst1 (mk (nearI tk c 0).toNatClampNeg))) := rfl
  rw [← e1] at a1 a2 a3 a4 a5
  rw [d2] at a2 a3 a4 a5
  obtain ⟨b6, b1, b2, b3, b4, b5⟩ := mk_st (w := 2) hc (by omega) a1 (ab_box a3 d4 d3 a5) h2
  have e2 : mk2 dg mk tk c = (if nearI tk c 2 < 0 then mk1 dg mk tk c else FP.dsub (mk1 dg mk tk c) (FP.ddiv FP.dconst1 (mk (nearI tk c 2).toNatClampNeg))) := rfl
  rw [← e2] at b1 b2 b3 b4 b5
  clear h0 h2
  have hV : (rv (mk2 dg mk tk c) < 1 / 4 * (dn c : Rat) ∧ mk c = dg c) ∨ (1 / 4 * (dn c : Rat) ≤ rv (mk2 dg mk tk c) ∧ mk c = mk2 dg mk tk c) := by
    rw [hm]
    unfold mkV
    by_cases h : 0 ≤ cvd (mk2 dg mk tk c) (FP.dmul 4598175219545276416 (dg c)) .g
    · rw [if_pos h]
      have h3 := (cv_ge b1 q1 .g).mp h
      rw [q2] at h3
      exact Or.inr ⟨h3, rfl⟩
    · rw [if_neg h]
      have h3 : ¬ rv (FP.dmul 4598175219545276416 (dg c)) ≤ rv (mk2 dg mk tk c) := fun z => h ((cv_ge b1 q1 .g).mpr z)
      rw [q2] at h3
      exact Or.inl ⟨Rat.not_le.mp h3, rfl⟩
  refine ⟨⟨fun z => ⟨a6 z, n64_fn a1⟩, fun z => ⟨b6 z, n64_fn b1⟩, n64_fn q1⟩, b1, ?_, num_m2 a2 b2, Rat.le_trans b3 a3, fun ht => ?_, hV⟩
  · rcases hV with ⟨-, h⟩ | ⟨-, h⟩
    · rw [h]; exact d1
    · rw [h]; exact b1
  · have k := hru ht
    have r2 := ruN_2 tk c
    have key : ((ruN tk c : Nat) : Rat) ≤ rv (mk2 dg mk tk c) := by
      refine b4 (ruN tk c) (by omega) ?_
      have i2 := ind_2 (nbT tk c 2)
      have i0 := ind_nn (nbT tk c 0)
      rcases i2 with i2 | i2
      · rw [i2]
        exact num_m6 (a4 (ruN tk c) (by omega) (by
          rw [ruN_v]
          exact num_m3 k i2))
      · rw [i2]
        have z := a4 (ruN tk c + 1) (by omega) (by
          rw [Rat.natCast_add, ruN_v]
          exact num_m4 k i2)
        rw [Rat.natCast_add] at z
        exact num_m5 z
    rw [ruN_v] at key
    exact key
