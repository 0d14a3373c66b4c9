/-! all makers -/
theorem rd_le {x : UInt64} {e : Rat} (h : rd x e) : ab (rv x) ≤ 2 * ab e + 1 := by
  have w := ab_add (rv x - e) e
  rw [show rv x - e + e = rv x by grind] at w
  have t := tt_u
  have := h.2
  have := ab_nn e
  unfold uu at *
  grind
theorem inv4 {y : Rat} (h : 1 / 4 ≤ y) : 0 ≤ 1 / y ∧ 1 / y ≤ 4 := by
  have h0 : 0 < y := by grind
  have h1 : y * (1 / y) = 1 := by grind
  have h2 : 0 < y⁻¹ := Rat.inv_pos.mpr h0
  have h3 : 1 / y = y⁻¹ := by rw [Rat.div_def, Rat.one_mul]
  have := Rat.mul_le_mul_of_nonneg_right h (Rat.le_of_lt h2)
  grind
theorem div_small {x y : UInt64} (hx : fn x) (hy : fn y) (h4 : 1 / 4 ≤ rv y) (h : ab (rv x) ≤ 2 ^ 120) : rd (FP.ddiv x y) (rv x / rv y) ∧ ab (rv x / rv y) ≤ 4 * ab (rv x) := by
  obtain ⟨i1, i2⟩ := inv4 h4
  have e : rv x / rv y = rv x * (1 / rv y) := by grind
  have b : ab (rv x / rv y) ≤ 4 * ab (rv x) := by
    rw [e, ab_mul, ab_of i1]
    have := Rat.mul_le_mul_of_nonneg_left i2 (ab_nn (rv x))
    grind
  refine ⟨r_div hx hy (by grind) (Rat.le_trans b (Rat.le_trans ?_ big_ge)), b⟩
  grind
theorem g_rv : ∀ c : Fin 36, (nbI c.val 0 = true → nbI (nbN c.val 0) 1 = true ∧ nbN (nbN c.val 0) 1 = c.val) ∧ (nbI c.val 2 = true → nbI (nbN c.val 2) 3 = true ∧ nbN (nbN c.val 2) 3 = c.val) ∧ (nbI c.val 1 = true → nbI (nbN c.val 1) 0 = true ∧ nbN (nbN c.val 1) 0 = c.val) ∧ (nbI c.val 3 = true → nbI (nbN c.val 3) 2 = true ∧ nbN (nbN c.val 3) 2 = c.val) := by decide +kernel
theorem nb_36 {c w : Nat} (hc : c < 36) (hw : w < 4) (h : nbI c w = true) : nbN c w < 36 := (g_self ⟨c, hc⟩ ⟨w, hw⟩ h).2.1
/-- a left or lower neighbour has a right or upper one -/
theorem ru_1 {tk : Nat → Int32} {c w : Nat} (hc : c < 36) (ht : tk c ≠ 0) (hw : w = 0 ∨ w = 2) (h : nbT tk c w) : 1 ≤ ind (nbT tk (nbN c w) 1) + ind (nbT tk (nbN c w) 3) := by
  obtain ⟨g1, g2, -⟩ := g_rv ⟨c, hc⟩
  rcases hw with rfl | rfl
  · obtain ⟨a, b⟩ := g1 h.1
    have a : nbI (nbN c 0) 1 = true := a
    have b : nbN (nbN c 0) 1 = c := b
    have : ind (nbT tk (nbN c 0) 1) = 1 := ind_t ⟨a, by rw [b]; exact ht⟩
    have := ind_nn (nbT tk (nbN c 0) 3)
    grind
  · obtain ⟨a, b⟩ := g2 h.1
    have a : nbI (nbN c 2) 3 = true := a
    have b : nbN (nbN c 2) 3 = c := b
    have : ind (nbT tk (nbN c 2) 3) = 1 := ind_t ⟨a, by rw [b]; exact ht⟩
    have := ind_nn (nbT tk (nbN c 2) 1)
    grind
theorem mk_all {tk : Nat → Int32} {dg mk : Nat → UInt64} {dn : Nat → Nat} (hD : DgH tk dg dn) (hm : ∀ c, c < 36 → mk c = mkV dg mk tk c) : ∀ n c, c < n → c < 36 → tk c ≠ 0 → fn (mk c) ∧ 1 / 4 * (dn c : Rat) ≤ rv (mk c) ∧ 1 / 4 ≤ rv (mk c) ∧ ind (nbT tk c 1) + ind (nbT tk c 3) ≤ rv (mk c) ∧ rv (mk c) ≤ dn c ∧ (dn c : Rat) ≤ 4 ∧ rv (mk2 dg mk tk c) ≤ rv (mk c)
  | 0, c, h, _, _ => by omega
  | n + 1, c, h, hc, ht => by
    have hb : ∀ w, (w = 0 ∨ w = 2) → nbT tk c w → mB mk (nbN c w) := fun w hw k => by
      have l := nb_lt hc hw k.1
      obtain ⟨i1, -, -, i2, i3, i4, -⟩ := mk_all hD hm n (nbN c w) (by omega) (by omega) k.2
      have := ru_1 hc ht hw k
      exact ⟨i1, by grind, by grind⟩
    obtain ⟨-, m1, m2, -, m4, m5, m6⟩ := mk_cell hD hm hc (hb 0 (Or.inl rfl)) (hb 2 (Or.inr rfl))
    obtain ⟨d1, d2, d3, d4⟩ := dg_v hD hc
    obtain ⟨p1, p2⟩ := hD.2 c hc ht
    have p3 : (1 : Rat) ≤ dn c := nat_rat p1
    have m5 := m5 ht
    refine ⟨m2, ?_⟩
    rcases m6 with ⟨k1, k2⟩ | ⟨k1, k2⟩
    · rw [k2, d2]
      have := ind_nn (nbT tk c 0)
      have := ind_nn (nbT tk c 2)
      grind
    · rw [k2]
      grind
theorem mk_T {tk : Nat → Int32} {dg mk : Nat → UInt64} {dn : Nat → Nat} (hD : DgH tk dg dn) (hm : ∀ c, c < 36 → mk c = mkV dg mk tk c) {c : Nat} (hc : c < 36) (ht : tk c ≠ 0) : fn (mk c) ∧ 1 / 4 * (dn c : Rat) ≤ rv (mk c) ∧ 1 / 4 ≤ rv (mk c) ∧ ind (nbT tk c 1) + ind (nbT tk c 3) ≤ rv (mk c) ∧ rv (mk c) ≤ dn c ∧ (dn c : Rat) ≤ 4 ∧ rv (mk2 dg mk tk c) ≤ rv (mk c) := mk_all hD hm 36 c hc hc ht
theorem mk_b {tk : Nat → Int32} {dg mk : Nat → UInt64} {dn : Nat → Nat} (hD : DgH tk dg dn) (hm : ∀ c, c < 36 → mk c = mkV dg mk tk c) {c w : Nat} (hc : c < 36) (ht : tk c ≠ 0) (hw : w = 0 ∨ w = 2) (h : nbT tk c w) : mB mk (nbN c w) := by
  obtain ⟨i1, -, -, i2, i3, i4, -⟩ := mk_T hD hm (nb_36 hc (by omega) h.1) h.2
  have := ru_1 hc ht hw h
  exact ⟨i1, by grind, by grind⟩
/-- no NaN among the makers -/
theorem mk_ok {tk : Nat → Int32} {dg mk : Nat → UInt64} {dn : Nat → Nat} (hD : DgH tk dg dn) (hm : ∀ c, c < 36 → mk c = mkV dg mk tk c) {c : Nat} (hc : c < 36) : mkOk dg mk tk c := by
  rcases Classical.em (tk c = 0) with ht | ht
  · obtain ⟨d1, d2, d3, d4⟩ := dg_v hD hc
    obtain ⟨q1, -⟩ := quar (hD.1 c hc).2
    rw [← (hD.1 c hc).1] at q1
    have one : ∀ w, w < 4 → nbT tk c w → fn (FP.ddiv FP.dconst1 (mk (nbN c w))) ∧ ab (rv (FP.ddiv FP.dconst1 (mk (nbN c w)))) ≤ 9 := fun w hw h => by
      obtain ⟨i1, -, i2, -⟩ := mk_T hD hm (nb_36 hc hw h.1) h.2
      obtain ⟨r1, r2⟩ := div_small fn_c1 i1 i2 (by rw [rv_c1]; decide +kernel)
      have r3 := rd_le r1
      rw [rv_c1, show ab (1 : Rat) = 1 from rfl] at r2
      rw [rv_c1] at r3
      exact ⟨r1.1, by grind⟩
    have s1 : fn (mk1 dg mk tk c) ∧ ab (rv (mk1 dg mk tk c)) ≤ 100 := by
      unfold mk1
      split
      · rw [d2, ab_of d3]
        exact ⟨d1, by grind⟩
      · rename_i h
        have g := near_f hc (by omega) h
        obtain ⟨o1, o2⟩ := one 0 (by omega) g
        rw [(nb_pos hc (by omega) g).2.2.1]
        have a := sub_small d1 o1 (by rw [d2, ab_of d3]; exact Rat.le_trans d4 (by decide +kernel)) (Rat.le_trans o2 (by decide +kernel))
        have b := rd_le a
        have e := ab_sub (rv (dg c)) (rv (FP.ddiv FP.dconst1 (mk (nbN c 0))))
        rw [d2, ab_of d3] at e
        rw [d2] at b
        exact ⟨a.1, by grind⟩
    refine ⟨fun h => ?_, fun h => ?_, n64_fn q1⟩
    · have g := near_f hc (by omega) h
      rw [(nb_pos hc (by omega) g).2.2.1]
      exact ⟨n64_fn (one 0 (by omega) g).1, n64_fn s1.1⟩
    · have g := near_f hc (by omega) h
      obtain ⟨o1, o2⟩ := one 2 (by omega) g
      rw [(nb_pos hc (by omega) g).2.2.1]
      refine ⟨n64_fn o1, ?_⟩
      unfold mk2
      rw [if_neg h, (nb_pos hc (by omega) g).2.2.1]
      exact n64_fn (sub_small s1.1 o1 (Rat.le_trans s1.2 (by decide +kernel)) (Rat.le_trans o2 (by decide +kernel))).1
  · exact (mk_cell hD hm hc (mk_b hD hm hc ht (Or.inl rfl)) (mk_b hD hm hc ht (Or.inr rfl))).1
