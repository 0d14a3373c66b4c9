/-! the matrix times a row, rounded: both bounds -/
theorem num_u1 {S : Rat} {w : Rat} (hS : S ≤ 2 ^ 110) (hS0 : 0 ≤ S) (hw : w ≤ 4) (hw0 : 0 ≤ w) : 0 ≤ (4 + 5 * w) * (uu * S) + (1 + 2 * w) * tt ∧ (4 + 5 * w) * (uu * S) + (1 + 2 * w) * tt ≤ 2 ^ 200 ∧ 4 * S ≤ 2 ^ 200 := by
  have t0 := tt_0
  have t1 := tt_u
  have u0 := uu_0
  have uS := Rat.mul_nonneg (Rat.le_of_lt u0) hS0
  have y1 := Rat.mul_le_mul_of_nonneg_right (show 4 + 5 * w ≤ 24 by grind) uS
  have y2 := Rat.mul_le_mul_of_nonneg_right (show 1 + 2 * w ≤ 9 by grind) (Rat.le_of_lt t0)
  have y3 := Rat.mul_nonneg (show 0 ≤ 4 + 5 * w by grind) uS
  have y4 := Rat.mul_nonneg (show 0 ≤ 1 + 2 * w by grind) (Rat.le_of_lt t0)
  generalize (4 + 5 * w) * (uu * S) = X at *
  generalize (1 + 2 * w) * tt = Y at *
  have y5 : uu * S ≤ S := by
    have := Rat.mul_le_mul_of_nonneg_right (show uu ≤ 1 by decide +kernel) hS0
    rw [Rat.one_mul] at this
    exact this
  have y6 : tt ≤ 1 := Rat.le_trans t1 (by decide +kernel)
  clear t1
  generalize uu * S = US at *
  grind
theorem tm_all {tk : Nat → Int32} {dg s : Nat → UInt64} {dn : Nat → Nat} {c : Nat} (hc : c < 36) (hd : dg c = FP.i2d (nI (dn c))) (hn : dn c ≤ 4) (hs : ∀ j, j < 36 → fn (s j) ∧ ab (rv (s j)) ≤ 2 ^ 100) (hS : tS tk s c 4 ≤ 2 ^ 110) : ∀ w, w ≤ 4 → fn (tmV dg s tk c w) ∧ ab (rv (tmV dg s tk c w) - tP tk dn s c w) ≤ (4 + 5 * (w : Rat)) * (uu * tS tk s c 4) + (1 + 2 * (w : Rat)) * tt
  | 0, _ => by
    obtain ⟨p1, -⟩ := pd_v hn (hs c hc).1 (Rat.le_trans (hs c hc).2 (by decide +kernel))
    show fn (FP.dmul (dg c) (s c)) ∧ ab (rv (FP.dmul (dg c) (s c)) - (dn c : Rat) * rv (s c)) ≤ (4 + 5 * ((0 : Nat) : Rat)) * (uu * tS tk s c 4) + (1 + 2 * ((0 : Nat) : Rat)) * tt
    rw [hd]
    refine ⟨p1.1, Rat.le_trans p1.2 ?_⟩
    have a : ab ((dn c : Rat) * rv (s c)) ≤ 4 * tS tk s c 4 := num_t5 (tS_up tk s c 0 (by omega)) (tS_up tk s c 0 (by omega)) (num_t4 Rat.natCast_nonneg (nat_rat hn))
    have b := Rat.mul_le_mul_of_nonneg_left a (Rat.le_of_lt uu_0)
    have e : ((0 : Nat) : Rat) = 0 := rfl
    rw [e]
    generalize uu * ab ((dn c : Rat) * rv (s c)) = X at *
    generalize tS tk s c 4 = S at *
    clear hs p1 a
    grind
  | w + 1, hw => by
    obtain ⟨f, e⟩ := tm_all hc hd hn hs hS w (by omega)
    have w3 : (w : Rat) ≤ 3 := nat_rat (show w ≤ 3 by omega)
    have w0 : (0 : Rat) ≤ w := Rat.natCast_nonneg
    have S0 : 0 ≤ tS tk s c 4 := Rat.le_trans (ab_nn (rv (s c))) (tS_up tk s c 0 (by omega))
    obtain ⟨n1, n2, n3⟩ := num_u1 hS S0 (Rat.le_trans w3 (by decide +kernel)) w0
    have hP := num_t5 (tS_up tk s c 0 (by omega)) (tS_up tk s c w (by omega)) (tP_le (tk := tk) (s := s) hn w)
    obtain ⟨g, k⟩ := tm_st (tk := tk) (s := s) (w := w) (Q := 4 * tS tk s c 4) hc (by omega) f e (Rat.le_trans hP n3) n2 (fun h => by
      have l := nb_36 hc (by omega) h.1
      refine ⟨(hs _ l).1, Rat.le_trans (hs _ l).2 (by decide +kernel), ?_⟩
      have q := num_t5 (tS_up tk s c 0 (by omega)) (tS_up tk s c (w + 1) (by omega)) (tP_le (tk := tk) (s := s) hn (w + 1))
      have e2 : tP tk dn s c (w + 1) = tP tk dn s c w - rv (s (nbN c w)) := by
        show tP tk dn s c w - tm4 tk (fun p => rv (s p)) c w = _
        unfold tm4
        rw [ind_t h, Rat.one_mul]
      rw [e2] at q
      exact q)
    refine ⟨g, Rat.le_trans k ?_⟩
    have ec : ((w + 1 : Nat) : Rat) = (w : Rat) + 1 := by rw [Rat.natCast_add]; rfl
    rw [ec]
    exact num_t6 Rat.le_refl w3 w0 S0 (ind_nn _) (by rcases ind_2 (nbT tk c w) with h | h <;> rw [h] <;> decide) n1
theorem num_tf {i0 i1 i2 i3 A G E0 : Rat} (h0 : i0 = 0 ∨ i0 = 1) (h1 : i1 = 0 ∨ i1 = 1) (h2 : i2 = 0 ∨ i2 = 1) (h3 : i3 = 0 ∨ i3 = 1) (hA : 0 ≤ A) (hG : 0 ≤ G) (hE0 : E0 = 0 ∨ (i0 + i1 + i2 + i3 = 3 ∧ E0 = uu * (3 * A) + tt)) {E1 E2 E3 E4 : Rat} (e1 : E1 = E0 + i0 * (uu * ((i1 + i2 + i3) * A + G + E0) + tt)) (e2 : E2 = E1 + i1 * (uu * ((i2 + i3) * A + G + E1) + tt)) (e3 : E3 = E2 + i2 * (uu * (i3 * A + G + E2) + tt)) (e4 : E4 = E3 + i3 * (uu * (G + E3) + tt)) : E4 ≤ u1 * (6 * A + 4 * G) + ty := by
  have t0 := tt_0
  have t1 : 2 ^ 30 * tt ≤ ty := tt_le
  unfold u1 uu at *
  rcases h0 with rfl | rfl <;> rcases h1 with rfl | rfl <;> rcases h2 with rfl | rfl <;> rcases h3 with rfl | rfl <;> rcases hE0 with rfl | ⟨hn, rfl⟩ <;> grind
