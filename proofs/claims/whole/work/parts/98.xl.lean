/-! stretches -/
/-! the two stretches: until c is small for the first time, and from there on -/
def PhA (B H G : Rat) (k : Nat) : Prop := G ≤ (k : Rat) * 2 ^ 46 ∧ H + uu * (19 * B) ≤ uu * (193000 + 9730 * ((k : Rat) - 1)) ∧ B ≤ 10000 + (k : Rat)
def PhB (N : Nat) (B H G : Rat) (k : Nat) : Prop := N ≤ k ∧ G ≤ (N : Rat) * 2 ^ 46 + ((k : Rat) - N) * (62 / 10 * 2 ^ 60) ∧ H ≤ uu * (193000 + 9730 * (N : Rat) + ((k : Rat) - N)) ∧ B ≤ 1 / 2 ^ 33 * (1 + (k : Rat) / 2 ^ 18)
def Ph (B H G : Rat) (k : Nat) : Prop := PhA B H G k ∨ ∃ N, PhB N B H G k
theorem ph_dec : ∀ N : Fin 41, (uu * (193000 + 9730 * ((N.val : Nat) : Rat) + 40)) * (uu * (193000 + 9730 * ((N.val : Nat) : Rat) + 40)) * (((N.val : Nat) : Rat) * 2 ^ 46 + (40 - ((N.val : Nat) : Rat)) * (62 / 10 * 2 ^ 60)) ≤ 8 / 25 := by decide +kernel
theorem nat_rat {k n : Nat} (h : k ≤ n) : (k : Rat) ≤ (n : Rat) := Rat.natCast_le_natCast.mpr h
theorem phB_F {N k : Nat} {B H G : Rat} (hk : k ≤ 40) (hH : 0 ≤ H) (hG0 : 0 ≤ G) (h : PhB N B H G k) : H * H * G ≤ 8 / 25 ∧ H * H ≤ 1 / 2 ^ 66 := by
  obtain ⟨h1, h2, h3, h4⟩ := h
  have hN : N ≤ 40 := by omega
  have d := ph_dec ⟨N, by omega⟩
  have d : (uu * (193000 + 9730 * (N : Rat) + 40)) * (uu * (193000 + 9730 * (N : Rat) + 40)) * ((N : Rat) * 2 ^ 46 + (40 - (N : Rat)) * (62 / 10 * 2 ^ 60)) ≤ 8 / 25 := d
  have k1 : (k : Rat) ≤ 40 := nat_rat hk
  have k2 : (N : Rat) ≤ 40 := nat_rat hN
  have k3 : (0 : Rat) ≤ N := Rat.natCast_nonneg
  have k4 : (N : Rat) ≤ k := nat_rat h1
  have hu := uu_0
  have a1 : H ≤ uu * (193000 + 9730 * (N : Rat) + 40) := by
    refine Rat.le_trans h3 ?_
    exact Rat.mul_le_mul_of_nonneg_left (by grind) (Rat.le_of_lt hu)
  have a2 : G ≤ (N : Rat) * 2 ^ 46 + (40 - (N : Rat)) * (62 / 10 * 2 ^ 60) := by grind
  have a3 := mul_le2 a1 a1 hH (Rat.le_trans hH a1)
  refine ⟨?_, ?_⟩
  · have a4 := mul_le2 a3 a2 (Rat.mul_nonneg hH hH) (Rat.le_trans hG0 a2)
    exact Rat.le_trans a4 d
  · have a5 : uu * (193000 + 9730 * (N : Rat) + 40) ≤ uu * 582300 := Rat.mul_le_mul_of_nonneg_left (by grind) (Rat.le_of_lt hu)
    have a6 := mul_le2 a5 a5 (Rat.le_trans hH a1) (by decide +kernel)
    refine Rat.le_trans a3 (Rat.le_trans a6 ?_)
    decide +kernel
theorem phA_F {k : Nat} {B H G : Rat} (hk : k ≤ 40) (hH : 0 ≤ H) (hB : 0 ≤ B) (hG0 : 0 ≤ G) (h : PhA B H G k) : H * H * G ≤ 1 / 2 ^ 16 ∧ H * H ≤ 1 / 2 ^ 66 := by
  obtain ⟨h1, h2, h3⟩ := h
  have k1 : (k : Rat) ≤ 40 := nat_rat hk
  have hu := uu_0
  have a1 : H ≤ uu * 582300 := by
    have b1 := Rat.mul_nonneg (Rat.le_of_lt hu) (show 0 ≤ 19 * B by grind)
    have b2 : uu * (193000 + 9730 * ((k : Rat) - 1)) ≤ uu * 582300 := Rat.mul_le_mul_of_nonneg_left (by grind) (Rat.le_of_lt hu)
    grind
  have a2 : G ≤ 40 * 2 ^ 46 := by grind
  have a3 := mul_le2 a1 a1 hH (by decide +kernel)
  refine ⟨?_, ?_⟩
  · have a4 := mul_le2 a3 a2 (Rat.mul_nonneg hH hH) (by decide +kernel)
    refine Rat.le_trans a4 ?_
    decide +kernel
  · refine Rat.le_trans a3 ?_
    decide +kernel
theorem ph_F {k : Nat} {B H G : Rat} (hk : k ≤ 40) (hH : 0 ≤ H) (hB : 0 ≤ B) (hG0 : 0 ≤ G) (h : Ph B H G k) : H * H * G ≤ 8 / 25 ∧ H * H ≤ 1 / 2 ^ 66 := by
  rcases h with h | ⟨N, h⟩
  · obtain ⟨a, b⟩ := phA_F hk hH hB hG0 h
    exact ⟨Rat.le_trans a (by decide +kernel), b⟩
  · exact phB_F hk hH hG0 h
/-- the drift of a round in the first stretch -/
theorem num_A {B B1 H G V al c alQ k W : Rat} (hk0 : 1 ≤ k) (hk : k ≤ 40) (hB0 : 0 ≤ B) (hH0 : 0 ≤ H) (hG0 : 0 ≤ G) (hV0 : 0 ≤ V) (hac : 0 < al * c) (haB : al * c ≤ 401 / 100 * B) (halQ : al * alQ ≤ (1 + 1 / 2 ^ 17) * (al * c)) (hB1 : B1 = (1 + 1 / 2 ^ 20) * (B - (1 - 2 * (k / 2 ^ 14) - 2 * (1 / 2 ^ 16 + 1 / 500) - 1 / 2 ^ 16) * (al * c) + 1 / 2 ^ 32 * B)) (hB1n : 0 ≤ B1) (hBu : B ≤ 10040) (hBG : B * G ≤ 2430 * (k + 1)) (hBV : B * (V * V) ≤ (k + 1) / 2 ^ 16 * ((k + 1) / 2 ^ 16)) (hHs : H ≤ 1 / 2 ^ 33) (hW : W = H * G + V) : u1 * (395 * (al * alQ / 21 + 21) + 145 * (al * c * W) + 1001 / 1000 * (139 / 20 * (B / 100 + 100) + H)) + 36 * tz ≤ uu * (19 * (B - B1) + 9728) := by
  have lam : (49 / 50 + 1 / 100) * (al * c) ≤ (1 - 2 * (k / 2 ^ 14) - 2 * (1 / 2 ^ 16 + 1 / 500) - 1 / 2 ^ 16) * (al * c) := Rat.mul_le_mul_of_nonneg_right (by grind) (Rat.le_of_lt hac)
  have BV : B * V ≤ 63 / 1000 := by
    refine le_sq (by decide +kernel) ?_
    have g1 : (k + 1) / 2 ^ 16 * ((k + 1) / 2 ^ 16) ≤ 41 / 2 ^ 16 * (41 / 2 ^ 16) := mul_le2 (by grind) (by grind) (by grind) (by decide +kernel)
    have g2 := mul_le2 hBu (Rat.le_trans hBV g1) hB0 (by decide +kernel)
    have e1 : B * V * (B * V) = B * (B * (V * V)) := by grind
    rw [e1]
    refine Rat.le_trans g2 ?_
    decide +kernel
  have acW : al * c * W ≤ 401 / 100 * (2430 * 41 * H + 63 / 1000) := by
    have hWn : 0 ≤ W := by
      rw [hW]
      exact Rat.add_nonneg (Rat.mul_nonneg hH0 hG0) hV0
    have g1 := Rat.mul_le_mul_of_nonneg_right haB hWn
    have g2 : B * G * H ≤ 2430 * 41 * H := Rat.mul_le_mul_of_nonneg_right (by grind) hH0
    rw [hW] at g1 ⊢
    have e1 : 401 / 100 * B * (H * G + V) = 401 / 100 * (B * G * H + B * V) := by grind
    rw [e1] at g1
    grind
  generalize (1 - 2 * (k / 2 ^ 14) - 2 * (1 / 2 ^ 16 + 1 / 500) - 1 / 2 ^ 16) * (al * c) = L at *
  generalize al * c * W = Y1 at *
  generalize al * alQ = Y2 at *
  generalize al * c = Y3 at *
  have key : 395 * (Y2 / 21 + 21) + 145 * Y1 + 1001 / 1000 * (139 / 20 * (B / 100 + 100) + H) ≤ 19 * (B - B1) + 9727 := by
    clear hBG hBV BV hW
    grind
  have k2 := Rat.mul_le_mul_of_nonneg_left key (show 0 ≤ u1 by decide +kernel)
  have k3 : -(1 / 100) * B ≤ B - B1 := by
    clear hBG hBV BV hW
    grind
  have k4 : B - B1 ≤ 10100 := by
    clear hBG hBV BV hW key k2
    grind
  clear hBG hBV BV hW key
  unfold u1 uu tz at *
  grind
