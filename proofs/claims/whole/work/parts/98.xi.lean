/-! invariants -/
/-! what holds at the beginning of each round -/
abbrev Iv (e : Nat → Nat → Rat) (dg om : Nat → Rat) (T : Nat → Prop) (r s : Nat → Rat) (c B H G V : Rat) (k : Rat) : Prop := (EB e dg (PS e dg om T) r B ∧ HB e dg r H ∧ (∀ c, ¬ T c → s c = 0) ∧ (∀ c, ¬ T c → r c = 0)) ∧ (0 < c ∧ 0 ≤ G ∧ 0 ≤ V ∧ 0 ≤ H) ∧ (∀ a, a < 36 → T a → clo e dg a → ab (phi e om s a) ≤ c * (H * G + V)) ∧ ab (dt s r - c) ≤ k / 2 ^ 14 * c ∧ (∀ j, j < 36 → s j * s j * B ≤ c * c * ((600 * (k + 1)) * (600 * (k + 1)))) ∧ (B * G ≤ 2430 * (k + 1) ∧ B * (V * V) ≤ (k + 1) / 2 ^ 16 * ((k + 1) / 2 ^ 16)) ∧ 1 / 2 ^ 66 ≤ c ∧ c ≤ 2 ^ 40 ∧ 1 / 2 ^ 70 ≤ B ∧ B ≤ 2 ^ 14
theorem iv_st {e : Nat → Nat → Rat} {dg om : Nat → Rat} {T : Nat → Prop} {r s : Nat → Rat} {c B H G V k : Rat} (h : Iv e dg om T r s c B H G V k) (hk0 : 0 ≤ k) (hk : k ≤ 40) {F0 : Rat} (hF0 : F0 ≤ 8 / 25) (hG : H * H * G ≤ F0) (hHB : H * H ≤ 4 * B) : St e dg om T r s c B H (H * G + V) (k / 2 ^ 14) (F0 + 1 / 500) := by
  obtain ⟨⟨a1, a2, a3, a4⟩, ⟨b1, b2, b3, b4⟩, c1, c2, c3, ⟨d1, d2⟩, e1, e2, e3, e4⟩ := h
  have hB : 0 ≤ B := Rat.le_trans (by decide +kernel) e3
  have hW : 0 ≤ H * G + V := by
    have := Rat.mul_nonneg b4 b2
    clear a1 a2 a3 a4 c1 c2 c3
    grind
  have hk2 : (k + 1) * (k + 1) ≤ 41 * 41 := mul_le2 (by clear a1 a2 a3 a4 c1 c2 c3; grind) (by clear a1 a2 a3 a4 c1 c2 c3; grind) (by clear a1 a2 a3 a4 c1 c2 c3; grind) (by decide +kernel)
  have hHV : H * V ≤ 82 / 2 ^ 16 := by
    refine le_sq (by decide +kernel) ?_
    have f1 := Rat.mul_le_mul_of_nonneg_right hHB (sq_nn V)
    clear a1 a2 a3 a4 c1 c2 c3
    grind
  refine ⟨⟨a1, a2, a3, b1, hW, c1, c2, ?_, ?_⟩, a4, ?_, fun j hj => ?_, hHB, b4, e1, e2, e3, e4, ?_, ?_⟩
  · clear a1 a2 a3 a4 c1 c2 c3
    grind
  · clear a1 a2 a3 a4 c1 c2 c3
    grind
  · have f1 := two_ab (H * G) V
    have f2 : B * G * (H * H * G) ≤ 2430 * 41 * (8 / 25) := mul_le2 (by clear a1 a2 a3 a4 c1 c2 c3; grind) (Rat.le_trans hG hF0) (Rat.mul_nonneg hB b2) (by decide +kernel)
    have f3 := Rat.mul_le_mul_of_nonneg_left f1 hB
    clear a1 a2 a3 a4 c1 c2 c3
    grind
  · refine Rat.le_trans (c3 j hj) ?_
    have f1 : (600 * (k + 1)) * (600 * (k + 1)) ≤ 25200 * 25200 := by
      clear a1 a2 a3 a4 c1 c2 c3
      grind
    exact Rat.mul_le_mul_of_nonneg_left f1 (sq_nn c)
  · clear a1 a2 a3 a4 c1 c2 c3
    grind
  · have f9 := Rat.mul_nonneg (sq_nn H) b2
    clear a1 a2 a3 a4 c1 c2 c3
    grind
theorem sq_mul (a b : Rat) : (a * b) * (a * b) = (a * a) * (b * b) := by grind
/-- the size of beta -/
theorem num_be {be c c2 : Rat} (hc : 0 < c) (hc2 : 1 / 2 ^ 66 ≤ c2) (hcu : c ≤ 2 ^ 40) (h : ab (be - c2 / c) ≤ uu * (c2 / c) + ty) : 0 ≤ be ∧ be * c ≤ (1 + 2 * uu) * c2 := by
  have e1 : c2 / c * c = c2 := by grind
  generalize c2 / c = b at *
  have hb : 1 / 2 ^ 106 ≤ b := by
    refine Rat.not_lt.mp (fun z => ?_)
    have := mul_le2 (Rat.le_of_lt z) hcu (by
      refine Rat.not_lt.mp (fun z2 => ?_)
      have := Rat.mul_pos (show 0 < -b by grind) hc
      grind) (by decide +kernel)
    have h3 := Rat.mul_lt_mul_of_pos_right z hc
    have h4 := Rat.mul_le_mul_of_nonneg_left hcu (show (0 : Rat) ≤ 1 / 2 ^ 106 by decide +kernel)
    grind
  rw [ab_le] at h
  have h5 : be ≤ (1 + 2 * uu) * b := by
    unfold uu ty at *
    grind
  have h6 : 0 ≤ be := by
    unfold uu ty at *
    grind
  refine ⟨h6, ?_⟩
  have h7 := Rat.mul_le_mul_of_nonneg_right h5 (Rat.le_of_lt hc)
  rw [Rat.mul_assoc (1 + 2 * uu), e1] at h7
  exact h7
theorem tri (a b d : Rat) : (a + b + d) * (a + b + d) ≤ (1 + 1 / 50 + 1 / 50) * (a * a) + 60 * (b * b) + 60 * (d * d) := by
  have q1 := sq_nn (a - 50 * b)
  have q2 := sq_nn (a - 50 * d)
  have q3 := sq_nn (b - d)
  have q4 := sq_nn b
  have q5 := sq_nn d
  have e0 : (a + b + d) * (a + b + d) = a * a + b * b + d * d + 2 * (a * b) + 2 * (a * d) + 2 * (b * d) := by grind
  have e1 : (a - 50 * b) * (a - 50 * b) = a * a - 100 * (a * b) + 2500 * (b * b) := by grind
  have e2 : (a - 50 * d) * (a - 50 * d) = a * a - 100 * (a * d) + 2500 * (d * d) := by grind
  have e3 : (b - d) * (b - d) = b * b - 2 * (b * d) + d * d := by grind
  rw [e0]
  rw [e1] at q1
  rw [e2] at q2
  rw [e3] at q3
  generalize a * b = ab1 at *
  generalize a * d = ad1 at *
  generalize b * d = bd1 at *
  generalize a * a = aa at *
  generalize b * b = bb at *
  generalize d * d = dd at *
  grind
/-- the square of the error of s -/
theorem num_ep {ep x z B c2 : Rat} (hB : 0 ≤ B) (hBu : B ≤ 2 ^ 14) (hc2 : 1 / 2 ^ 66 ≤ c2) (h : ab ep ≤ 3 * uu * (ab x + ab z) + ty) (hx : x * x * B ≤ (25250 * 25250) * (c2 * c2)) (hz : z * z * B ≤ (600 * 600) * (c2 * c2)) : ep * ep * B ≤ (80000 * uu) * (80000 * uu) * (c2 * c2) := by
  have h1 := sq_le2 h
  have h2 := Rat.mul_le_mul_of_nonneg_right h1 hB
  refine Rat.le_trans h2 ?_
  have a1 := ab_sq x
  have a2 := ab_sq z
  generalize ab x = X at *
  generalize ab z = Z at *
  have t1 := tri (3 * uu * X) (3 * uu * Z) ty
  have e1 : 3 * uu * (X + Z) + ty = 3 * uu * X + 3 * uu * Z + ty := by grind
  rw [e1]
  have t2 := Rat.mul_le_mul_of_nonneg_right t1 hB
  refine Rat.le_trans t2 ?_
  have hcc := mul_le2 hc2 hc2 (by decide +kernel) (Rat.le_trans (by decide +kernel) hc2)
  have x1 : X * X * B ≤ (25250 * 25250) * (c2 * c2) := by rw [a1]; exact hx
  have z1 : Z * Z * B ≤ (600 * 600) * (c2 * c2) := by rw [a2]; exact hz
  have y1 : ty * ty * B ≤ ty * ty * 2 ^ 14 := Rat.mul_le_mul_of_nonneg_left hBu (sq_nn ty)
  have e2 : ((1 + 1 / 50 + 1 / 50) * (3 * uu * X * (3 * uu * X)) + 60 * (3 * uu * Z * (3 * uu * Z)) + 60 * (ty * ty)) * B = (1 + 1 / 50 + 1 / 50) * 9 * (uu * uu) * (X * X * B) + 540 * (uu * uu) * (Z * Z * B) + 60 * (ty * ty * B) := by grind
  rw [e2]
  have k1 := Rat.mul_le_mul_of_nonneg_left x1 (show 0 ≤ (1 + 1 / 50 + 1 / 50) * 9 * (uu * uu) by decide +kernel)
  have k2 := Rat.mul_le_mul_of_nonneg_left z1 (show 0 ≤ 540 * (uu * uu) by decide +kernel)
  generalize X * X * B = XB at *
  generalize Z * Z * B = ZB at *
  generalize ty * ty * B = YB at *
  generalize c2 * c2 = cc at *
  clear t1 t2 h1 h2 e1 e2 hx hz x1 z1 h a1 a2
  unfold uu ty at *
  grind
