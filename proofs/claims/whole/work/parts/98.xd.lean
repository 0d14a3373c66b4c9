/-! round-2 -/
/-! a round: the length of the move, and its error -/
theorem num5 {Q d c al B : Rat} (hQ : 0 < Q) (hd : 0 < d) (hc : 0 < c) (h1 : ab (d - Q) ≤ 1 / 2 ^ 19 * Q) (h2 : c / 1024 < d) (h3 : ab (al - c / d) ≤ uu * (c / d) + ty) (hB : 1 / 2 ^ 70 ≤ B) (hc2 : c ≤ 2 ^ 40) (hcl : 1 / 2 ^ 66 ≤ c) (hQB : Q * B ≤ 480 * (c * c * (25200 * 25200))) (hdl : d * B ≤ 500 * (c * c * (25200 * 25200))) : ab (al * Q - c) ≤ 1 / 2 ^ 17 * c ∧ 0 < al ∧ al ≤ 1025 := by
  have hk : c / d * d = c := by grind
  have hk0 : 0 < c / d := by
    rw [Rat.div_def]
    exact Rat.mul_pos hc (Rat.inv_pos.mpr hd)
  have hk1 : c / d < 1024 := by
    rw [Rat.div_lt_iff hd]
    grind
  generalize c / d = k at *
  have q1 : Q ≤ d * (1 + 1 / 2 ^ 18) := by
    rw [ab_le] at h1
    grind
  have q2 : k * Q ≤ c * (1 + 1 / 2 ^ 18) := by
    have := Rat.mul_le_mul_of_nonneg_left q1 (Rat.le_of_lt hk0)
    grind
  have q3 : ab (k * (Q - d)) ≤ 1 / 2 ^ 19 * (c * (1 + 1 / 2 ^ 18)) := by
    rw [ab_mul, ab_of (Rat.le_of_lt hk0), ab_sub_comm]
    have := Rat.mul_le_mul_of_nonneg_left h1 (Rat.le_of_lt hk0)
    grind
  have q4 : ty * Q ≤ 1 / 2 ^ 60 * c := by
    have a1 := Rat.mul_le_mul_of_nonneg_left hB (Rat.le_of_lt hQ)
    have a2 := Rat.mul_le_mul_of_nonneg_left hc2 (Rat.le_of_lt hc)
    unfold ty
    grind
  have q5 : ab ((al - k) * Q) ≤ (uu * k + ty) * Q := by
    rw [ab_mul, ab_of (Rat.le_of_lt hQ)]
    exact Rat.mul_le_mul_of_nonneg_right h3 (Rat.le_of_lt hQ)
  have q6 : (uu * k + ty) * Q ≤ uu * (c * (1 + 1 / 2 ^ 18)) + 1 / 2 ^ 60 * c := by
    have := Rat.mul_le_mul_of_nonneg_left q2 (Rat.le_of_lt uu_0)
    grind
  have q7 := ab_add ((al - k) * Q) (k * (Q - d))
  have e1 : (al - k) * Q + k * (Q - d) = al * Q - c := by grind
  rw [e1] at q7
  have q8 : ty ≤ 1 / 2 ^ 60 * k := by
    have a1 := Rat.mul_le_mul_of_nonneg_left hB (Rat.le_of_lt hd)
    have a2 := Rat.mul_le_mul_of_nonneg_left hc2 (Rat.le_of_lt hc)
    have a3 : d ≤ 2 ^ 150 * c := by grind
    have a4 := Rat.mul_le_mul_of_nonneg_left a3 (Rat.le_of_lt hk0)
    have a5 : c * 1 ≤ c * (2 ^ 150 * k) := by grind
    have a6 := Rat.le_of_mul_le_mul_left a5 hc
    unfold ty
    grind
  refine ⟨?_, ?_, ?_⟩
  · unfold uu at *
    grind
  · rw [ab_le] at h3
    unfold uu at *
    grind
  · rw [ab_le] at h3
    unfold uu at *
    grind
theorem sc_QB {e : Nat → Nat → Rat} {dg om : Nat → Rat} {T : Nat → Prop} (hS : Sys e dg om T) {D er : Nat → Rat} {rk : Nat → Nat} (hM : Mak e dg om T D er rk) (hd4 : ∀ c, c < 36 → dg c ≤ 4) {r s : Nat → Rat} {c B H W ga F : Rat} (hI : St e dg om T r s c B H W ga F) : qA e dg s * B ≤ 480 * (c * c * (25200 * 25200)) := by
  have hSg : ∀ j, j < 36 → ab (aS e dg s j) ≤ 4 * Sg e s j := fun j hj => Sg_aS hS hM hd4 hI j hj
  obtain ⟨⟨-, -, hs0, hc, -⟩, -, -, hs2, -, -, -, -, hB, -⟩ := hI
  have hB0 : 0 ≤ B := by grind
  have hX : 0 ≤ c * c * (25200 * 25200) := by
    have := sq_nn c
    grind
  have pr : ∀ i j, i < 36 → j < 36 → ab (s i) * ab (s j) * B ≤ c * c * (25200 * 25200) := fun i j hi hj => by
    have h1 := hs2 i hi
    have h2 := hs2 j hj
    refine le_sq hX ?_
    have e1 : ab (s i) * ab (s j) * B * (ab (s i) * ab (s j) * B) = (s i * s i * B) * (s j * s j * B) := by
      have a1 := ab_sq (s i)
      have a2 := ab_sq (s j)
      rw [← a1, ← a2]
      grind
    rw [e1]
    exact mul_le2 h1 h2 (Rat.mul_nonneg (sq_nn _) hB0) hX
  have t : ∀ j, j < 36 → ab (s j) * Sg e s j * B ≤ 5 * (c * c * (25200 * 25200)) := fun j hj => by
    unfold Sg
    have h1 := pr j j hj hj
    have h2 : ab (s j) * sm (fun k => e j k * ab (s k)) 36 * B ≤ 4 * (c * c * (25200 * 25200)) := by
      have a0 : ab (s j) * sm (fun k => e j k * ab (s k)) 36 * B = sm (fun k => ab (s j) * B * (e j k * ab (s k))) 36 := by
        rw [sm_mul (ab (s j) * B) (fun k => e j k * ab (s k)) 36]
        grind
      have a1 : sm (fun k => ab (s j) * B * (e j k * ab (s k))) 36 ≤ sm (fun k => c * c * (25200 * 25200) * e j k) 36 := sm_le 36 (fun k hk => by
        have := Rat.mul_le_mul_of_nonneg_left (pr j k hj hk) (hS.e0 j k)
        clear pr hs2
        grind)
      rw [sm_mul (c * c * (25200 * 25200)) (fun k => e j k) 36] at a1
      have a2 : sm (fun k => e j k) 36 ≤ 4 := Rat.le_trans (hS.dn j hj) (hd4 j hj)
      have a3 := Rat.mul_le_mul_of_nonneg_left a2 hX
      rw [a0]
      clear pr hs2 hS hM hd4
      grind
    clear pr hs2 hS hM hd4
    grind
  have u : qA e dg s ≤ sm (fun j => ab (s j) * (4 * Sg e s j)) 36 := by
    unfold qA dt
    refine sm_le 36 (fun j hj => ?_)
    have h1 := ab_self (s j * aS e dg s j)
    rw [ab_mul] at h1
    have h2 := Rat.mul_le_mul_of_nonneg_left (hSg j hj) (ab_nn (s j))
    exact Rat.le_trans h1 h2
  have v := Rat.mul_le_mul_of_nonneg_right u hB0
  have w : sm (fun j => ab (s j) * (4 * Sg e s j)) 36 * B = sm (fun j => B * (ab (s j) * (4 * Sg e s j))) 36 := by
    rw [sm_mul B (fun j => ab (s j) * (4 * Sg e s j)) 36]
    grind
  have x : sm (fun j => B * (ab (s j) * (4 * Sg e s j))) 36 ≤ 24 * (20 * (c * c * (25200 * 25200))) := sm_T hS hM (by grind) (fun j hj _ => by
    have := t j hj
    clear pr hs2 t hS hM hd4 hSg
    grind) (fun j _ ht => by
    rw [hs0 j ht, ab_of (show (0 : Rat) ≤ 0 from Rat.le_refl)]
    grind)
  rw [w] at v
  clear pr hs2 t hS hM hd4 hSg
  grind
theorem sc_al {e : Nat → Nat → Rat} {dg om : Nat → Rat} {T : Nat → Prop} (hS : Sys e dg om T) {D er : Nat → Rat} {rk : Nat → Nat} (hM : Mak e dg om T D er rk) (hd4 : ∀ c, c < 36 → dg c ≤ 4) {r s : Nat → Rat} {c B H W ga F : Rat} (hI : St e dg om T r s c B H W ga F) {q rp : Nat → Rat} {d al : Rat} (hN : Rn e dg T r s c q d al rp) : ab (al * qA e dg s - c) ≤ 1 / 2 ^ 17 * c ∧ 0 < al ∧ al ≤ 1025 := by
  have h1 := sc_dd hS hM hd4 hI hN
  have h2 := sc_QB hS hM hd4 hI
  have h3 := (sc_q hS hM hd4 hI).1
  obtain ⟨-, -, -, -, n4, n5, n6, -⟩ := hN
  obtain ⟨⟨-, -, -, hc, -⟩, -, -, -, -, -, k1, k2, k3, -⟩ := hI
  refine num5 h3 n4 hc h1 n5 n6 k3 k2 k1 h2 ?_
  have hB0 : 0 ≤ B := by grind
  have a1 : d ≤ (1 + 1 / 2 ^ 19) * qA e dg s := by
    rw [ab_le] at h1
    grind
  have a2 := Rat.mul_le_mul_of_nonneg_right a1 hB0
  have a3 := Rat.mul_nonneg (Rat.le_of_lt h3) hB0
  clear hS hM hd4
  grind
