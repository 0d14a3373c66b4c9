/-! next-2 -/
/-! from one round to the next -/
theorem Bz {B2 Z c2 : Rat} (h1 : B2 ≤ 2420 * Z) (h2 : ab (c2 - Z) ≤ 1 / 2 ^ 19 * Z) (h3 : 1 / 2 ^ 63 ≤ Z) : 0 < c2 ∧ 1 / 2 ^ 66 ≤ c2 ∧ B2 ≤ 24201 / 10 * c2 ∧ Z ≤ (1 + 1 / 2 ^ 18) * c2 := by
  rw [ab_le] at h2
  grind
theorem sqb {a b A C X B : Rat} (hA : 0 ≤ A) (hC : 0 ≤ C) (hX : 0 ≤ X) (hB : 0 < B) (h1 : a * a * B ≤ A * A * X) (h2 : b * b * B ≤ C * C * X) : (a + b) * (a + b) * B ≤ (A + C) * (A + C) * X := by
  have e1 : X / B * B = X := by grind
  have hX' : 0 ≤ X / B := by
    rw [Rat.div_def]
    exact Rat.mul_nonneg hX (Rat.le_of_lt (Rat.inv_pos.mpr hB))
  generalize X / B = Y at *
  have k1 : a * a ≤ A * A * Y := Rat.le_of_mul_le_mul_right (c := B) (by rw [Rat.mul_assoc (A * A), e1]; exact h1) hB
  have k2 : b * b ≤ C * C * Y := Rat.le_of_mul_le_mul_right (c := B) (by rw [Rat.mul_assoc (C * C), e1]; exact h2) hB
  have k3 := Rat.mul_le_mul_of_nonneg_right (sqa hA hC hX' k1 k2) (Rat.le_of_lt hB)
  rw [Rat.mul_assoc ((A + C) * (A + C)), e1] at k3
  exact k3
theorem jx_be {e : Nat → Nat → Rat} {dg om : Nat → Rat} {T : Nat → Prop} (hS : Sys e dg om T) {D er : Nat → Rat} {rk : Nat → Nat} (hM : Mak e dg om T D er rk) (hd4 : ∀ c, c < 36 → dg c ≤ 4) {r s : Nat → Rat} {c B H G V k : Rat} (hI : Iv e dg om T r s c B H G V k) (hk0 : 0 ≤ k) (hk : k ≤ 39) {rp z f : Nat → Rat} {R c2 : Rat} (hr : ∀ j, ¬ T j → rp j = 0) (hZ : Zn e T D rp z f R c2) {be : Rat} {sn : Nat → Rat} (hT : Tn T s z c c2 be sn) {B2 H1 : Rat} (hB : EB e dg (PS e dg om T) rp B2) (hH : HB e dg rp H1) (hH1 : H ≤ H1) (hBl : 1 / 2 ^ 70 ≤ B2) (hBu : B2 ≤ 2 ^ 14) (hBB : B2 ≤ (1 + 1 / 2 ^ 18) * B) (hBz : B2 ≤ 2420 * qM e D z) (hHB : H1 * H1 ≤ 4 * B2) (hsr : ab (dt s rp) ≤ (k / 2 ^ 14 + 1 / 2 ^ 15) * c) : 0 ≤ be ∧ be * c ≤ (1 + 2 * uu) * c2 := by
  obtain ⟨z1, z2, z3, z4⟩ := Bz hBz (nx_c hS hM hd4 hr hZ) (nx_l hS hM hd4 hr hZ)
  exact num_be hI.2.1.1 z2 hI.2.2.2.2.2.2.2.1 hT.2.1
theorem jx_s {e : Nat → Nat → Rat} {dg om : Nat → Rat} {T : Nat → Prop} (hS : Sys e dg om T) {D er : Nat → Rat} {rk : Nat → Nat} (hM : Mak e dg om T D er rk) (hd4 : ∀ c, c < 36 → dg c ≤ 4) {r s : Nat → Rat} {c B H G V k : Rat} (hI : Iv e dg om T r s c B H G V k) (hk0 : 0 ≤ k) (hk : k ≤ 39) {rp z f : Nat → Rat} {R c2 : Rat} (hr : ∀ j, ¬ T j → rp j = 0) (hZ : Zn e T D rp z f R c2) {be : Rat} {sn : Nat → Rat} (hT : Tn T s z c c2 be sn) {B2 H1 : Rat} (hB : EB e dg (PS e dg om T) rp B2) (hH : HB e dg rp H1) (hH1 : H ≤ H1) (hBl : 1 / 2 ^ 70 ≤ B2) (hBu : B2 ≤ 2 ^ 14) (hBB : B2 ≤ (1 + 1 / 2 ^ 18) * B) (hBz : B2 ≤ 2420 * qM e D z) (hHB : H1 * H1 ≤ 4 * B2) (hsr : ab (dt s rp) ≤ (k / 2 ^ 14 + 1 / 2 ^ 15) * c) {j : Nat} (hj : j < 36) : (be * s j) * (be * s j) * B2 ≤ ((600 * (k + 1) + 1 / 2) * (600 * (k + 1) + 1 / 2)) * (c2 * c2) := by
  obtain ⟨b1, b2⟩ := jx_be hS hM hd4 hI hk0 hk hr hZ hT hB hH hH1 hBl hBu hBB hBz hHB hsr
  have h1 := hI.2.2.2.2.1 j hj
  have hc := hI.2.1.1
  have h2 := Rat.mul_le_mul_of_nonneg_left hBB (sq_nn (s j))
  have h3 := Rat.mul_le_mul_of_nonneg_left (Rat.le_trans h2 (show s j * s j * ((1 + 1 / 2 ^ 18) * B) ≤ (1 + 1 / 2 ^ 18) * (c * c * (600 * (k + 1) * (600 * (k + 1)))) by clear hS hM hd4 hI hr hZ hT hB hH; grind)) (sq_nn be)
  have h4 := mul_le2 b2 b2 (Rat.mul_nonneg b1 (Rat.le_of_lt hc)) (Rat.le_trans (Rat.mul_nonneg b1 (Rat.le_of_lt hc)) b2)
  have h5 : (1 + 2 * uu) * (1 + 2 * uu) * (1 + 1 / 2 ^ 18) * (600 * (k + 1) * (600 * (k + 1))) ≤ (600 * (k + 1) + 1 / 2) * (600 * (k + 1) + 1 / 2) := by
    have g1 : (600 * (k + 1)) * (600 * (k + 1)) ≤ (600 * (k + 1)) * 24000 := Rat.mul_le_mul_of_nonneg_left (by clear hS hM hd4 hI hr hZ hT hB hH; grind) (by clear hS hM hd4 hI hr hZ hT hB hH; grind)
    have g0 : 0 ≤ 600 * (k + 1) := by clear hS hM hd4 hI hr hZ hT hB hH; grind
    generalize 600 * (k + 1) = m at *
    generalize hmm : m * m = mm at *
    have e1 : (m + 1 / 2) * (m + 1 / 2) = mm + m + 1 / 4 := by rw [← hmm]; grind
    rw [e1]
    clear hS hM hd4 hI hr hZ hT hB hH h1 h2 h3 h4 hsr b2 e1 hmm
    unfold uu
    grind
  have h6 := Rat.mul_le_mul_of_nonneg_right h5 (sq_nn c2)
  have h7 := Rat.mul_le_mul_of_nonneg_right h4 (show 0 ≤ (1 + 1 / 2 ^ 18) * (600 * (k + 1) * (600 * (k + 1))) from Rat.mul_nonneg (by decide +kernel) (sq_nn _))
  have e1 : (be * s j) * (be * s j) * B2 = be * be * (s j * s j * B2) := by grind
  rw [e1]
  refine Rat.le_trans h3 ?_
  have e2 : be * be * ((1 + 1 / 2 ^ 18) * (c * c * (600 * (k + 1) * (600 * (k + 1))))) = be * c * (be * c) * ((1 + 1 / 2 ^ 18) * (600 * (k + 1) * (600 * (k + 1)))) := by grind
  rw [e2]
  refine Rat.le_trans h7 ?_
  refine Rat.le_trans ?_ h6
  have e3 : (1 + 2 * uu) * c2 * ((1 + 2 * uu) * c2) * ((1 + 1 / 2 ^ 18) * (600 * (k + 1) * (600 * (k + 1)))) = (1 + 2 * uu) * (1 + 2 * uu) * (1 + 1 / 2 ^ 18) * (600 * (k + 1) * (600 * (k + 1))) * (c2 * c2) := by grind
  rw [e3]
  exact Rat.le_refl
theorem jx_z {e : Nat → Nat → Rat} {dg om : Nat → Rat} {T : Nat → Prop} (hS : Sys e dg om T) {D er : Nat → Rat} {rk : Nat → Nat} (hM : Mak e dg om T D er rk) (hd4 : ∀ c, c < 36 → dg c ≤ 4) {r s : Nat → Rat} {c B H G V k : Rat} (hI : Iv e dg om T r s c B H G V k) (hk0 : 0 ≤ k) (hk : k ≤ 39) {rp z f : Nat → Rat} {R c2 : Rat} (hr : ∀ j, ¬ T j → rp j = 0) (hZ : Zn e T D rp z f R c2) {be : Rat} {sn : Nat → Rat} (hT : Tn T s z c c2 be sn) {B2 H1 : Rat} (hB : EB e dg (PS e dg om T) rp B2) (hH : HB e dg rp H1) (hH1 : H ≤ H1) (hBl : 1 / 2 ^ 70 ≤ B2) (hBu : B2 ≤ 2 ^ 14) (hBB : B2 ≤ (1 + 1 / 2 ^ 18) * B) (hBz : B2 ≤ 2420 * qM e D z) (hHB : H1 * H1 ≤ 4 * B2) (hsr : ab (dt s rp) ≤ (k / 2 ^ 14 + 1 / 2 ^ 15) * c) {j : Nat} (hj : j < 36) : z j * z j * B2 ≤ (591 * 591) * (c2 * c2) := by
  obtain ⟨z1, z2, z3, z4⟩ := Bz hBz (nx_c hS hM hd4 hr hZ) (nx_l hS hM hd4 hr hZ)
  have h1 := nx_z hS hM hd4 hr hZ hj
  have h0 := qM_nn hS hM z
  have h2 := mul_le2 (Rat.le_trans h1 (show 144 * qM e D z ≤ 144 * ((1 + 1 / 2 ^ 18) * c2) by clear hS hM hd4 hI hr hZ hT hB hH; grind)) z3 (sq_nn _) (by clear hS hM hd4 hI hr hZ hT hB hH; grind)
  have h3 := sq_nn c2
  clear hS hM hd4 hI hr hZ hT hB hH
  grind
theorem jx_e {e : Nat → Nat → Rat} {dg om : Nat → Rat} {T : Nat → Prop} (hS : Sys e dg om T) {D er : Nat → Rat} {rk : Nat → Nat} (hM : Mak e dg om T D er rk) (hd4 : ∀ c, c < 36 → dg c ≤ 4) {r s : Nat → Rat} {c B H G V k : Rat} (hI : Iv e dg om T r s c B H G V k) (hk0 : 0 ≤ k) (hk : k ≤ 39) {rp z f : Nat → Rat} {R c2 : Rat} (hr : ∀ j, ¬ T j → rp j = 0) (hZ : Zn e T D rp z f R c2) {be : Rat} {sn : Nat → Rat} (hT : Tn T s z c c2 be sn) {B2 H1 : Rat} (hB : EB e dg (PS e dg om T) rp B2) (hH : HB e dg rp H1) (hH1 : H ≤ H1) (hBl : 1 / 2 ^ 70 ≤ B2) (hBu : B2 ≤ 2 ^ 14) (hBB : B2 ≤ (1 + 1 / 2 ^ 18) * B) (hBz : B2 ≤ 2420 * qM e D z) (hHB : H1 * H1 ≤ 4 * B2) (hsr : ab (dt s rp) ≤ (k / 2 ^ 14 + 1 / 2 ^ 15) * c) {j : Nat} (hj : j < 36) : (sn j - (z j + be * s j)) * (sn j - (z j + be * s j)) * B2 ≤ (80000 * uu) * (80000 * uu) * (c2 * c2) := by
  obtain ⟨z1, z2, z3, z4⟩ := Bz hBz (nx_c hS hM hd4 hr hZ) (nx_l hS hM hd4 hr hZ)
  have h1 := jx_s hS hM hd4 hI hk0 hk hr hZ hT hB hH hH1 hBl hBu hBB hBz hHB hsr hj
  have h2 := jx_z hS hM hd4 hI hk0 hk hr hZ hT hB hH hH1 hBl hBu hBB hBz hHB hsr hj
  have h3 := hT.2.2 j hj
  have hB0 : 0 ≤ B2 := Rat.le_trans (by decide +kernel) hBl
  refine num_ep hB0 hBu z2 h3 (Rat.le_trans h1 ?_) (Rat.le_trans h2 ?_)
  · refine Rat.mul_le_mul_of_nonneg_right ?_ (sq_nn c2)
    refine mul_le2 ?_ ?_ ?_ (by decide +kernel) <;> (clear hS hM hd4 hI hr hZ hT hB hH h1 h2 h3; grind)
  · exact Rat.mul_le_mul_of_nonneg_right (by decide +kernel) (sq_nn c2)
theorem jx_e0 {e : Nat → Nat → Rat} {dg om : Nat → Rat} {T : Nat → Prop} (hS : Sys e dg om T) {D er : Nat → Rat} {rk : Nat → Nat} (hM : Mak e dg om T D er rk) (hd4 : ∀ c, c < 36 → dg c ≤ 4) {r s : Nat → Rat} {c B H G V k : Rat} (hI : Iv e dg om T r s c B H G V k) (hk0 : 0 ≤ k) (hk : k ≤ 39) {rp z f : Nat → Rat} {R c2 : Rat} (hr : ∀ j, ¬ T j → rp j = 0) (hZ : Zn e T D rp z f R c2) {be : Rat} {sn : Nat → Rat} (hT : Tn T s z c c2 be sn) {B2 H1 : Rat} (hB : EB e dg (PS e dg om T) rp B2) (hH : HB e dg rp H1) (hH1 : H ≤ H1) (hBl : 1 / 2 ^ 70 ≤ B2) (hBu : B2 ≤ 2 ^ 14) (hBB : B2 ≤ (1 + 1 / 2 ^ 18) * B) (hBz : B2 ≤ 2420 * qM e D z) (hHB : H1 * H1 ≤ 4 * B2) (hsr : ab (dt s rp) ≤ (k / 2 ^ 14 + 1 / 2 ^ 15) * c) {j : Nat} (ht : ¬ T j) : sn j - (z j + be * s j) = 0 := by
  rw [hT.1 j ht, hZ.1 j ht, hI.1.2.2.1 j ht]
  grind
theorem jx_sn {e : Nat → Nat → Rat} {dg om : Nat → Rat} {T : Nat → Prop} (hS : Sys e dg om T) {D er : Nat → Rat} {rk : Nat → Nat} (hM : Mak e dg om T D er rk) (hd4 : ∀ c, c < 36 → dg c ≤ 4) {r s : Nat → Rat} {c B H G V k : Rat} (hI : Iv e dg om T r s c B H G V k) (hk0 : 0 ≤ k) (hk : k ≤ 39) {rp z f : Nat → Rat} {R c2 : Rat} (hr : ∀ j, ¬ T j → rp j = 0) (hZ : Zn e T D rp z f R c2) {be : Rat} {sn : Nat → Rat} (hT : Tn T s z c c2 be sn) {B2 H1 : Rat} (hB : EB e dg (PS e dg om T) rp B2) (hH : HB e dg rp H1) (hH1 : H ≤ H1) (hBl : 1 / 2 ^ 70 ≤ B2) (hBu : B2 ≤ 2 ^ 14) (hBB : B2 ≤ (1 + 1 / 2 ^ 18) * B) (hBz : B2 ≤ 2420 * qM e D z) (hHB : H1 * H1 ≤ 4 * B2) (hsr : ab (dt s rp) ≤ (k / 2 ^ 14 + 1 / 2 ^ 15) * c) {j : Nat} (hj : j < 36) : sn j * sn j * B2 ≤ c2 * c2 * ((600 * (k + 1 + 1)) * (600 * (k + 1 + 1))) := by
  have h1 := jx_s hS hM hd4 hI hk0 hk hr hZ hT hB hH hH1 hBl hBu hBB hBz hHB hsr hj
  have h2 := jx_z hS hM hd4 hI hk0 hk hr hZ hT hB hH hH1 hBl hBu hBB hBz hHB hsr hj
  have h3 := jx_e hS hM hd4 hI hk0 hk hr hZ hT hB hH hH1 hBl hBu hBB hBz hHB hsr hj
  have hB0 : 0 < B2 := by clear hS hM hd4 hI hr hZ hT hB hH h1 h2 h3; grind
  have hX := sq_nn c2
  have hm : 0 ≤ 600 * (k + 1) + 1 / 2 := by clear hS hM hd4 hI hr hZ hT hB hH h1 h2 h3; grind
  have k1 := sqb (by decide +kernel) hm hX hB0 h2 h1
  have k2 := sqb (by clear hS hM hd4 hI hr hZ hT hB hH h1 h2 h3 k1; grind) (by decide +kernel) hX hB0 k1 h3
  have e1 : z j + be * s j + (sn j - (z j + be * s j)) = sn j := by grind
  rw [e1] at k2
  refine Rat.le_trans k2 ?_
  have k3 : 591 + (600 * (k + 1) + 1 / 2) + 80000 * uu ≤ 600 * (k + 1 + 1) := by
    clear hS hM hd4 hI hr hZ hT hB hH h1 h2 h3 k1 k2
    unfold uu
    grind
  have k4 : 0 ≤ 591 + (600 * (k + 1) + 1 / 2) + 80000 * uu := by
    clear hS hM hd4 hI hr hZ hT hB hH h1 h2 h3 k1 k2 k3
    unfold uu
    grind
  have k5 := mul_le2 k3 k3 k4 (Rat.le_trans k4 k3)
  have k6 := Rat.mul_le_mul_of_nonneg_right k5 hX
  rw [Rat.mul_comm (c2 * c2)]
  exact k6
/-- the sum of the errors of s -/
theorem jx_et {e : Nat → Nat → Rat} {dg om : Nat → Rat} {T : Nat → Prop} (hS : Sys e dg om T) {D er : Nat → Rat} {rk : Nat → Nat} (hM : Mak e dg om T D er rk) (hd4 : ∀ c, c < 36 → dg c ≤ 4) {r s : Nat → Rat} {c B H G V k : Rat} (hI : Iv e dg om T r s c B H G V k) (hk0 : 0 ≤ k) (hk : k ≤ 39) {rp z f : Nat → Rat} {R c2 : Rat} (hr : ∀ j, ¬ T j → rp j = 0) (hZ : Zn e T D rp z f R c2) {be : Rat} {sn : Nat → Rat} (hT : Tn T s z c c2 be sn) {B2 H1 : Rat} (hB : EB e dg (PS e dg om T) rp B2) (hH : HB e dg rp H1) (hH1 : H ≤ H1) (hBl : 1 / 2 ^ 70 ≤ B2) (hBu : B2 ≤ 2 ^ 14) (hBB : B2 ≤ (1 + 1 / 2 ^ 18) * B) (hBz : B2 ≤ 2420 * qM e D z) (hHB : H1 * H1 ≤ 4 * B2) (hsr : ab (dt s rp) ≤ (k / 2 ^ 14 + 1 / 2 ^ 15) * c) : ∃ et, 0 ≤ et ∧ et * et * B2 ≤ (10000000 * uu) * (10000000 * uu) * (c2 * c2) ∧ ∀ a, a < 36 → T a → ab (phi e om (fun j => sn j - (z j + be * s j)) a) ≤ et := by
  have hB0 : 0 < B2 := by clear hS hM hd4 hI hr hZ hT hB hH; grind
  refine ⟨5 * sm (fun j => ab (sn j - (z j + be * s j))) 36, ?_, ?_, fun a ha hta => ?_⟩
  · have := sm_nn (f := fun j => ab (sn j - (z j + be * s j))) 36 (fun j _ => ab_nn _)
    clear hS hM hd4 hI hr hZ hT hB hH
    grind
  · have hX : 0 ≤ (80000 * uu) * (80000 * uu) * (c2 * c2) / B2 := by
      rw [Rat.div_def]
      exact Rat.mul_nonneg (Rat.mul_nonneg (by decide +kernel) (sq_nn c2)) (Rat.le_of_lt (Rat.inv_pos.mpr hB0))
    have e1 : (80000 * uu) * (80000 * uu) * (c2 * c2) / B2 * B2 = (80000 * uu) * (80000 * uu) * (c2 * c2) := by clear hS hM hd4 hI hr hZ hT hB hH; grind
    have h1 := sm_sqT hS hM (y := fun j => ab (sn j - (z j + be * s j))) hX (fun j hj _ => by
      rw [ab_sq]
      refine Rat.le_of_mul_le_mul_right (c := B2) ?_ hB0
      rw [e1]
      exact jx_e hS hM hd4 hI hk0 hk hr hZ hT hB hH hH1 hBl hBu hBB hBz hHB hsr hj) (fun j _ ht => by
      rw [jx_e0 hS hM hd4 hI hk0 hk hr hZ hT hB hH hH1 hBl hBu hBB hBz hHB hsr ht, ab_of Rat.le_refl])
    have h2 := Rat.mul_le_mul_of_nonneg_right h1 (Rat.le_of_lt hB0)
    rw [Rat.mul_assoc 576, e1] at h2
    generalize sm (fun j => ab (sn j - (z j + be * s j))) 36 = S at *
    have h3 := sq_nn c2
    clear hS hM hd4 hI hr hZ hT hB hH h1 e1 hX
    unfold uu at *
    grind
  · unfold phi
    refine Rat.le_trans (sm_ab 36) ?_
    rw [← sm_mul]
    refine sm_le 36 (fun j hj => ?_)
    rcases Classical.em (conn e a j) with h | h
    · have ht := (conn_T hS h ha hta).1
      have o1 := om_5 hS hM hd4 hr hZ hj ht
      have o2 := hS.2.2.2.2.1 j hj
      rw [ind_t h, Rat.one_mul, ab_mul, ab_of o2]
      exact Rat.mul_le_mul_of_nonneg_right o1 (ab_nn _)
    · rw [ind_f h, Rat.zero_mul, ab_of Rat.le_refl]
      exact Rat.mul_nonneg (by decide) (ab_nn _)
theorem jx_ga {e : Nat → Nat → Rat} {dg om : Nat → Rat} {T : Nat → Prop} (hS : Sys e dg om T) {D er : Nat → Rat} {rk : Nat → Nat} (hM : Mak e dg om T D er rk) (hd4 : ∀ c, c < 36 → dg c ≤ 4) {r s : Nat → Rat} {c B H G V k : Rat} (hI : Iv e dg om T r s c B H G V k) (hk0 : 0 ≤ k) (hk : k ≤ 39) {rp z f : Nat → Rat} {R c2 : Rat} (hr : ∀ j, ¬ T j → rp j = 0) (hZ : Zn e T D rp z f R c2) {be : Rat} {sn : Nat → Rat} (hT : Tn T s z c c2 be sn) {B2 H1 : Rat} (hB : EB e dg (PS e dg om T) rp B2) (hH : HB e dg rp H1) (hH1 : H ≤ H1) (hBl : 1 / 2 ^ 70 ≤ B2) (hBu : B2 ≤ 2 ^ 14) (hBB : B2 ≤ (1 + 1 / 2 ^ 18) * B) (hBz : B2 ≤ 2420 * qM e D z) (hHB : H1 * H1 ≤ 4 * B2) (hsr : ab (dt s rp) ≤ (k / 2 ^ 14 + 1 / 2 ^ 15) * c) : ab (dt sn rp - c2) ≤ (k + 1) / 2 ^ 14 * c2 := by
  obtain ⟨z1, z2, z3, z4⟩ := Bz hBz (nx_c hS hM hd4 hr hZ) (nx_l hS hM hd4 hr hZ)
  obtain ⟨b1, b2⟩ := jx_be hS hM hd4 hI hk0 hk hr hZ hT hB hH hH1 hBl hBu hBB hBz hHB hsr
  have hd := nx_d hS hM hd4 hr hZ
  have hH0 : 0 ≤ H1 := Rat.le_trans hI.2.1.2.2.2 hH1
  have hB0 : 0 < B2 := by clear hS hM hd4 hI hr hZ hT hB hH; grind
  have e1 : dt sn rp = dt z rp + be * dt s rp + dt (fun j => sn j - (z j + be * s j)) rp := by
    unfold dt
    rw [← sm_mul, ← sm_add, ← sm_add]
    exact sm_congr 36 (fun j _ => by grind)
  have t1 : ∀ j, j < 36 → T j → ab (sn j - (z j + be * s j)) * ab (rp j) ≤ (320000 * uu) * c2 := fun j hj ht => by
    have k1 := jx_e hS hM hd4 hI hk0 hk hr hZ hT hB hH hH1 hBl hBu hBB hBz hHB hsr hj
    have k2 := r_le hS hM hB hH hd4 hH0 hj ht
    have k3 : rp j * rp j ≤ 16 * B2 := by clear hS hM hd4 hI hr hZ hT hB hH; grind
    refine le_sq (Rat.mul_nonneg (by decide +kernel) (Rat.le_of_lt z1)) ?_
    have e2 : ab (sn j - (z j + be * s j)) * ab (rp j) * (ab (sn j - (z j + be * s j)) * ab (rp j)) = ((sn j - (z j + be * s j)) * (sn j - (z j + be * s j))) * (rp j * rp j) := by
      have c1 := ab_sq (sn j - (z j + be * s j))
      have c2 := ab_sq (rp j)
      rw [← c1, ← c2]
      clear hS hM hd4 hI hr hZ hT hB hH k1 k2 k3
      grind
    rw [e2]
    have k4 := Rat.mul_le_mul_of_nonneg_left k3 (sq_nn (sn j - (z j + be * s j)))
    generalize (sn j - (z j + be * s j)) * (sn j - (z j + be * s j)) = E at *
    clear hS hM hd4 hI hr hZ hT hB hH k2 k3 e2
    grind
  have t2 : ab (dt (fun j => sn j - (z j + be * s j)) rp) ≤ 24 * ((320000 * uu) * c2) := by
    refine Rat.le_trans (dt_ab _ _) ?_
    refine sm_T hS hM (Rat.mul_nonneg (by decide +kernel) (Rat.le_of_lt z1)) t1 (fun j _ ht => ?_)
    rw [hr j ht, ab_of (show (0 : Rat) ≤ 0 from Rat.le_refl), Rat.mul_zero]
    exact Rat.le_refl
  have t3 : ab (be * dt s rp) ≤ (1 + 2 * uu) * c2 * (k / 2 ^ 14 + 1 / 2 ^ 15) := by
    rw [ab_mul, ab_of b1]
    have k1 := Rat.mul_le_mul_of_nonneg_left hsr b1
    have k2 := Rat.mul_le_mul_of_nonneg_right b2 (show 0 ≤ k / 2 ^ 14 + 1 / 2 ^ 15 by clear hS hM hd4 hI hr hZ hT hB hH; grind)
    refine Rat.le_trans k1 ?_
    refine Rat.le_trans ?_ k2
    have : be * ((k / 2 ^ 14 + 1 / 2 ^ 15) * c) = be * c * (k / 2 ^ 14 + 1 / 2 ^ 15) := by grind
    rw [this]
    exact Rat.le_refl
  rw [e1]
  have w1 := ab_add (dt z rp - c2) (be * dt s rp)
  have w2 := ab_add (dt z rp - c2 + be * dt s rp) (dt (fun j => sn j - (z j + be * s j)) rp)
  rw [ab_sub_comm] at hd
  generalize dt (fun j => sn j - (z j + be * s j)) rp = Y1 at *
  generalize be * dt s rp = Y2 at *
  generalize dt z rp = Y3 at *
  rw [show Y3 - c2 + Y2 + Y1 = Y3 + Y2 + Y1 - c2 by grind] at w2
  have w3 := Rat.mul_le_mul_of_nonneg_right (show k / 2 ^ 14 + 1 / 2 ^ 15 ≤ 1 by clear hS hM hd4 hI hr hZ hT hB hH; grind) (Rat.le_of_lt z1)
  have e4 : (1 + 2 * uu) * c2 * (k / 2 ^ 14 + 1 / 2 ^ 15) = (k / 2 ^ 14 + 1 / 2 ^ 15) * c2 + 2 * uu * ((k / 2 ^ 14 + 1 / 2 ^ 15) * c2) := by grind
  rw [e4] at t3
  have e5 : (k + 1) / 2 ^ 14 * c2 = (k / 2 ^ 14 + 1 / 2 ^ 15) * c2 + 1 / 2 ^ 15 * c2 := by grind
  rw [e5]
  generalize (k / 2 ^ 14 + 1 / 2 ^ 15) * c2 = Y4 at *
  clear hS hM hd4 hI hr hZ hT hB hH e1 t1 hsr
  unfold uu at *
  grind
