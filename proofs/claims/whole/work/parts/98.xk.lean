/-! next-3 -/
theorem div_nn {a b : Rat} (ha : 0 ≤ a) (hb : 0 < b) : 0 ≤ a / b := by
  rw [Rat.div_def]
  exact Rat.mul_nonneg ha (Rat.le_of_lt (Rat.inv_pos.mpr hb))
theorem iv_next {e : Nat → Nat → Rat} {dg om : Nat → Rat} {T : Nat → Prop} (hS : Sys e dg om T) {D er : Nat → Rat} {rk : Nat → Nat} (hM : Mak e dg om T D er rk) (hd4 : ∀ c, c < 36 → dg c ≤ 4) {r s : Nat → Rat} {c B H G V k : Rat} (hI : Iv e dg om T r s c B H G V k) (hk0 : 0 ≤ k) (hk : k ≤ 39) {rp z f : Nat → Rat} {R c2 : Rat} (hr : ∀ j, ¬ T j → rp j = 0) (hZ : Zn e T D rp z f R c2) {be : Rat} {sn : Nat → Rat} (hT : Tn T s z c c2 be sn) {B2 H1 : Rat} (hB : EB e dg (PS e dg om T) rp B2) (hH : HB e dg rp H1) (hH1 : H ≤ H1) (hBl : 1 / 2 ^ 70 ≤ B2) (hBu : B2 ≤ 2 ^ 14) (hBB : B2 ≤ (1 + 1 / 2 ^ 18) * B) (hBz : B2 ≤ 2420 * qM e D z) (hHB : H1 * H1 ≤ 4 * B2) (hsr : ab (dt s rp) ≤ (k / 2 ^ 14 + 1 / 2 ^ 15) * c) : ∃ V2, Iv e dg om T rp sn c2 B2 H1 ((1 + 2 * uu) * G + 1 / c2) V2 (k + 1) := by
  obtain ⟨z1, z2, z3, z4⟩ := Bz hBz (nx_c hS hM hd4 hr hZ) (nx_l hS hM hd4 hr hZ)
  obtain ⟨b1, b2⟩ := jx_be hS hM hd4 hI hk0 hk hr hZ hT hB hH hH1 hBl hBu hBB hBz hHB hsr
  have hH0 : 0 ≤ H1 := Rat.le_trans hI.2.1.2.2.2 hH1
  obtain ⟨ps, p1, p2, p3⟩ := nx_phi hS hM hd4 hr hZ hH hH0
  obtain ⟨et, q1, q2, q3⟩ := jx_et hS hM hd4 hI hk0 hk hr hZ hT hB hH hH1 hBl hBu hBB hBz hHB hsr
  have hga := jx_ga hS hM hd4 hI hk0 hk hr hZ hT hB hH hH1 hBl hBu hBB hBz hHB hsr
  have hsn : ∀ j, j < 36 → _ := fun j hj => jx_sn hS hM hd4 hI hk0 hk hr hZ hT hB hH hH1 hBl hBu hBB hBz hHB hsr hj
  have hl := nx_l hS hM hd4 hr hZ
  have hu := nx_u hS hM hd4 hr hZ
  obtain ⟨-, ⟨i1, i2, i3, i4⟩, iphi, -, -, ⟨i5, i6⟩, -, i8, i9, i10⟩ := hI
  have hB0 : 0 < B2 := by clear hS hM hd4 hr hZ hT hB hH iphi p3 q3 hsn; grind
  have huu : 0 < uu := uu_0
  have c2u : c2 ≤ 2 ^ 40 := by
    obtain ⟨j, hj, ht, hR⟩ := hZ.2.2.2.2.1
    have k2 := r_le hS hM hB hH hd4 hH0 hj ht
    have k3 : R * R ≤ 16 * B2 := by
      rw [← hR, ab_sq]
      clear hS hM hd4 hr hZ hT hB hH iphi p3 q3 hsn
      grind
    have nc := nx_c hS hM hd4 hr hZ
    rw [ab_le] at nc
    clear hS hM hd4 hr hZ hT hB hH iphi p3 q3 hsn
    grind
  refine ⟨(1 + 2 * uu) * V + (ps + et) / c2, ⟨hB, hH, hT.1, hr⟩, ⟨z1, ?_, ?_, hH0⟩, fun a ha hta hc => ?_, hga, hsn, ⟨?_, ?_⟩, z2, c2u, hBl, hBu⟩
  · have h1 := Rat.mul_nonneg (show 0 ≤ 1 + 2 * uu by clear hS hM hd4 hr hZ hT hB hH iphi p3 q3 hsn; grind) i2
    have h2 := div_nn (show (0 : Rat) ≤ 1 by decide) z1
    exact Rat.add_nonneg h1 h2
  · have h1 := Rat.mul_nonneg (show 0 ≤ 1 + 2 * uu by clear hS hM hd4 hr hZ hT hB hH iphi p3 q3 hsn; grind) i3
    exact Rat.add_nonneg h1 (div_nn (Rat.add_nonneg p1 q1) z1)
  · have a1 := p3 a ha hta hc
    have a2 := q3 a ha hta
    have a3 := iphi a ha hta hc
    have e1 : phi e om sn a = phi e om z a + be * phi e om s a + phi e om (fun j => sn j - (z j + be * s j)) a := by
      have l1 := phi_lin hS z s be a
      have l2 := phi_lin hS (fun j => z j + be * s j) (fun j => sn j - (z j + be * s j)) 1 a
      have l3 : phi e om (fun j => z j + be * s j + 1 * (sn j - (z j + be * s j))) a = phi e om sn a := by
        unfold phi
        exact sm_congr 36 (fun j _ => by grind)
      rw [l3, l1] at l2
      rw [l2]
      grind
    rw [e1]
    have w1 := ab_add (phi e om z a + be * phi e om s a) (phi e om (fun j => sn j - (z j + be * s j)) a)
    have w2 := ab_add (phi e om z a) (be * phi e om s a)
    rw [ab_mul be, ab_of b1] at w2
    have w3 := Rat.mul_le_mul_of_nonneg_left a3 b1
    have hW : 0 ≤ H * G + V := Rat.add_nonneg (Rat.mul_nonneg i4 i2) i3
    have w4 := Rat.mul_le_mul_of_nonneg_right b2 hW
    have w5 : H * G ≤ H1 * G := Rat.mul_le_mul_of_nonneg_right hH1 i2
    have w6 := Rat.mul_le_mul_of_nonneg_left w5 (show 0 ≤ (1 + 2 * uu) * c2 from Rat.mul_nonneg (by clear hS hM hd4 hr hZ hT hB hH iphi p3 q3 hsn; grind) (Rat.le_of_lt z1))
    have e2 : c2 * (H1 * ((1 + 2 * uu) * G + 1 / c2) + ((1 + 2 * uu) * V + (ps + et) / c2)) = (1 + 2 * uu) * c2 * (H1 * G) + H1 + (1 + 2 * uu) * c2 * V + (ps + et) := by
      clear hS hM hd4 hr hZ hT hB hH iphi p3 q3 hsn
      grind
    rw [e2]
    generalize phi e om z a = Y1 at *
    generalize phi e om s a = Y2 at *
    generalize phi e om (fun j => sn j - (z j + be * s j)) a = Y3 at *
    have e3 : be * (c * (H * G + V)) = be * c * (H * G + V) := by grind
    rw [e3] at w3
    have e4 : (1 + 2 * uu) * c2 * (H * G + V) = (1 + 2 * uu) * c2 * (H * G) + (1 + 2 * uu) * c2 * V := by grind
    rw [e4] at w4
    generalize (1 + 2 * uu) * c2 * (H * G) = Y4 at *
    generalize (1 + 2 * uu) * c2 * (H1 * G) = Y5 at *
    generalize (1 + 2 * uu) * c2 * V = Y6 at *
    generalize be * c * (H * G + V) = Y7 at *
    clear hS hM hd4 hr hZ hT hB hH iphi p3 q3 hsn e1 e2 e3 e4
    grind
  · have h1 := Rat.mul_le_mul_of_nonneg_right hBB i2
    have h2 : B2 * (1 / c2) ≤ 24201 / 10 := by
      have := Rat.mul_le_mul_of_nonneg_right z3 (div_nn (show (0 : Rat) ≤ 1 by decide) z1)
      have e9 : 24201 / 10 * c2 * (1 / c2) = 24201 / 10 := by clear hS hM hd4 hr hZ hT hB hH iphi p3 q3 hsn; grind
      rw [e9] at this
      exact this
    have e2 : B2 * ((1 + 2 * uu) * G + 1 / c2) = (1 + 2 * uu) * (B2 * G) + B2 * (1 / c2) := by grind
    rw [e2]
    generalize B2 * (1 / c2) = Y1 at *
    have e3 : (1 + 1 / 2 ^ 18) * B * G = (1 + 1 / 2 ^ 18) * (B * G) := by grind
    rw [e3] at h1
    have h0 : 0 ≤ B2 * G := Rat.mul_nonneg (Rat.le_of_lt hB0) i2
    generalize B2 * G = Y2 at *
    generalize B * G = Y3 at *
    clear hS hM hd4 hr hZ hT hB hH iphi p3 q3 hsn e2 e3 huu
    unfold uu
    grind
  · have hX : (0 : Rat) ≤ 1 := by decide
    have k1 : (1 + 2 * uu) * V * ((1 + 2 * uu) * V) * B2 ≤ ((k + 1) / 2 ^ 16 + 1 / 2 ^ 28) * ((k + 1) / 2 ^ 16 + 1 / 2 ^ 28) * 1 := by
      have g1 := Rat.mul_le_mul_of_nonneg_right hBB (sq_nn V)
      have g2 : B2 * (V * V) ≤ (1 + 1 / 2 ^ 18) * ((k + 1) / 2 ^ 16 * ((k + 1) / 2 ^ 16)) := by
        have := Rat.mul_le_mul_of_nonneg_left i6 (show (0 : Rat) ≤ 1 + 1 / 2 ^ 18 by decide +kernel)
        refine Rat.le_trans g1 (Rat.le_trans ?_ this)
        rw [Rat.mul_assoc]
        exact Rat.le_refl
      have g3 := Rat.mul_le_mul_of_nonneg_left g2 (show 0 ≤ (1 + 2 * uu) * (1 + 2 * uu) from sq_nn _)
      have e2 : (1 + 2 * uu) * V * ((1 + 2 * uu) * V) * B2 = (1 + 2 * uu) * (1 + 2 * uu) * (B2 * (V * V)) := by grind
      rw [e2]
      refine Rat.le_trans g3 ?_
      have m0 : 0 ≤ (k + 1) / 2 ^ 16 := by clear hS hM hd4 hr hZ hT hB hH iphi p3 q3 hsn; grind
      have m1 : (k + 1) / 2 ^ 16 ≤ 40 / 2 ^ 16 := by clear hS hM hd4 hr hZ hT hB hH iphi p3 q3 hsn; grind
      have m2 := Rat.mul_le_mul_of_nonneg_left m1 m0
      generalize (k + 1) / 2 ^ 16 = m at *
      have e3 : (m + 1 / 2 ^ 28) * (m + 1 / 2 ^ 28) * 1 = m * m + 2 / 2 ^ 28 * m + 1 / 2 ^ 56 := by grind
      rw [e3]
      generalize m * m = mm at *
      clear hS hM hd4 hr hZ hT hB hH iphi p3 q3 hsn e2 e3 g1 g2 g3 huu i6
      unfold uu
      grind
    have k2 : (ps + et) / c2 * ((ps + et) / c2) * B2 ≤ (3 / 2 ^ 18) * (3 / 2 ^ 18) * 1 := by
      have g1 : ps * ps * B2 ≤ (99 / 2 ^ 24) * (99 / 2 ^ 24) * (c2 * c2) := by
        have f1 := mul_le2 (Rat.le_trans p2 (show 1 / 2 ^ 46 * qM e D z ≤ 1 / 2 ^ 46 * ((1 + 1 / 2 ^ 18) * c2) by clear hS hM hd4 hr hZ hT hB hH iphi p3 q3 hsn; grind)) z3 (sq_nn _) (by clear hS hM hd4 hr hZ hT hB hH iphi p3 q3 hsn; grind)
        have f2 := sq_nn c2
        clear hS hM hd4 hr hZ hT hB hH iphi p3 q3 hsn
        grind
      have g2 := sqb (by decide +kernel) (by decide +kernel) (sq_nn c2) hB0 g1 q2
      have g3 : (99 / 2 ^ 24 + 10000000 * uu) * (99 / 2 ^ 24 + 10000000 * uu) ≤ (3 / 2 ^ 18) * (3 / 2 ^ 18) := by
        unfold uu
        decide +kernel
      have g4 := Rat.mul_le_mul_of_nonneg_right g3 (sq_nn c2)
      refine Rat.le_of_mul_le_mul_right (c := c2 * c2) ?_ (Rat.mul_pos z1 z1)
      have e2 : (ps + et) / c2 * ((ps + et) / c2) * B2 * (c2 * c2) = (ps + et) * (ps + et) * B2 := by
        clear hS hM hd4 hr hZ hT hB hH iphi p3 q3 hsn
        grind
      rw [e2, Rat.mul_one]
      exact Rat.le_trans g2 g4
    have k3 := sqb (by clear hS hM hd4 hr hZ hT hB hH iphi p3 q3 hsn k1 k2; grind) (by decide +kernel) hX hB0 k1 k2
    have k4 : (k + 1) / 2 ^ 16 + 1 / 2 ^ 28 + 3 / 2 ^ 18 ≤ (k + 1 + 1) / 2 ^ 16 := by clear hS hM hd4 hr hZ hT hB hH iphi p3 q3 hsn k1 k2 k3; grind
    have k5 : 0 ≤ (k + 1) / 2 ^ 16 + 1 / 2 ^ 28 + 3 / 2 ^ 18 := by clear hS hM hd4 hr hZ hT hB hH iphi p3 q3 hsn k1 k2 k3; grind
    have k6 := mul_le2 k4 k4 k5 (Rat.le_trans k5 k4)
    rw [Rat.mul_one] at k3
    rw [Rat.mul_comm]
    exact Rat.le_trans k3 k6
/-- the first round's beginning -/
theorem iv_first {e : Nat → Nat → Rat} {dg om : Nat → Rat} {T : Nat → Prop} (hS : Sys e dg om T) {D er : Nat → Rat} {rk : Nat → Nat} (hM : Mak e dg om T D er rk) (hd4 : ∀ c, c < 36 → dg c ≤ 4) {rp z f : Nat → Rat} {R c2 : Rat} (hr : ∀ j, ¬ T j → rp j = 0) (hZ : Zn e T D rp z f R c2) {B2 H1 : Rat} (hB : EB e dg (PS e dg om T) rp B2) (hH : HB e dg rp H1) (hH0 : 0 ≤ H1) (hBl : 1 / 2 ^ 70 ≤ B2) (hBu : B2 ≤ 2 ^ 14) (hBz : B2 ≤ 2420 * qM e D z) (hHB : H1 * H1 ≤ 4 * B2) : ∃ V2, Iv e dg om T rp z c2 B2 H1 (1 / c2) V2 1 := by
  obtain ⟨z1, z2, z3, z4⟩ := Bz hBz (nx_c hS hM hd4 hr hZ) (nx_l hS hM hd4 hr hZ)
  obtain ⟨ps, p1, p2, p3⟩ := nx_phi hS hM hd4 hr hZ hH hH0
  have hl := nx_l hS hM hd4 hr hZ
  have hu := nx_u hS hM hd4 hr hZ
  have hd := nx_d hS hM hd4 hr hZ
  have hz : ∀ j, j < 36 → _ := fun j hj => nx_z hS hM hd4 hr hZ (j := j) hj
  have h0 := qM_nn hS hM z
  have hB0 : 0 < B2 := by clear hS hM hd4 hr hZ hB hH p3 hz; grind
  have c2u : c2 ≤ 2 ^ 40 := by
    obtain ⟨j, hj, ht, hR⟩ := hZ.2.2.2.2.1
    have k2 := r_le hS hM hB hH hd4 hH0 hj ht
    have k3 : R * R ≤ 16 * B2 := by
      rw [← hR, ab_sq]
      clear hS hM hd4 hr hZ hB hH p3 hz
      grind
    have nc := nx_c hS hM hd4 hr hZ
    rw [ab_le] at nc
    clear hS hM hd4 hr hZ hB hH p3 hz
    grind
  refine ⟨ps / c2, ⟨hB, hH, hZ.1, hr⟩, ⟨z1, div_nn (by decide) z1, div_nn p1 z1, hH0⟩, fun a ha hta hc => ?_, ?_, fun j hj => ?_, ⟨?_, ?_⟩, z2, c2u, hBl, hBu⟩
  · have a1 := p3 a ha hta hc
    have e2 : c2 * (H1 * (1 / c2) + ps / c2) = H1 + ps := by clear hS hM hd4 hr hZ hB hH p3 hz; grind
    rw [e2]
    exact a1
  · rw [ab_sub_comm] at hd
    clear hS hM hd4 hr hZ hB hH p3 hz
    grind
  · have h1 := hz j hj
    have h2 := mul_le2 (Rat.le_trans h1 (show 144 * qM e D z ≤ 144 * ((1 + 1 / 2 ^ 18) * c2) by clear hS hM hd4 hr hZ hB hH p3 hz h1; grind)) z3 (sq_nn _) (by clear hS hM hd4 hr hZ hB hH p3 hz h1; grind)
    have h3 := sq_nn c2
    clear hS hM hd4 hr hZ hB hH p3 hz
    grind
  · have h2 : B2 * (1 / c2) ≤ 24201 / 10 := by
      have := Rat.mul_le_mul_of_nonneg_right z3 (div_nn (show (0 : Rat) ≤ 1 by decide) z1)
      have e9 : 24201 / 10 * c2 * (1 / c2) = 24201 / 10 := by clear hS hM hd4 hr hZ hB hH p3 hz; grind
      rw [e9] at this
      exact this
    clear hS hM hd4 hr hZ hB hH p3 hz
    grind
  · refine Rat.le_of_mul_le_mul_right (c := c2 * c2) ?_ (Rat.mul_pos z1 z1)
    have f1 := mul_le2 (Rat.le_trans p2 (show 1 / 2 ^ 46 * qM e D z ≤ 1 / 2 ^ 46 * ((1 + 1 / 2 ^ 18) * c2) by clear hS hM hd4 hr hZ hB hH p3 hz; grind)) z3 (sq_nn _) (by clear hS hM hd4 hr hZ hB hH p3 hz; grind)
    have f2 := sq_nn c2
    have e2 : B2 * (ps / c2 * (ps / c2)) * (c2 * c2) = ps * ps * B2 := by
      clear hS hM hd4 hr hZ hB hH p3 hz
      grind
    rw [e2]
    clear hS hM hd4 hr hZ hB hH p3 hz e2
    grind
