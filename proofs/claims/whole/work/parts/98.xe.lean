/-! round-3 -/
/-! a round: what r becomes -/
def tz : Rat := 1 / 2 ^ 230
theorem amg {y k A l : Rat} (hk : 0 ≤ k) (hA : 0 ≤ A) (hl : 0 < l) (h : y * y ≤ k * k * A) : ab y ≤ k / 2 * (A / l + l) := by
  have hl2 : 0 ≤ A / l := by
    rw [Rat.div_def]
    exact Rat.mul_nonneg hA (Rat.le_of_lt (Rat.inv_pos.mpr hl))
  have e1 : A / l * l = A := by grind
  generalize A / l = m at *
  refine ab_le_sq (Rat.mul_nonneg (by grind) (by grind)) ?_
  have h1 := sq_nn (m - l)
  have h2 : 4 * A ≤ (m + l) * (m + l) := by grind
  have h3 := Rat.mul_le_mul_of_nonneg_left h2 (Rat.mul_nonneg hk hk)
  grind
/-- the error of a place, coarse -/
theorem numf {al S r q rp a : Rat} (h0 : 0 < al) (h1 : al ≤ 1025) (hS : 0 ≤ S) (hq : ab (q - a) ≤ 24 * uu * S + ty) (ha : ab a ≤ 4 * S) (hr : ab (rp - (r - al * q)) ≤ u1 * ab (al * q) + u1 * ab rp + ty) : ab (rp - (r - al * a)) ≤ 50 * uu * (al * S) + 3 * uu * ab r + tz := by
  have q1 : ab q ≤ 5 * S + ty := by
    have := ab_add (q - a) a
    rw [show q - a + a = q by grind] at this
    unfold uu at *
    grind
  have aq : ab (al * q) ≤ 5 * (al * S) + 1025 * ty := by
    rw [ab_mul, ab_of (Rat.le_of_lt h0)]
    have := Rat.mul_le_mul_of_nonneg_left q1 (Rat.le_of_lt h0)
    have := Rat.mul_le_mul_of_nonneg_right h1 (Rat.le_of_lt ty_0)
    grind
  have ad : ab (al * (q - a)) ≤ 24 * uu * (al * S) + 1025 * ty := by
    rw [ab_mul, ab_of (Rat.le_of_lt h0)]
    have := Rat.mul_le_mul_of_nonneg_left hq (Rat.le_of_lt h0)
    have := Rat.mul_le_mul_of_nonneg_right h1 (Rat.le_of_lt ty_0)
    grind
  have r1 : ab rp ≤ ab (rp - (r - al * q)) + (ab r + ab (al * q)) := by
    have a1 := ab_add (rp - (r - al * q)) (r - al * q)
    have a2 := ab_sub r (al * q)
    rw [show rp - (r - al * q) + (r - al * q) = rp by grind] at a1
    grind
  have f1 := ab_sub (rp - (r - al * q)) (al * (q - a))
  rw [show rp - (r - al * q) - al * (q - a) = rp - (r - al * a) by grind] at f1
  have hX := Rat.mul_nonneg (Rat.le_of_lt h0) hS
  have hr0 := ab_nn r
  generalize al * S = X at *
  generalize ab (al * q) = A at *
  generalize ab (al * (q - a)) = A2 at *
  generalize ab (rp - (r - al * q)) = A3 at *
  generalize ab rp = A4 at *
  generalize ab r = A5 at *
  clear hq ha q1
  unfold u1 uu ty tz at *
  grind
/-- the error of a place of a closed component -/
theorem numg {al S G r q rp a : Rat} (h0 : 0 < al) (h1 : al ≤ 1025) (hS : 0 ≤ S) (hG : 0 ≤ G) (hq : ab (q - a) ≤ u1 * (6 * S + 4 * G) + ty) (ha : ab a ≤ G) (hr : ab (rp - (r - al * q)) ≤ u1 * ab (al * q) + u1 * ab rp + ty) : ab (rp - (r - al * a)) ≤ u1 * (al * (6001 / 1000 * S + 601 / 100 * G) + 1001 / 1000 * ab r) + tz := by
  have q1 : ab q ≤ G + (u1 * (6 * S + 4 * G) + ty) := by
    have := ab_add (q - a) a
    rw [show q - a + a = q by grind] at this
    grind
  have aq : ab (al * q) ≤ al * G + u1 * (6 * (al * S) + 4 * (al * G)) + 1025 * ty := by
    rw [ab_mul, ab_of (Rat.le_of_lt h0)]
    have := Rat.mul_le_mul_of_nonneg_left q1 (Rat.le_of_lt h0)
    have := Rat.mul_le_mul_of_nonneg_right h1 (Rat.le_of_lt ty_0)
    grind
  have ad : ab (al * (q - a)) ≤ u1 * (6 * (al * S) + 4 * (al * G)) + 1025 * ty := by
    rw [ab_mul, ab_of (Rat.le_of_lt h0)]
    have := Rat.mul_le_mul_of_nonneg_left hq (Rat.le_of_lt h0)
    have := Rat.mul_le_mul_of_nonneg_right h1 (Rat.le_of_lt ty_0)
    grind
  have r1 : ab rp ≤ ab (rp - (r - al * q)) + (ab r + ab (al * q)) := by
    have a1 := ab_add (rp - (r - al * q)) (r - al * q)
    have a2 := ab_sub r (al * q)
    rw [show rp - (r - al * q) + (r - al * q) = rp by grind] at a1
    grind
  have f1 := ab_sub (rp - (r - al * q)) (al * (q - a))
  rw [show rp - (r - al * q) - al * (q - a) = rp - (r - al * a) by grind] at f1
  have hX := Rat.mul_nonneg (Rat.le_of_lt h0) hS
  have hY := Rat.mul_nonneg (Rat.le_of_lt h0) hG
  have hr0 := ab_nn r
  have e1 : al * (6001 / 1000 * S + 601 / 100 * G) = 6001 / 1000 * (al * S) + 601 / 100 * (al * G) := by grind
  rw [e1]
  generalize al * S = X at *
  generalize al * G = Y at *
  generalize ab (al * q) = A at *
  generalize ab (al * (q - a)) = A2 at *
  generalize ab (rp - (r - al * q)) = A3 at *
  generalize ab rp = A4 at *
  generalize ab r = A5 at *
  clear hq ha q1
  unfold u1 uu ty tz at *
  grind
theorem sc_f {e : Nat → Nat → Rat} {dg om : Nat → Rat} {T : Nat → Prop} (hS : Sys e dg om T) {D er : Nat → Rat} {rk : Nat → Nat} (hM : Mak e dg om T D er rk) (hd4 : ∀ c, c < 36 → dg c ≤ 4) {r s : Nat → Rat} {c B H W ga F : Rat} (hI : St e dg om T r s c B H W ga F) {q rp : Nat → Rat} {d al : Rat} (hN : Rn e dg T r s c q d al rp) {j : Nat} (hj : j < 36) : ab (rp j - (r j - al * aS e dg s j)) ≤ 50 * uu * (al * Sg e s j) + 3 * uu * ab (r j) + tz := by
  obtain ⟨-, a1, a2⟩ := sc_al hS hM hd4 hI hN
  exact numf a1 a2 (Sg_nn hS hM hd4 hI j) (hN.2.1 j hj) (Sg_aS hS hM hd4 hI j hj) (hN.2.2.2.2.2.2.2.2 j hj)
theorem sc_f0 {e : Nat → Nat → Rat} {dg om : Nat → Rat} {T : Nat → Prop} (hS : Sys e dg om T) {D er : Nat → Rat} {rk : Nat → Nat} (hM : Mak e dg om T D er rk) (hd4 : ∀ c, c < 36 → dg c ≤ 4) {r s : Nat → Rat} {c B H W ga F : Rat} (hI : St e dg om T r s c B H W ga F) {q rp : Nat → Rat} {d al : Rat} (hN : Rn e dg T r s c q d al rp) {j : Nat} (ht : ¬ T j) : rp j - (r j - al * aS e dg s j) = 0 := by
  have h1 : aS e dg s j = 0 := by
    unfold aS
    rw [hI.1.2.2.1 j ht, sm_0 36 (fun i _ => by
      rcases hS.2.1 j i with h | h
      · rw [h]; grind
      · exact absurd (hS.2.2.1 j i h).1 ht)]
    grind
  rw [h1, hI.2.1 j ht, hN.2.2.2.2.2.2.2.1 j ht]
  grind
theorem sc_ac {e : Nat → Nat → Rat} {dg om : Nat → Rat} {T : Nat → Prop} (hS : Sys e dg om T) {D er : Nat → Rat} {rk : Nat → Nat} (hM : Mak e dg om T D er rk) (hd4 : ∀ c, c < 36 → dg c ≤ 4) {r s : Nat → Rat} {c B H W ga F : Rat} (hI : St e dg om T r s c B H W ga F) {q rp : Nat → Rat} {d al : Rat} (hN : Rn e dg T r s c q d al rp) : al * c ≤ 401 / 100 * B ∧ al * (al * qA e dg s) ≤ 402 / 100 * B ∧ 0 < al * c := by
  obtain ⟨h1, a1, a2⟩ := sc_al hS hM hd4 hI hN
  obtain ⟨q1, q2, -⟩ := sc_q hS hM hd4 hI
  have hc := hI.1.2.2.2.1
  have p1 := Rat.mul_pos a1 hc
  have h2 : al * c ≤ 401 / 100 * B := by
    refine Rat.le_of_mul_le_mul_right (c := qA e dg s) ?_ q1
    have b1 := Rat.mul_le_mul_of_nonneg_right ((ab_le.mp h1).1) (Rat.le_of_lt hc)
    have b2 := sq_nn c
    clear hS hM hd4 hI hN h1
    grind
  refine ⟨h2, ?_, p1⟩
  have b3 := Rat.mul_le_mul_of_nonneg_left ((ab_le.mp h1).1) (Rat.le_of_lt a1)
  clear hS hM hd4 hI hN h1
  grind
theorem sc_r {e : Nat → Nat → Rat} {dg om : Nat → Rat} {T : Nat → Prop} (hS : Sys e dg om T) {D er : Nat → Rat} {rk : Nat → Nat} (hM : Mak e dg om T D er rk) (hd4 : ∀ c, c < 36 → dg c ≤ 4) {r s : Nat → Rat} {c B H W ga F : Rat} (hI : St e dg om T r s c B H W ga F) {q rp : Nat → Rat} {d al : Rat} (hN : Rn e dg T r s c q d al rp) {j : Nat} (hj : j < 36) : r j * r j ≤ 16 * B := by
  rcases Classical.em (T j) with ht | ht
  · have := r_le hS hM hI.1.1 hI.1.2.1 hd4 hI.2.2.2.2.2.1 hj ht
    have h2 := hI.2.2.2.2.1
    clear hS hM hd4 hI hN
    grind
  · rw [hI.2.1 j ht]
    have h2 := hI.2.2.2.2.1
    have := sq_nn H
    clear hS hM hd4 hI hN
    grind
theorem sc_S2 {e : Nat → Nat → Rat} {dg om : Nat → Rat} {T : Nat → Prop} (hS : Sys e dg om T) {D er : Nat → Rat} {rk : Nat → Nat} (hM : Mak e dg om T D er rk) (hd4 : ∀ c, c < 36 → dg c ≤ 4) {r s : Nat → Rat} {c B H W ga F : Rat} (hI : St e dg om T r s c B H W ga F) {q rp : Nat → Rat} {d al : Rat} (hN : Rn e dg T r s c q d al rp) {j : Nat} (hj : j < 36) : Sg e s j * Sg e s j ≤ 25 * (524288 * qA e dg s) := by
  have h3 := (sc_q hS hM hd4 hI).1
  have h1 := sc_2 hS hM hd4 hI hj hj
  have h2 : sm (fun k => e j k * ab (s k)) 36 * Sg e s j ≤ 4 * (5 * (524288 * qA e dg s)) := by
    have a1 : sm (fun k => Sg e s j * (e j k * ab (s k))) 36 ≤ sm (fun k => 5 * (524288 * qA e dg s) * e j k) 36 := sm_le 36 (fun k hk => by
      have := Rat.mul_le_mul_of_nonneg_left (sc_2 hS hM hd4 hI hk hj) (hS.e0 j k)
      clear hS hM hd4 hI hN
      grind)
    rw [sm_mul (5 * (524288 * qA e dg s)) (fun k => e j k) 36, sm_mul (Sg e s j) (fun k => e j k * ab (s k)) 36] at a1
    have a2 : sm (fun k => e j k) 36 ≤ 4 := Rat.le_trans (hS.dn j hj) (hd4 j hj)
    have a3 := Rat.mul_le_mul_of_nonneg_left a2 (show 0 ≤ 5 * (524288 * qA e dg s) by grind)
    clear hS hM hd4 hI hN
    grind
  have e1 : Sg e s j * Sg e s j = ab (s j) * Sg e s j + sm (fun k => e j k * ab (s k)) 36 * Sg e s j := by
    conv => lhs; lhs; unfold Sg
    rw [Rat.add_mul]
  rw [e1]
  clear hS hM hd4 hI hN
  grind
theorem sc_fsq {e : Nat → Nat → Rat} {dg om : Nat → Rat} {T : Nat → Prop} (hS : Sys e dg om T) {D er : Nat → Rat} {rk : Nat → Nat} (hM : Mak e dg om T D er rk) (hd4 : ∀ c, c < 36 → dg c ≤ 4) {r s : Nat → Rat} {c B H W ga F : Rat} (hI : St e dg om T r s c B H W ga F) {q rp : Nat → Rat} {d al : Rat} (hN : Rn e dg T r s c q d al rp) {j : Nat} (hj : j < 36) : (rp j - (r j - al * aS e dg s j)) * (rp j - (r j - al * aS e dg s j)) ≤ 1 / 2 ^ 67 * B := by
  have h1 := sc_f hS hM hd4 hI hN hj
  have h2 := sc_S2 hS hM hd4 hI hN hj
  have h3 := sc_r hS hM hd4 hI hN hj
  obtain ⟨-, h4, -⟩ := sc_ac hS hM hd4 hI hN
  have h5 := sq_le2 h1
  have hB := hI.2.2.2.2.2.2.2.2.1
  refine Rat.le_trans h5 ?_
  have e1 : al * Sg e s j * (al * Sg e s j) ≤ 25 * (524288 * (402 / 100 * B)) := by
    have a1 := Rat.mul_le_mul_of_nonneg_left h2 (sq_nn al)
    clear hS hM hd4 hI hN h1 h5
    grind
  have e2 : ab (r j) * ab (r j) ≤ 16 * B := by rw [ab_sq]; exact h3
  generalize al * Sg e s j = X at *
  generalize ab (r j) = Y at *
  have t1 := sq_nn (50 * uu * X - 3 * uu * Y)
  have t2 := sq_nn (50 * uu * X - tz)
  have t3 := sq_nn (3 * uu * Y - tz)
  have t4 : (50 * uu * X + 3 * uu * Y + tz) * (50 * uu * X + 3 * uu * Y + tz) ≤ 3 * (2500 * (uu * uu) * (X * X) + 9 * (uu * uu) * (Y * Y) + tz * tz) := by
    clear hS hM hd4 hI hN h1 h5
    grind
  have t5 := Rat.mul_le_mul_of_nonneg_left e1 (show 0 ≤ 2500 * (uu * uu) by decide +kernel)
  have t6 := Rat.mul_le_mul_of_nonneg_left e2 (show 0 ≤ 9 * (uu * uu) by decide +kernel)
  generalize (50 * uu * X + 3 * uu * Y + tz) * (50 * uu * X + 3 * uu * Y + tz) = L at *
  generalize X * X = X2 at *
  generalize Y * Y = Y2 at *
  clear hS hM hd4 hI hN h1 h5 t1 t2 t3 e1 e2 h2 h3 h4
  unfold uu tz at *
  grind
/-- the energy after the round -/
theorem sc_eb {e : Nat → Nat → Rat} {dg om : Nat → Rat} {T : Nat → Prop} (hS : Sys e dg om T) {D er : Nat → Rat} {rk : Nat → Nat} (hM : Mak e dg om T D er rk) (hd4 : ∀ c, c < 36 → dg c ≤ 4) {r s : Nat → Rat} {c B H W ga F : Rat} (hI : St e dg om T r s c B H W ga F) {q rp : Nat → Rat} {d al : Rat} (hN : Rn e dg T r s c q d al rp) : EB e dg (PS e dg om T) rp ((1 + 1 / 2 ^ 20) * (B - (1 - 2 * ga - 2 * F - 1 / 2 ^ 16) * (al * c) + 1 / 2 ^ 32 * B)) := by
  have hps := tld_ps hS hM hI.1.2.2.1
  have h1 := eb_step hS.1 (PS_lsp hS hM) al hps hI.1.1
  rw [tld_q hS hM] at h1
  obtain ⟨g1, a1, a2⟩ := sc_al hS hM hd4 hI hN
  obtain ⟨g2, g3, g4⟩ := sc_ac hS hM hd4 hI hN
  have k1 := sd_1 hS hM hI.1.1 hI.1.2.1 hI.1.2.2.1 hI.1.2.2.2.1 hI.1.2.2.2.2.1 hI.1.2.2.2.2.2.1 hI.1.2.2.2.2.2.2.1 hI.1.2.2.2.2.2.2.2.1 hI.1.2.2.2.2.2.2.2.2
  have hB := hI.2.2.2.2.2.2.2.2.1
  have b1 : B + al * al * qA e dg s - 2 * al * dt (tld e dg om T s) r ≤ B - (1 - 2 * ga - 2 * F - 1 / 2 ^ 16) * (al * c) := by
    have b2 := Rat.mul_le_mul_of_nonneg_left k1 (Rat.le_of_lt a1)
    have b3 := Rat.mul_le_mul_of_nonneg_left ((ab_le.mp g1).1) (Rat.le_of_lt a1)
    clear hS hM hd4 hI hN h1 hps g1
    grind
  have h2 := eb_mono h1 b1
  have hf := eb_pert (PS_lsp hS hM) (f := fun j => rp j - (r j - al * aS e dg s j)) (th := 1 / 2 ^ 20) (et := 1 / 2 ^ 32 * B) (by decide +kernel) h2 (fun x hx => by
    have hQ := hS.qnn x
    have w1 : dt x (fun j => rp j - (r j - al * aS e dg s j)) * dt x (fun j => rp j - (r j - al * aS e dg s j)) ≤ 576 * (24 * qA e dg x * (1 / 2 ^ 67 * B)) := by
      refine sm_sqT hS hM (Rat.mul_nonneg (by grind) (by grind)) (fun j hj ht => ?_) (fun j hj ht => by rw [hx.2 j ht]; grind)
      have p1 := poin hS hx.1 hj ht
      have p2 := sc_fsq hS hM hd4 hI hN hj
      have p3 := mul_le2 p1 p2 (sq_nn _) (by clear hS hM hd4 hI hN h1 hps g1; grind)
      clear hS hM hd4 hI hN h1 hps g1
      grind
    generalize dt x (fun j => rp j - (r j - al * aS e dg s j)) = y at *
    generalize qA e dg x = Q at *
    refine le_sq (by clear hS hM hd4 hI hN h1 hps g1; grind) ?_
    have w2 := sq_nn (1 / 2 ^ 20 * Q - 1 / 2 ^ 32 * B)
    have w3 := Rat.mul_nonneg hQ (show 0 ≤ B by clear hS hM hd4 hI hN h1 hps g1; grind)
    clear hS hM hd4 hI hN h1 hps g1
    grind)
  refine eb_congr hf (fun j hj => ?_)
  show rp j = r j + -al * aS e dg (tld e dg om T s) j + 1 * (rp j - (r j - al * aS e dg s j))
  rw [tld_a hS hM s hj]
  clear hS hM hd4 hI hN h1 hps g1
  grind
