/-! round-4 -/
/-! a round: the product of s and the new r, and the drift of the null sums -/
theorem rp_dt {e : Nat → Nat → Rat} {dg om : Nat → Rat} {T : Nat → Prop} (hS : Sys e dg om T) {D er : Nat → Rat} {rk : Nat → Nat} (hM : Mak e dg om T D er rk) (hd4 : ∀ c, c < 36 → dg c ≤ 4) {r s : Nat → Rat} {c B H W ga F : Rat} (hI : St e dg om T r s c B H W ga F) {q rp : Nat → Rat} {d al : Rat} (hN : Rn e dg T r s c q d al rp) (x : Nat → Rat) : dt x rp = dt x r - al * dt x (aS e dg s) + dt x (fun j => rp j - (r j - al * aS e dg s j)) := by
  unfold dt
  rw [← sm_mul, ← sm_sub, ← sm_add]
  exact sm_congr 36 (fun j _ => by grind)
theorem sc_sr {e : Nat → Nat → Rat} {dg om : Nat → Rat} {T : Nat → Prop} (hS : Sys e dg om T) {D er : Nat → Rat} {rk : Nat → Nat} (hM : Mak e dg om T D er rk) (hd4 : ∀ c, c < 36 → dg c ≤ 4) {r s : Nat → Rat} {c B H W ga F : Rat} (hI : St e dg om T r s c B H W ga F) {q rp : Nat → Rat} {d al : Rat} (hN : Rn e dg T r s c q d al rp) : ab (dt s rp) ≤ (ga + 1 / 2 ^ 15) * c := by
  obtain ⟨g1, a1, a2⟩ := sc_al hS hM hd4 hI hN
  obtain ⟨q1, q2, q3⟩ := sc_q hS hM hd4 hI
  have qb := sc_QB hS hM hd4 hI
  have hg := hI.1.2.2.2.2.2.2.1
  have hc := hI.1.2.2.2.1
  have hs0 := hI.1.2.2.1
  have hB := hI.2.2.2.2.2.2.2.2.1
  have hc2 := hI.2.2.2.2.2.2.2.1
  have hcl := hI.2.2.2.2.2.2.1
  have aQ : al * qA e dg s ≤ (1 + 1 / 2 ^ 17) * c := by
    have := (ab_le.mp g1).1
    clear hS hM hd4 hI hN hs0
    grind
  have Qc : tz * (1 + 524288 * qA e dg s) ≤ 1 / 2 ^ 60 * c := by
    have b1 := Rat.mul_le_mul_of_nonneg_left hB (Rat.le_of_lt q1)
    have b2 := Rat.mul_le_mul_of_nonneg_left hc2 (Rat.le_of_lt hc)
    clear hS hM hd4 hI hN hs0 g1 hg q2
    unfold tz
    grind
  have term : ∀ j, j < 36 → ab (s j) * ab (rp j - (r j - al * aS e dg s j)) ≤ 1 / 2 ^ 25 * c := fun j hj => by
    have t1 := Rat.mul_le_mul_of_nonneg_left (sc_f hS hM hd4 hI hN hj) (ab_nn (s j))
    have t2 : al * (ab (s j) * Sg e s j) ≤ 5 * (524288 * ((1 + 1 / 2 ^ 17) * c)) := by
      have b1 := Rat.mul_le_mul_of_nonneg_left (sc_2 hS hM hd4 hI hj hj) (Rat.le_of_lt a1)
      clear hS hM hd4 hI hN hs0 g1 hg q2 t1
      grind
    have t3 : ab (s j) * ab (r j) ≤ 100800 * c := by
      refine le_sq (by clear hS hM hd4 hI hN hs0 g1 hg q2 t1; grind) ?_
      have b1 := sc_r hS hM hd4 hI hN hj
      have b2 := hI.2.2.2.1 j hj
      have b3 := Rat.mul_le_mul_of_nonneg_left b1 (sq_nn (s j))
      have e1 : ab (s j) * ab (r j) * (ab (s j) * ab (r j)) = (s j * s j) * (r j * r j) := by
        have c1 := ab_sq (s j)
        have c2 := ab_sq (r j)
        rw [← c1, ← c2]
        clear hS hM hd4 hI hN hs0 g1 hg q2 t1
        grind
      rw [e1]
      clear hS hM hd4 hI hN hs0 g1 hg q2 t1
      grind
    have t4 : tz * ab (s j) ≤ 1 / 2 ^ 60 * c := by
      have b0 : ab (s j) ≤ 1 + 524288 * qA e dg s := by
        have b1 := sc_s hS hM hd4 hI hj
        have b2 := sq_nn (ab (s j) - 1)
        have b3 := ab_sq (s j)
        have b4 := ab_nn (s j)
        clear hS hM hd4 hI hN hs0 g1 hg q2 t1
        grind
      have b5 := Rat.mul_le_mul_of_nonneg_left b0 (show 0 ≤ tz by decide +kernel)
      exact Rat.le_trans b5 Qc
    generalize ab (s j) = x at *
    generalize ab (r j) = y at *
    generalize Sg e s j = S at *
    have e2 : x * (50 * uu * (al * S) + 3 * uu * y + tz) = 50 * uu * (al * (x * S)) + 3 * uu * (x * y) + tz * x := by grind
    rw [e2] at t1
    have u1' := Rat.mul_le_mul_of_nonneg_left t2 (show 0 ≤ 50 * uu by decide +kernel)
    have u2' := Rat.mul_le_mul_of_nonneg_left t3 (show 0 ≤ 3 * uu by decide +kernel)
    generalize al * (x * S) = X1 at *
    generalize x * y = X2 at *
    generalize tz * x = X3 at *
    clear hS hM hd4 hI hN hs0 g1 hg q2 e2 t2 t3
    unfold uu at *
    grind
  have sf : ab (dt s (fun j => rp j - (r j - al * aS e dg s j))) ≤ 24 * (1 / 2 ^ 25 * c) := by
    refine Rat.le_trans (dt_ab _ _) ?_
    exact sm_T hS hM (by clear hS hM hd4 hI hN hs0 g1 hg q2; grind) (fun j hj _ => term j hj) (fun j _ ht => by
      rw [hs0 j ht, ab_of (show (0 : Rat) ≤ 0 from Rat.le_refl)]
      grind)
  have e3 := rp_dt hS hM hd4 hI hN s
  have e4 : dt s (aS e dg s) = qA e dg s := rfl
  rw [e3, e4]
  generalize dt s (fun j => rp j - (r j - al * aS e dg s j)) = f at *
  generalize dt s r = y at *
  generalize qA e dg s = Q at *
  have w1 := ab_sub (y - c) (al * Q - c)
  have w2 := ab_add (y - c - (al * Q - c)) f
  rw [show y - c - (al * Q - c) + f = y - al * Q + f by grind] at w2
  clear hS hM hd4 hI hN hs0 term
  grind
theorem Gg_nn {e : Nat → Nat → Rat} {dg om : Nat → Rat} {T : Nat → Prop} (hS : Sys e dg om T) {D er : Nat → Rat} {rk : Nat → Nat} (hM : Mak e dg om T D er rk) (hd4 : ∀ c, c < 36 → dg c ≤ 4) {r s : Nat → Rat} {c B H W ga F : Rat} (hI : St e dg om T r s c B H W ga F) {q rp : Nat → Rat} {d al : Rat} (hN : Rn e dg T r s c q d al rp) (j : Nat) : 0 ≤ Gg e s j := sm_nn 36 (fun i _ => Rat.mul_nonneg (hS.e0 j i) (ab_nn _))
/-- the sum of all differences -/
theorem sum_G {e : Nat → Nat → Rat} {dg om : Nat → Rat} {T : Nat → Prop} (hS : Sys e dg om T) {D er : Nat → Rat} {rk : Nat → Nat} (hM : Mak e dg om T D er rk) (hd4 : ∀ c, c < 36 → dg c ≤ 4) {r s : Nat → Rat} {c B H W ga F : Rat} (hI : St e dg om T r s c B H W ga F) {q rp : Nat → Rat} {d al : Rat} (hN : Rn e dg T r s c q d al rp) : sm (fun j => Gg e s j) 36 * sm (fun j => Gg e s j) 36 ≤ 192 * qA e dg s := by
  obtain ⟨p1, p2, p3⟩ := qA_parts hS s
  have hQ := hS.qnn s
  have c1 : ∀ j, j < 36 → Gg e s j * Gg e s j ≤ nn e j * sm (fun i => e j i * ((s j - s i) * (s j - s i))) 36 := fun j hj => by
    have cs := sm_csw (w := fun i => e j i) (a := fun _ => 1) (b := fun i => ab (s j - s i)) 36 (fun i _ => hS.e0 j i)
    have f1 : sm (fun i => e j i * (1 * 1)) 36 = nn e j := sm_congr 36 (fun i _ => by grind)
    have f2 : sm (fun i => e j i * (1 * ab (s j - s i))) 36 = Gg e s j := sm_congr 36 (fun i _ => by grind)
    have f3 : sm (fun i => e j i * (ab (s j - s i) * ab (s j - s i))) 36 = sm (fun i => e j i * ((s j - s i) * (s j - s i))) 36 := sm_congr 36 (fun i _ => by rw [ab_sq])
    rw [f1, f2, f3] at cs
    exact cs
  have c2 : ∀ j, j < 36 → Gg e s j * Gg e s j ≤ 4 * sm (fun i => e j i * ((s j - s i) * (s j - s i))) 36 := fun j hj => by
    have h1 := c1 j hj
    have h2 : 0 ≤ sm (fun i => e j i * ((s j - s i) * (s j - s i))) 36 := sm_nn 36 (fun i _ => Rat.mul_nonneg (hS.e0 j i) (sq_nn _))
    have h3 : nn e j ≤ 4 := Rat.le_trans (hS.dn j hj) (hd4 j hj)
    have h4 := Rat.mul_le_mul_of_nonneg_right h3 h2
    exact Rat.le_trans h1 h4
  have cs := sm_cs (a := fun j => ind (T j)) (b := fun j => Gg e s j) 36
  have e1 : sm (fun j => ind (T j) * Gg e s j) 36 = sm (fun j => Gg e s j) 36 := sm_congr 36 (fun j hj => by
    rcases Classical.em (T j) with ht | ht
    · rw [ind_t ht]; exact Rat.one_mul _
    · have : Gg e s j = 0 := sm_0 36 (fun i _ => by
        rcases hS.2.1 j i with h | h
        · rw [h]; exact Rat.zero_mul _
        · exact absurd (hS.2.2.1 j i h).1 ht)
      rw [this]; exact Rat.mul_zero _)
  have e2 : sm (fun j => ind (T j) * ind (T j)) 36 ≤ 24 := by
    have : sm (fun j => ind (T j) * ind (T j)) 36 = sm (fun j => ind (T j)) 36 := sm_congr 36 (fun j _ => by
      rcases Classical.em (T j) with ht | ht
      · rw [ind_t ht]; exact Rat.one_mul _
      · rw [ind_f ht]; exact Rat.zero_mul _)
    rw [this]
    exact hS.2.2.2.2.2.2
  have e3 : sm (fun j => Gg e s j * Gg e s j) 36 ≤ sm (fun j => 4 * sm (fun i => e j i * ((s j - s i) * (s j - s i))) 36) 36 := sm_le 36 c2
  rw [sm_mul 4 (fun j => sm (fun i => e j i * ((s j - s i) * (s j - s i))) 36) 36] at e3
  rw [e1] at cs
  have e4 : 0 ≤ sm (fun j => Gg e s j * Gg e s j) 36 := sm_nn 36 (fun j _ => sq_nn _)
  have e5 := Rat.mul_le_mul_of_nonneg_right e2 e4
  generalize sm (fun v => sm (fun w => e v w * ((s v - s w) * (s v - s w))) 36) 36 = E at *
  generalize sm (fun j => Gg e s j * Gg e s j) 36 = A at *
  generalize sm (fun j => Gg e s j) 36 = A1 at *
  generalize sm (fun c => (dg c - nn e c) * (s c * s c)) 36 = E2 at *
  generalize sm (fun j => ind (T j) * ind (T j)) 36 = A3 at *
  clear hS hM hd4 hI hN c1 c2 e1
  grind
/-- the sum of all amounts of r -/
theorem sum_r {e : Nat → Nat → Rat} {dg om : Nat → Rat} {T : Nat → Prop} (hS : Sys e dg om T) {D er : Nat → Rat} {rk : Nat → Nat} (hM : Mak e dg om T D er rk) (hd4 : ∀ c, c < 36 → dg c ≤ 4) {r s : Nat → Rat} {c B H W ga F : Rat} (hI : St e dg om T r s c B H W ga F) {q rp : Nat → Rat} {d al : Rat} (hN : Rn e dg T r s c q d al rp) {ta : Rat} (hta : 0 < ta) : sm (fun j => ab (r j)) 36 ≤ 139 / 20 * (B / ta + ta) + H := by
  have hB := hI.2.2.2.2.2.2.2.2.1
  have hr0 := hI.2.1
  have hg0 : ∀ j, ¬ T j → (if 0 ≤ r j then ind (T j) else -ind (T j)) = 0 := fun j ht => by
    rw [ind_f ht]
    split <;> decide
  have hg1 : ∀ j, ab (if 0 ≤ r j then ind (T j) else -ind (T j)) ≤ 1 := fun j => by
    rcases Classical.em (T j) with ht | ht
    · rw [ind_t ht]
      split <;> decide +kernel
    · rw [hg0 j ht]
      decide +kernel
  obtain ⟨y, h, h1, h2, h3⟩ := see hS hM (g := fun j => if 0 ≤ r j then ind (T j) else -ind (T j)) hI.1.1 hI.1.2.1 hg0 (fun j _ => hg1 j)
  have e1 : dt (fun j => if 0 ≤ r j then ind (T j) else -ind (T j)) r = sm (fun j => ab (r j)) 36 := sm_congr 36 (fun j _ => by
    show (if 0 ≤ r j then ind (T j) else -ind (T j)) * r j = ab (r j)
    rcases Classical.em (T j) with ht | ht
    · rw [ind_t ht]
      unfold ab
      clear hS hM hd4 hI hN
      split <;> grind
    · rw [hr0 j ht, ab_of Rat.le_refl]
      exact Rat.mul_zero _)
  have e2 : qA e dg (fun j => if 0 ≤ r j then ind (T j) else -ind (T j)) ≤ 192 := by
    have : qA e dg (fun j => if 0 ≤ r j then ind (T j) else -ind (T j)) ≤ 24 * 8 := by
      refine sm_T hS hM (by decide +kernel) (fun j hj _ => ?_) (fun j _ ht => by
        show (if 0 ≤ r j then ind (T j) else -ind (T j)) * _ ≤ 0
        rw [hg0 j ht, Rat.zero_mul]
        exact Rat.le_refl)
      have a1 : ab (aS e dg (fun j => if 0 ≤ r j then ind (T j) else -ind (T j)) j) ≤ 8 := by
        unfold aS
        have h0 : 0 ≤ dg j := by
          have k1 := hS.dn j hj
          have k2 : 0 ≤ nn e j := sm_nn 36 (fun i _ => hS.e0 j i)
          exact Rat.le_trans k2 k1
        have b1 := ab_sub (dg j * (if 0 ≤ r j then ind (T j) else -ind (T j))) (sm (fun i => e j i * (if 0 ≤ r i then ind (T i) else -ind (T i))) 36)
        have b2 : ab (dg j * (if 0 ≤ r j then ind (T j) else -ind (T j))) ≤ 4 := by
          rw [ab_mul, ab_of h0]
          have := mul_le2 (hd4 j hj) (hg1 j) h0 (by decide)
          grind
        have b3 : ab (sm (fun i => e j i * (if 0 ≤ r i then ind (T i) else -ind (T i))) 36) ≤ 4 := by
          refine Rat.le_trans (sm_ab 36) ?_
          refine Rat.le_trans (sm_le (g := fun i => e j i) 36 (fun i _ => ?_)) (Rat.le_trans (hS.dn j hj) (hd4 j hj))
          rw [ab_mul, ab_of (hS.e0 j i)]
          have := Rat.mul_le_mul_of_nonneg_left (hg1 i) (hS.e0 j i)
          rw [Rat.mul_one] at this
          exact this
        refine Rat.le_trans b1 ?_
        generalize ab (dg j * (if 0 ≤ r j then ind (T j) else -ind (T j))) = Z1 at *
        generalize ab (sm (fun i => e j i * (if 0 ≤ r i then ind (T i) else -ind (T i))) 36) = Z2 at *
        clear hS hM hd4 hI hN
        grind
      have a2 := ab_self ((if 0 ≤ r j then ind (T j) else -ind (T j)) * aS e dg (fun j => if 0 ≤ r j then ind (T j) else -ind (T j)) j)
      rw [ab_mul] at a2
      have a3 := mul_le2 (hg1 j) a1 (ab_nn _) (by decide)
      rw [Rat.one_mul] at a3
      exact Rat.le_trans a2 a3
    refine Rat.le_trans this ?_
    decide +kernel
  have hB0 : 0 ≤ B := by clear hS hM hd4 hI hN; grind
  have k1 := Rat.mul_le_mul_of_nonneg_right e2 hB0
  have k2 : y * y ≤ (139 / 10) * (139 / 10) * B := by
    clear hS hM hd4 hI hN
    grind
  have k3 := amg (by decide +kernel) hB0 hta k2
  have k4 := ab_self y
  have k5 := ab_self h
  rw [e1] at h1
  rw [h1]
  generalize B / ta = Z at *
  clear hS hM hd4 hI hN e1 e2 h2 k1 k2 hg0 hg1
  grind
