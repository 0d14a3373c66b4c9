/-! round-5 -/
theorem aS_cl {e : Nat → Nat → Rat} {dg om : Nat → Rat} {T : Nat → Prop} (hS : Sys e dg om T) {D er : Nat → Rat} {rk : Nat → Nat} (hM : Mak e dg om T D er rk) (hd4 : ∀ c, c < 36 → dg c ≤ 4) {r s : Nat → Rat} {c B H W ga F : Rat} (hI : St e dg om T r s c B H W ga F) {q rp : Nat → Rat} {d al : Rat} (hN : Rn e dg T r s c q d al rp) {j : Nat} (hcl : dg j = nn e j) : ab (aS e dg s j) ≤ Gg e s j := by
  have e1 : aS e dg s j = sm (fun i => e j i * (s j - s i)) 36 := by
    unfold aS
    rw [hcl]
    unfold nn
    have : sm (fun i => e j i * (s j - s i)) 36 = s j * sm (fun i => e j i) 36 - sm (fun i => e j i * s i) 36 := by
      rw [← sm_mul, ← sm_sub]
      exact sm_congr 36 (fun i _ => by grind)
    rw [this]
    grind
  rw [e1]
  refine Rat.le_trans (sm_ab 36) (sm_le 36 (fun i _ => ?_))
  rw [ab_mul, ab_of (hS.e0 j i)]
  exact Rat.le_refl
/-- how far the null sums drift in a round -/
theorem sc_dr {e : Nat → Nat → Rat} {dg om : Nat → Rat} {T : Nat → Prop} (hS : Sys e dg om T) {D er : Nat → Rat} {rk : Nat → Nat} (hM : Mak e dg om T D er rk) (hd4 : ∀ c, c < 36 → dg c ≤ 4) {r s : Nat → Rat} {c B H W ga F : Rat} (hI : St e dg om T r s c B H W ga F) {q rp : Nat → Rat} {d al : Rat} (hN : Rn e dg T r s c q d al rp) {la ta : Rat} (hla : 0 < la) (hta : 0 < ta) : HB e dg rp (H + (u1 * (395 * (al * (al * qA e dg s) / la + la) + 145 * (al * c * W) + 1001 / 1000 * (139 / 20 * (B / ta + ta) + H)) + 36 * tz)) := by
  intro g hg hg1
  obtain ⟨-, a1, a2⟩ := sc_al hS hM hd4 hI hN
  have hQ := (sc_q hS hM hd4 hI).1
  have hc := hI.1.2.2.2.1
  have hW := hI.1.2.2.2.2.1
  have hs0 := hI.1.2.2.1
  have hcW := Rat.mul_nonneg (Rat.le_of_lt hc) hW
  have hu : 0 ≤ u1 := by decide +kernel
  have htz : 0 ≤ tz := by decide +kernel
  have hA : 0 ≤ al * (al * qA e dg s) := Rat.mul_nonneg (Rat.le_of_lt a1) (Rat.mul_nonneg (Rat.le_of_lt a1) (Rat.le_of_lt hQ))
  have sr := sum_r hS hM hd4 hI hN hta
  have sG := sum_G hS hM hd4 hI hN
  have kj : ∀ j, j < 36 → ab (g j) * ab (rp j - (r j - al * aS e dg s j)) ≤ u1 * (6001 / 1000 * (al * ab (s j)) + 601 / 100 * (al * Gg e s j) + 1001 / 1000 * ab (r j)) + tz := fun j hj => by
    have n1 := Rat.mul_nonneg (Rat.le_of_lt a1) (ab_nn (s j))
    have n2 := Rat.mul_nonneg (Rat.le_of_lt a1) (Gg_nn hS hM hd4 hI hN j)
    have n3 := ab_nn (r j)
    have n4 : 0 ≤ u1 * (6001 / 1000 * (al * ab (s j)) + 601 / 100 * (al * Gg e s j) + 1001 / 1000 * ab (r j)) + tz := by
      have := Rat.mul_nonneg hu (show 0 ≤ 6001 / 1000 * (al * ab (s j)) + 601 / 100 * (al * Gg e s j) + 1001 / 1000 * ab (r j) by clear hS hM hd4 hI hN sr sG; grind)
      clear hS hM hd4 hI hN sr sG
      grind
    rcases Classical.em (T j) with ht | ht
    · rcases Classical.em (dg j = nn e j) with hcl | hcl
      · have f := numg a1 a2 (ab_nn (s j)) (Gg_nn hS hM hd4 hI hN j) (hN.2.2.1 j hj ht hcl) (aS_cl hS hM hd4 hI hN hcl) (hN.2.2.2.2.2.2.2.2 j hj)
        have f2 := mul_le2 (hg1 j hj) f (ab_nn _) (Rat.le_trans (ab_nn _) f)
        rw [Rat.one_mul] at f2
        refine Rat.le_trans f2 ?_
        clear hS hM hd4 hI hN sr sG
        grind
      · rw [hg.2 j hj hcl, ab_of Rat.le_refl, Rat.zero_mul]
        exact n4
    · rw [sc_f0 hS hM hd4 hI hN ht, ab_of Rat.le_refl, Rat.mul_zero]
      exact n4
  have t1 : ab (dt g (fun j => rp j - (r j - al * aS e dg s j))) ≤ sm (fun j => u1 * (6001 / 1000 * (al * ab (s j)) + 601 / 100 * (al * Gg e s j) + 1001 / 1000 * ab (r j)) + tz) 36 := Rat.le_trans (dt_ab _ _) (sm_le 36 kj)
  have t2 : sm (fun j => u1 * (6001 / 1000 * (al * ab (s j)) + 601 / 100 * (al * Gg e s j) + 1001 / 1000 * ab (r j)) + tz) 36 = u1 * (6001 / 1000 * sm (fun j => al * ab (s j)) 36 + 601 / 100 * (al * sm (fun j => Gg e s j) 36) + 1001 / 1000 * sm (fun j => ab (r j)) 36) + 36 * tz := by
    rw [sm_add (fun j => u1 * (6001 / 1000 * (al * ab (s j)) + 601 / 100 * (al * Gg e s j) + 1001 / 1000 * ab (r j))) (fun _ => tz), sm_const, sm_mul u1, sm_add (fun j => 6001 / 1000 * (al * ab (s j)) + 601 / 100 * (al * Gg e s j)) (fun j => 1001 / 1000 * ab (r j)), sm_add (fun j => 6001 / 1000 * (al * ab (s j))) (fun j => 601 / 100 * (al * Gg e s j)), sm_mul (6001 / 1000), sm_mul (1001 / 1000), sm_mul (601 / 100) (fun j => al * Gg e s j), sm_mul al (fun j => Gg e s j)]
    rfl
  have ss : sm (fun j => al * ab (s j)) 36 ≤ 24 * (49 / 20 * (al * (al * qA e dg s) / la + la) + al * (c * W)) := by
    have hX : 0 ≤ al * (al * qA e dg s) / la := by
      rw [Rat.div_def]
      exact Rat.mul_nonneg hA (Rat.le_of_lt (Rat.inv_pos.mpr hla))
    have hY := Rat.mul_nonneg (Rat.le_of_lt a1) hcW
    refine sm_T hS hM (by clear hS hM hd4 hI hN sr sG kj t1 t2; grind) (fun j hj ht => ?_) (fun j _ ht => by
      rw [hs0 j ht, ab_of Rat.le_refl, Rat.mul_zero]
      exact Rat.le_refl)
    have p1 := poin hS (tld_ps hS hM hs0).1 hj ht
    rw [tld_q hS hM] at p1
    have p2 : (al * tld e dg om T s j) * (al * tld e dg om T s j) ≤ (49 / 10) * (49 / 10) * (al * (al * qA e dg s)) := by
      have := Rat.mul_le_mul_of_nonneg_left p1 (sq_nn al)
      clear hS hM hd4 hI hN sr sG kj t1 t2
      grind
    have p3 := amg (by decide +kernel) hA hla p2
    rw [ab_mul, ab_of (Rat.le_of_lt a1)] at p3
    have p4 := Rat.mul_le_mul_of_nonneg_left (sgv_le hS hcW hI.1.2.2.2.2.2.1 hj) (Rat.le_of_lt a1)
    have e1 : s j = tld e dg om T s j + sgv e dg om T s j := by unfold tld; grind
    have p5 := ab_add (tld e dg om T s j) (sgv e dg om T s j)
    rw [← e1] at p5
    have p6 := Rat.mul_le_mul_of_nonneg_left p5 (Rat.le_of_lt a1)
    clear hS hM hd4 hI hN sr sG kj t1 t2
    grind
  have gg : al * sm (fun j => Gg e s j) 36 ≤ 139 / 20 * (al * (al * qA e dg s) / la + la) := by
    have p2 : (al * sm (fun j => Gg e s j) 36) * (al * sm (fun j => Gg e s j) 36) ≤ (139 / 10) * (139 / 10) * (al * (al * qA e dg s)) := by
      have := Rat.mul_le_mul_of_nonneg_left sG (sq_nn al)
      clear hS hM hd4 hI hN sr sG kj t1 t2
      grind
    have p3 := amg (by decide +kernel) hA hla p2
    have p4 := ab_self (al * sm (fun j => Gg e s j) 36)
    clear hS hM hd4 hI hN sr sG kj t1 t2
    grind
  have e3 := rp_dt hS hM hd4 hI hN g
  rw [nv_dt hS hg s, Rat.mul_zero] at e3
  have h1 := hI.1.2.1 g hg hg1
  have w1 := ab_add (dt g r) (dt g (fun j => rp j - (r j - al * aS e dg s j)))
  have e4 : dt g rp = dt g r + dt g (fun j => rp j - (r j - al * aS e dg s j)) := by
    rw [e3]
    clear hS hM hd4 hI hN sr sG kj t1 t2
    grind
  rw [e4]
  rw [t2] at t1
  have hu2 := Rat.mul_le_mul_of_nonneg_left (c := u1) (show 6001 / 1000 * sm (fun j => al * ab (s j)) 36 + 601 / 100 * (al * sm (fun j => Gg e s j) 36) + 1001 / 1000 * sm (fun j => ab (r j)) 36 ≤ 395 * (al * (al * qA e dg s) / la + la) + 145 * (al * c * W) + 1001 / 1000 * (139 / 20 * (B / ta + ta) + H) by
    have hY := Rat.mul_nonneg (Rat.le_of_lt a1) hcW
    have hX : 0 ≤ al * (al * qA e dg s) / la := by
      rw [Rat.div_def]
      exact Rat.mul_nonneg hA (Rat.le_of_lt (Rat.inv_pos.mpr hla))
    have e5 : al * c * W = al * (c * W) := by rw [Rat.mul_assoc]
    rw [e5]
    generalize al * (al * qA e dg s) / la = Z1 at *
    generalize sm (fun j => al * ab (s j)) 36 = Z2 at *
    generalize al * sm (fun j => Gg e s j) 36 = Z3 at *
    generalize sm (fun j => ab (r j)) 36 = Z4 at *
    generalize al * (c * W) = Z5 at *
    generalize B / ta = Z6 at *
    clear hS hM hd4 hI hN sG kj t1 t2 e3 e4 w1 hA
    grind) hu
  clear hS hM hd4 hI hN sr sG kj t2 ss gg e3 e4
  grind
