/-! next -/
/-! the next direction -/
/-- how z, the next c and the next s are rounded -/
abbrev Zn (e : Nat → Nat → Rat) (T : Nat → Prop) (D : Nat → Rat) (rp z f : Nat → Rat) (R : Rat) (c2 : Rat) : Prop := (∀ j, ¬ T j → z j = 0) ∧ (∀ j, j < 36 → mM e D z j = rp j + f j) ∧ (∀ j, j < 36 → ab (f j) ≤ 1 / 2 ^ 30 * R) ∧ (∀ j, j < 36 → ab (rp j) ≤ R) ∧ (∃ j, j < 36 ∧ T j ∧ ab (rp j) = R) ∧ 1 / 2 ^ 30 ≤ R ∧ ab (c2 - dt z rp) ≤ 40 * uu * sm (fun j => ab (z j) * ab (rp j)) 36 + ty
abbrev Tn (T : Nat → Prop) (s z : Nat → Rat) (c c2 be : Rat) (sn : Nat → Rat) : Prop := (∀ j, ¬ T j → sn j = 0) ∧ ab (be - c2 / c) ≤ uu * (c2 / c) + ty ∧ ∀ j, j < 36 → ab (sn j - (z j + be * s j)) ≤ 3 * uu * (ab (be * s j) + ab (z j)) + ty
/-- the greatest of finitely many -/
theorem max_ex (P : Nat → Prop) (f : Nat → Rat) : ∀ n, ∃ m, 0 ≤ m ∧ (∀ a, a < n → P a → f a ≤ m) ∧ (m = 0 ∨ ∃ a, a < n ∧ P a ∧ f a = m)
  | 0 => ⟨0, Rat.le_refl, fun a ha => by omega, Or.inl rfl⟩
  | n + 1 => by
    obtain ⟨m, h0, h1, h2⟩ := max_ex P f n
    rcases Classical.em (P n ∧ m < f n) with ⟨hp, hm⟩ | hno
    · refine ⟨f n, Rat.le_trans h0 (Rat.le_of_lt hm), fun a ha hpa => ?_, Or.inr ⟨n, by omega, hp, rfl⟩⟩
      by_cases han : a = n
      · subst han; exact Rat.le_refl
      · exact Rat.le_trans (h1 a (by omega) hpa) (Rat.le_of_lt hm)
    · refine ⟨m, h0, fun a ha hpa => ?_, ?_⟩
      · by_cases han : a = n
        · subst han
          exact Rat.not_lt.mp (fun z => hno ⟨hpa, z⟩)
        · exact h1 a (by omega) hpa
      · rcases h2 with h2 | ⟨a, ha, h3⟩
        · exact Or.inl h2
        · exact Or.inr ⟨a, by omega, h3⟩
theorem nx_a {e : Nat → Nat → Rat} {dg om : Nat → Rat} {T : Nat → Prop} (hS : Sys e dg om T) {D er : Nat → Rat} {rk : Nat → Nat} (hM : Mak e dg om T D er rk) (hd4 : ∀ c, c < 36 → dg c ≤ 4) {rp z f : Nat → Rat} {R c2 : Rat} (hr : ∀ j, ¬ T j → rp j = 0) (hZ : Zn e T D rp z f R c2) : R * R ≤ 61 / 10 * qM e D z := mz_a hS hM hr hZ.1 hZ.2.1 hZ.2.2.1 hZ.2.2.2.1 hZ.2.2.2.2.1
theorem nx_z {e : Nat → Nat → Rat} {dg om : Nat → Rat} {T : Nat → Prop} (hS : Sys e dg om T) {D er : Nat → Rat} {rk : Nat → Nat} (hM : Mak e dg om T D er rk) (hd4 : ∀ c, c < 36 → dg c ≤ 4) {rp z f : Nat → Rat} {R c2 : Rat} (hr : ∀ j, ¬ T j → rp j = 0) (hZ : Zn e T D rp z f R c2) {j : Nat} (hj : j < 36) : z j * z j ≤ 144 * qM e D z := mz_c hS hM hr hZ.1 hZ.2.1 hZ.2.2.1 hZ.2.2.2.1 hZ.2.2.2.2.1 hj
theorem nx_l {e : Nat → Nat → Rat} {dg om : Nat → Rat} {T : Nat → Prop} (hS : Sys e dg om T) {D er : Nat → Rat} {rk : Nat → Nat} (hM : Mak e dg om T D er rk) (hd4 : ∀ c, c < 36 → dg c ≤ 4) {rp z f : Nat → Rat} {R c2 : Rat} (hr : ∀ j, ¬ T j → rp j = 0) (hZ : Zn e T D rp z f R c2) : 1 / 2 ^ 63 ≤ qM e D z := by
  have h1 := nx_a hS hM hd4 hr hZ
  have h2 := hZ.2.2.2.2.2.1
  have h3 := mul_le2 h2 h2 (by decide +kernel) (by clear hS hM hd4 hr hZ; grind)
  clear hS hM hd4 hr hZ
  grind
theorem nx_zr {e : Nat → Nat → Rat} {dg om : Nat → Rat} {T : Nat → Prop} (hS : Sys e dg om T) {D er : Nat → Rat} {rk : Nat → Nat} (hM : Mak e dg om T D er rk) (hd4 : ∀ c, c < 36 → dg c ≤ 4) {rp z f : Nat → Rat} {R c2 : Rat} (hr : ∀ j, ¬ T j → rp j = 0) (hZ : Zn e T D rp z f R c2) {j : Nat} (hj : j < 36) : ab (z j) * ab (rp j) ≤ 30 * qM e D z := by
  have h1 := nx_a hS hM hd4 hr hZ
  have h2 := nx_z hS hM hd4 hr hZ hj
  have h3 := sq_le2 (hZ.2.2.2.1 j hj)
  have h0 := qM_nn hS hM z
  refine le_sq (by clear hS hM hd4 hr hZ; grind) ?_
  have e1 : ab (z j) * ab (rp j) * (ab (z j) * ab (rp j)) = (z j * z j) * (rp j * rp j) := by
    have c1 := ab_sq (z j)
    have c2 := ab_sq (rp j)
    rw [← c1, ← c2]
    clear hS hM hd4 hr hZ
    grind
  rw [e1]
  have h4 := mul_le2 h2 (Rat.le_trans h3 h1) (sq_nn _) (by clear hS hM hd4 hr hZ; grind)
  have h5 := sq_nn (qM e D z)
  clear hS hM hd4 hr hZ
  grind
theorem nx_d {e : Nat → Nat → Rat} {dg om : Nat → Rat} {T : Nat → Prop} (hS : Sys e dg om T) {D er : Nat → Rat} {rk : Nat → Nat} (hM : Mak e dg om T D er rk) (hd4 : ∀ c, c < 36 → dg c ≤ 4) {rp z f : Nat → Rat} {R c2 : Rat} (hr : ∀ j, ¬ T j → rp j = 0) (hZ : Zn e T D rp z f R c2) : ab (c2 - dt z rp) ≤ 1 / 2 ^ 35 * qM e D z := by
  have h0 := qM_nn hS hM z
  have hl := nx_l hS hM hd4 hr hZ
  have h1 : sm (fun j => ab (z j) * ab (rp j)) 36 ≤ 24 * (30 * qM e D z) := sm_T hS hM (by clear hS hM hd4 hr hZ; grind) (fun j hj _ => nx_zr hS hM hd4 hr hZ hj) (fun j _ ht => by
    rw [hr j ht, ab_of (show (0 : Rat) ≤ 0 from Rat.le_refl), Rat.mul_zero]
    exact Rat.le_refl)
  have h2 := hZ.2.2.2.2.2.2
  have h3 := Rat.mul_le_mul_of_nonneg_left h1 (show 0 ≤ 40 * uu by decide +kernel)
  generalize sm (fun j => ab (z j) * ab (rp j)) 36 = S at *
  clear hS hM hd4 hr hZ
  unfold uu ty at *
  grind
theorem nx_c {e : Nat → Nat → Rat} {dg om : Nat → Rat} {T : Nat → Prop} (hS : Sys e dg om T) {D er : Nat → Rat} {rk : Nat → Nat} (hM : Mak e dg om T D er rk) (hd4 : ∀ c, c < 36 → dg c ≤ 4) {rp z f : Nat → Rat} {R c2 : Rat} (hr : ∀ j, ¬ T j → rp j = 0) (hZ : Zn e T D rp z f R c2) : ab (c2 - qM e D z) ≤ 1 / 2 ^ 19 * qM e D z := by
  have h1 := nx_d hS hM hd4 hr hZ
  have h2 := mz_d hS hM hr hZ.1 hZ.2.1 hZ.2.2.1 hZ.2.2.2.1 hZ.2.2.2.2.1
  have h3 := ab_add (c2 - dt z rp) (dt z rp - qM e D z)
  rw [show c2 - dt z rp + (dt z rp - qM e D z) = c2 - qM e D z by grind] at h3
  have h0 := qM_nn hS hM z
  clear hS hM hd4 hr hZ
  grind
theorem nx_u {e : Nat → Nat → Rat} {dg om : Nat → Rat} {T : Nat → Prop} (hS : Sys e dg om T) {D er : Nat → Rat} {rk : Nat → Nat} (hM : Mak e dg om T D er rk) (hd4 : ∀ c, c < 36 → dg c ≤ 4) {rp z f : Nat → Rat} {R c2 : Rat} (hr : ∀ j, ¬ T j → rp j = 0) (hZ : Zn e T D rp z f R c2) : qM e D z ≤ 84000 * (R * R) := by
  have h0 := qM_nn hS hM z
  have h2 := mz_d hS hM hr hZ.1 hZ.2.1 hZ.2.2.1 hZ.2.2.2.1 hZ.2.2.2.2.1
  have hl := nx_l hS hM hd4 hr hZ
  have h1 : dt z rp * dt z rp ≤ 576 * (144 * qM e D z * (R * R)) := sm_sqT hS hM (Rat.mul_nonneg (by clear hS hM hd4 hr hZ; grind) (sq_nn R)) (fun j hj _ => by
    have a1 := nx_z hS hM hd4 hr hZ hj
    have a2 := sq_le2 (hZ.2.2.2.1 j hj)
    have a3 := mul_le2 a1 a2 (sq_nn _) (sq_nn R)
    clear hS hM hd4 hr hZ
    grind) (fun j _ ht => by
    rw [hr j ht]
    exact Rat.mul_zero _)
  have h3 : (1 - 1 / 2 ^ 20) * qM e D z ≤ dt z rp := by
    rw [ab_le] at h2
    clear hS hM hd4 hr hZ
    grind
  have h4 := mul_le2 h3 h3 (Rat.mul_nonneg (by decide +kernel) h0) (Rat.le_trans (Rat.mul_nonneg (by decide +kernel) h0) h3)
  refine Rat.le_of_mul_le_mul_left (c := qM e D z) ?_ (by clear hS hM hd4 hr hZ; grind)
  have h5 := Rat.mul_nonneg h0 (sq_nn R)
  have h6 := sq_nn (qM e D z)
  clear hS hM hd4 hr hZ
  grind
theorem nx_eb {e : Nat → Nat → Rat} {dg om : Nat → Rat} {T : Nat → Prop} (hS : Sys e dg om T) {D er : Nat → Rat} {rk : Nat → Nat} (hM : Mak e dg om T D er rk) (hd4 : ∀ c, c < 36 → dg c ≤ 4) {rp z f : Nat → Rat} {R c2 : Rat} (hr : ∀ j, ¬ T j → rp j = 0) (hZ : Zn e T D rp z f R c2) : EB e dg (PS e dg om T) rp (2420 * qM e D z) := mz_b hS hM hr hZ.1 hZ.2.1 hZ.2.2.1 hZ.2.2.2.1 hZ.2.2.2.2.1
theorem nx_phi {e : Nat → Nat → Rat} {dg om : Nat → Rat} {T : Nat → Prop} (hS : Sys e dg om T) {D er : Nat → Rat} {rk : Nat → Nat} (hM : Mak e dg om T D er rk) (hd4 : ∀ c, c < 36 → dg c ≤ 4) {rp z f : Nat → Rat} {R c2 : Rat} (hr : ∀ j, ¬ T j → rp j = 0) (hZ : Zn e T D rp z f R c2) {H1 : Rat} (hH : HB e dg rp H1) (hH0 : 0 ≤ H1) : ∃ ps, 0 ≤ ps ∧ ps * ps ≤ 1 / 2 ^ 46 * qM e D z ∧ ∀ a, a < 36 → T a → clo e dg a → ab (phi e om z a) ≤ H1 + ps := by
  obtain ⟨m, h0, h1, h2⟩ := max_ex (fun a => T a ∧ clo e dg a) (fun a => ab (phi e om z a) - H1) 36
  refine ⟨m, h0, ?_, fun a ha ht hc => ?_⟩
  · rcases h2 with h2 | ⟨a, ha, ⟨ht, hc⟩, h3⟩
    · rw [h2]
      have := qM_nn hS hM z
      clear hS hM hd4 hr hZ
      grind
    · obtain ⟨th, t1, t2⟩ := mz_e hS hM hr hZ.1 hZ.2.1 hZ.2.2.1 hZ.2.2.2.1 hZ.2.2.2.2.1 hH ha ht hc
      have h4 : m ≤ ab th := by
        rw [← h3]
        clear hS hM hd4 hr hZ
        grind
      have h5 := mul_le2 h4 h4 h0 (ab_nn th)
      rw [ab_sq] at h5
      exact Rat.le_trans h5 t2
  · have := h1 a ha ⟨ht, hc⟩
    clear hS hM hd4 hr hZ
    grind
theorem om_5 {e : Nat → Nat → Rat} {dg om : Nat → Rat} {T : Nat → Prop} (hS : Sys e dg om T) {D er : Nat → Rat} {rk : Nat → Nat} (hM : Mak e dg om T D er rk) (hd4 : ∀ c, c < 36 → dg c ≤ 4) {rp z f : Nat → Rat} {R c2 : Rat} (hr : ∀ j, ¬ T j → rp j = 0) (hZ : Zn e T D rp z f R c2) {j : Nat} (hj : j < 36) (ht : T j) : om j ≤ 5 := by
  obtain ⟨d1, d2, d3, d4, d5, d6⟩ := hM.2.1 j hj ht
  have h1 : sm (fun p => uE e p j * (wD D p * ru e p)) 36 ≤ lb e j := sm_le 36 (fun p hp => by
    rcases uE_01 hS.2.1 p j with h | ⟨h1, h2, h3⟩
    · rw [h, Rat.zero_mul]; exact Rat.le_refl
    · have ht2 := (hS.2.2.1 p j h3).1
      have k1 := (hM.2.1 p hp ht2).2.1
      have k2 := Rat.mul_le_mul_of_nonneg_left k1 (wD_nn hS hM p)
      rw [wD_D hS hM hp ht2] at k2
      rw [h1]
      clear hS hM hd4 hr hZ
      grind)
  have h2 := nn_rl hS hM j
  have h3 := hS.dn j hj
  have h4 : 0 ≤ ru e j := sm_nn 36 (fun i _ => uE_nn hS.e0 j i)
  rw [ab_le] at d6
  clear hS hM hd4 hr hZ
  grind
