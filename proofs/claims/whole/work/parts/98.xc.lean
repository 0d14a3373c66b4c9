/-! round-1 -/
/-! a round: p and r are moved along s -/
def u1 : Rat := uu * (1 + 1 / 2 ^ 40)
def ty : Rat := 1 / 2 ^ 250
def Sg (e : Nat → Nat → Rat) (s : Nat → Rat) (j : Nat) : Rat := ab (s j) + sm (fun i => e j i * ab (s i)) 36
def Gg (e : Nat → Nat → Rat) (s : Nat → Rat) (j : Nat) : Rat := sm (fun i => e j i * ab (s j - s i)) 36
/-- what is known when a round begins -/
abbrev St (e : Nat → Nat → Rat) (dg om : Nat → Rat) (T : Nat → Prop) (r s : Nat → Rat) (c B H W ga F : Rat) : Prop := (EB e dg (PS e dg om T) r B ∧ HB e dg r H ∧ (∀ c, ¬ T c → s c = 0) ∧ 0 < c ∧ 0 ≤ W ∧ (∀ a, a < 36 → T a → clo e dg a → ab (phi e om s a) ≤ c * W) ∧ ab (dt s r - c) ≤ ga * c ∧ H * W ≤ F ∧ ga + F ≤ 1 / 2) ∧ (∀ c, ¬ T c → r c = 0) ∧ B * (W * W) ≤ 65530 ∧ (∀ j, j < 36 → s j * s j * B ≤ c * c * (25200 * 25200)) ∧ H * H ≤ 4 * B ∧ 0 ≤ H ∧ 1 / 2 ^ 66 ≤ c ∧ c ≤ 2 ^ 40 ∧ 1 / 2 ^ 70 ≤ B ∧ B ≤ 2 ^ 14 ∧ 0 ≤ ga ∧ 0 ≤ F
/-- how the round's numbers are rounded -/
abbrev Rn (e : Nat → Nat → Rat) (dg : Nat → Rat) (T : Nat → Prop) (r s : Nat → Rat) (c : Rat) (q : Nat → Rat) (d al : Rat) (rp : Nat → Rat) : Prop := (∀ j, ¬ T j → q j = 0) ∧ (∀ j, j < 36 → ab (q j - aS e dg s j) ≤ 24 * uu * Sg e s j + ty) ∧ (∀ j, j < 36 → T j → dg j = nn e j → ab (q j - aS e dg s j) ≤ u1 * (6 * ab (s j) + 4 * Gg e s j) + ty) ∧ ab (d - dt q s) ≤ 40 * uu * sm (fun j => ab (q j) * ab (s j)) 36 + ty ∧ 0 < d ∧ c / 1024 < d ∧ ab (al - c / d) ≤ uu * (c / d) + ty ∧ (∀ j, ¬ T j → rp j = 0) ∧ ∀ j, j < 36 → ab (rp j - (r j - al * q j)) ≤ u1 * ab (al * q j) + u1 * ab (rp j) + ty
theorem uu_0 : 0 < uu := by decide +kernel
theorem ty_0 : 0 < ty := by decide +kernel
theorem sc_q {e : Nat → Nat → Rat} {dg om : Nat → Rat} {T : Nat → Prop} (hS : Sys e dg om T) {D er : Nat → Rat} {rk : Nat → Nat} (hM : Mak e dg om T D er rk) (hd4 : ∀ c, c < 36 → dg c ≤ 4) {r s : Nat → Rat} {c B H W ga F : Rat} (hI : St e dg om T r s c B H W ga F) : 0 < qA e dg s ∧ c * c ≤ 4 * (qA e dg s * B) ∧ 1 / 2 ^ 150 ≤ qA e dg s := by
  obtain ⟨⟨h1, h2, h3, h4, h5, h6, h7, h8, h9⟩, -, -, -, -, -, k1, k2, k3, k4, -, -⟩ := hI
  have a1 := sd_2 hS hM h1 h2 h3 h4 h5 h6 h7 h8 h9
  have a2 := sd_q hS hM h1 h2 h3 h4 h5 h6 h7 h8 h9
  refine ⟨a2, a1, ?_⟩
  have a3 := mul_le2 k1 k1 (by decide +kernel) (by grind)
  have a4 := Rat.mul_le_mul_of_nonneg_left k4 (Rat.le_of_lt a2)
  grind
theorem sc_s {e : Nat → Nat → Rat} {dg om : Nat → Rat} {T : Nat → Prop} (hS : Sys e dg om T) {D er : Nat → Rat} {rk : Nat → Nat} (hM : Mak e dg om T D er rk) (hd4 : ∀ c, c < 36 → dg c ≤ 4) {r s : Nat → Rat} {c B H W ga F : Rat} (hI : St e dg om T r s c B H W ga F) {j : Nat} (hj : j < 36) : s j * s j ≤ 524288 * qA e dg s := by
  obtain ⟨⟨h1, h2, h3, h4, h5, h6, h7, h8, h9⟩, -, hY, -⟩ := hI
  have := sd_3 hS hM h1 h2 h3 h4 h5 h6 h7 h8 h9 hY hj
  grind
theorem sc_1 {e : Nat → Nat → Rat} {dg om : Nat → Rat} {T : Nat → Prop} (hS : Sys e dg om T) {D er : Nat → Rat} {rk : Nat → Nat} (hM : Mak e dg om T D er rk) (hd4 : ∀ c, c < 36 → dg c ≤ 4) {r s : Nat → Rat} {c B H W ga F : Rat} (hI : St e dg om T r s c B H W ga F) {i j : Nat} (hi : i < 36) (hj : j < 36) : ab (s i) * ab (s j) ≤ 524288 * qA e dg s := by
  have h1 := sc_s hS hM hd4 hI hi
  have h2 := sc_s hS hM hd4 hI hj
  have h3 := (sc_q hS hM hd4 hI).1
  refine le_sq (by grind) ?_
  have e1 : ab (s i) * ab (s j) * (ab (s i) * ab (s j)) = (s i * s i) * (s j * s j) := by
    have a1 := ab_sq (s i)
    have a2 := ab_sq (s j)
    rw [← a1, ← a2]
    grind
  rw [e1]
  exact mul_le2 h1 h2 (sq_nn _) (by grind)
theorem sc_2 {e : Nat → Nat → Rat} {dg om : Nat → Rat} {T : Nat → Prop} (hS : Sys e dg om T) {D er : Nat → Rat} {rk : Nat → Nat} (hM : Mak e dg om T D er rk) (hd4 : ∀ c, c < 36 → dg c ≤ 4) {r s : Nat → Rat} {c B H W ga F : Rat} (hI : St e dg om T r s c B H W ga F) {i j : Nat} (hi : i < 36) (hj : j < 36) : ab (s i) * Sg e s j ≤ 5 * (524288 * qA e dg s) := by
  have h3 := (sc_q hS hM hd4 hI).1
  unfold Sg
  have h1 := sc_1 hS hM hd4 hI hi hj
  have h2 : ab (s i) * sm (fun k => e j k * ab (s k)) 36 ≤ 4 * (524288 * qA e dg s) := by
    rw [← sm_mul]
    have a1 : sm (fun k => ab (s i) * (e j k * ab (s k))) 36 ≤ sm (fun k => 524288 * qA e dg s * e j k) 36 := sm_le 36 (fun k hk => by
      have := Rat.mul_le_mul_of_nonneg_left (sc_1 hS hM hd4 hI hi hk) (hS.e0 j k)
      grind)
    rw [sm_mul (524288 * qA e dg s) (fun k => e j k) 36] at a1
    have a2 : sm (fun k => e j k) 36 ≤ 4 := by
      have := hS.dn j hj
      have := hd4 j hj
      have e1 : sm (fun k => e j k) 36 = nn e j := rfl
      grind
    have a3 := Rat.mul_le_mul_of_nonneg_left a2 (show 0 ≤ 524288 * qA e dg s by grind)
    clear hS hM hd4 hI
    grind
  clear hS hM hd4 hI
  grind
theorem Sg_nn {e : Nat → Nat → Rat} {dg om : Nat → Rat} {T : Nat → Prop} (hS : Sys e dg om T) {D er : Nat → Rat} {rk : Nat → Nat} (hM : Mak e dg om T D er rk) (hd4 : ∀ c, c < 36 → dg c ≤ 4) {r s : Nat → Rat} {c B H W ga F : Rat} (hI : St e dg om T r s c B H W ga F) (j : Nat) : 0 ≤ Sg e s j := by
  unfold Sg
  have h1 := ab_nn (s j)
  have h2 : 0 ≤ sm (fun i => e j i * ab (s i)) 36 := sm_nn 36 (fun i _ => Rat.mul_nonneg (hS.e0 j i) (ab_nn _))
  grind
theorem Sg_le {e : Nat → Nat → Rat} {dg om : Nat → Rat} {T : Nat → Prop} (hS : Sys e dg om T) {D er : Nat → Rat} {rk : Nat → Nat} (hM : Mak e dg om T D er rk) (hd4 : ∀ c, c < 36 → dg c ≤ 4) {r s : Nat → Rat} {c B H W ga F : Rat} (hI : St e dg om T r s c B H W ga F) (j : Nat) (hj : j < 36) : ab (s j) ≤ Sg e s j := by
  unfold Sg
  have h2 : 0 ≤ sm (fun i => e j i * ab (s i)) 36 := sm_nn 36 (fun i _ => Rat.mul_nonneg (hS.e0 j i) (ab_nn _))
  grind
theorem Sg_aS {e : Nat → Nat → Rat} {dg om : Nat → Rat} {T : Nat → Prop} (hS : Sys e dg om T) {D er : Nat → Rat} {rk : Nat → Nat} (hM : Mak e dg om T D er rk) (hd4 : ∀ c, c < 36 → dg c ≤ 4) {r s : Nat → Rat} {c B H W ga F : Rat} (hI : St e dg om T r s c B H W ga F) (j : Nat) (hj : j < 36) : ab (aS e dg s j) ≤ 4 * Sg e s j := by
  unfold Sg aS
  have h0 : 0 ≤ dg j := by
    have := hS.dn j hj
    have h3 : 0 ≤ nn e j := sm_nn 36 (fun i _ => hS.e0 j i)
    grind
  have h1 := ab_sub (dg j * s j) (sm (fun i => e j i * s i) 36)
  have h2 : ab (sm (fun i => e j i * s i) 36) ≤ sm (fun i => e j i * ab (s i)) 36 := Rat.le_trans (sm_ab 36) (sm_le 36 (fun i _ => by rw [ab_mul, ab_of (hS.e0 j i)]; exact Rat.le_refl))
  have h3 : ab (dg j * s j) ≤ 4 * ab (s j) := by
    rw [ab_mul, ab_of h0]
    exact Rat.mul_le_mul_of_nonneg_right (hd4 j hj) (ab_nn _)
  have h4 : 0 ≤ sm (fun i => e j i * ab (s i)) 36 := sm_nn 36 (fun i _ => Rat.mul_nonneg (hS.e0 j i) (ab_nn _))
  grind
theorem sc_dd {e : Nat → Nat → Rat} {dg om : Nat → Rat} {T : Nat → Prop} (hS : Sys e dg om T) {D er : Nat → Rat} {rk : Nat → Nat} (hM : Mak e dg om T D er rk) (hd4 : ∀ c, c < 36 → dg c ≤ 4) {r s : Nat → Rat} {c B H W ga F : Rat} (hI : St e dg om T r s c B H W ga F) {q rp : Nat → Rat} {d al : Rat} (hN : Rn e dg T r s c q d al rp) : ab (d - qA e dg s) ≤ 1 / 2 ^ 19 * qA e dg s := by
  obtain ⟨hQ, -, hQl⟩ := sc_q hS hM hd4 hI
  obtain ⟨n0, n1, -, n3, -⟩ := hN
  have hs0 := hI.1.2.2.1
  have hu := uu_0
  have term : ∀ j, j < 36 → ab (q j - aS e dg s j) * ab (s j) ≤ 24 * uu * (5 * (524288 * qA e dg s)) + ty * (1 + 524288 * qA e dg s) := fun j hj => by
    have a1 := Rat.mul_le_mul_of_nonneg_right (n1 j hj) (ab_nn (s j))
    have a2 := Rat.mul_le_mul_of_nonneg_left (sc_2 hS hM hd4 hI hj hj) (show 0 ≤ 24 * uu by grind)
    have a3 : ab (s j) ≤ 1 + 524288 * qA e dg s := by
      have b1 := sc_s hS hM hd4 hI hj
      have b2 := sq_nn (ab (s j) - 1)
      have b3 := ab_sq (s j)
      have b4 := ab_nn (s j)
      grind
    have a4 := Rat.mul_le_mul_of_nonneg_left a3 (Rat.le_of_lt ty_0)
    grind
  have hX0 : 0 ≤ 24 * uu * (5 * (524288 * qA e dg s)) + ty * (1 + 524288 * qA e dg s) := by
    have := ab_nn (q 0 - aS e dg s 0)
    have h2 := Rat.mul_nonneg this (ab_nn (s 0))
    have := term 0 (by omega)
    grind
  have w1 : sm (fun j => ab (q j - aS e dg s j) * ab (s j)) 36 ≤ 24 * (24 * uu * (5 * (524288 * qA e dg s)) + ty * (1 + 524288 * qA e dg s)) := sm_T hS hM hX0 (fun j hj _ => term j hj) (fun j _ ht => by
    rw [hs0 j ht, ab_of (show (0 : Rat) ≤ 0 from Rat.le_refl)]
    grind)
  have w2 : ab (dt q s - qA e dg s) ≤ sm (fun j => ab (q j - aS e dg s j) * ab (s j)) 36 := by
    unfold qA
    rw [dt_comm q s]
    have : dt s q - dt s (aS e dg s) = sm (fun j => s j * (q j - aS e dg s j)) 36 := by
      unfold dt
      rw [← sm_sub]
      exact sm_congr 36 (fun j _ => by grind)
    rw [this]
    refine Rat.le_trans (sm_ab 36) (sm_le 36 (fun j _ => ?_))
    rw [ab_mul, Rat.mul_comm]
    exact Rat.le_refl
  have w3 : sm (fun j => ab (q j) * ab (s j)) 36 ≤ 24 * (4 * (5 * (524288 * qA e dg s)) + (24 * uu * (5 * (524288 * qA e dg s)) + ty * (1 + 524288 * qA e dg s))) := sm_T hS hM (by grind) (fun j hj _ => by
    have a1 := ab_add (q j - aS e dg s j) (aS e dg s j)
    rw [show q j - aS e dg s j + aS e dg s j = q j by grind] at a1
    have a2 := Sg_aS hS hM hd4 hI j hj
    have a3 := Rat.mul_le_mul_of_nonneg_right a1 (ab_nn (s j))
    have a4 := Rat.mul_le_mul_of_nonneg_right a2 (ab_nn (s j))
    have a5 := sc_2 hS hM hd4 hI hj hj
    have a6 := term j hj
    grind) (fun j _ ht => by
    rw [hs0 j ht, ab_of (show (0 : Rat) ≤ 0 from Rat.le_refl)]
    grind)
  have w4 := Rat.mul_le_mul_of_nonneg_left w3 (show 0 ≤ 40 * uu by grind)
  have w5 := ab_add (d - dt q s) (dt q s - qA e dg s)
  rw [show d - dt q s + (dt q s - qA e dg s) = d - qA e dg s by grind] at w5
  generalize sm (fun j => ab (q j - aS e dg s j) * ab (s j)) 36 = S1 at *
  generalize sm (fun j => ab (q j) * ab (s j)) 36 = S2 at *
  generalize qA e dg s = Q at *
  clear hS hM hd4 hI n0 n1 term hs0
  unfold uu ty at *
  grind
