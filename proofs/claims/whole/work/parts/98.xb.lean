/-! direction -/
/-! the direction s against the energy of r -/
/-- a vector without its null part -/
noncomputable def tld (e : Nat → Nat → Rat) (dg om : Nat → Rat) (T : Nat → Prop) (s : Nat → Rat) (c : Nat) : Rat := s c + (-1) * sgv e dg om T s c
theorem eb_congr {e : Nat → Nat → Rat} {dg : Nat → Rat} {P : (Nat → Rat) → Prop} {r r' : Nat → Rat} {B : Rat} (h : EB e dg P r B) (hr : ∀ c, c < 36 → r' c = r c) : EB e dg P r' B := fun x hx => by
  have h1 := h x hx
  rw [dt_congr (x' := x) (y' := r) (fun c _ => rfl) hr]
  exact h1
theorem tld_ps {e : Nat → Nat → Rat} {dg om : Nat → Rat} {T : Nat → Prop} (hS : Sys e dg om T) {D er : Nat → Rat} {rk : Nat → Nat} (hM : Mak e dg om T D er rk) {s : Nat → Rat} (hs : ∀ c, ¬ T c → s c = 0) : PS e dg om T (tld e dg om T s) := by
  refine ⟨sgv_pp hS s, fun c hc => ?_⟩
  unfold tld sgv
  rw [hs c hc, ind_f (fun z => hc z.1)]
  grind
theorem tld_q {e : Nat → Nat → Rat} {dg om : Nat → Rat} {T : Nat → Prop} (hS : Sys e dg om T) {D er : Nat → Rat} {rk : Nat → Nat} (hM : Mak e dg om T D er rk) (s : Nat → Rat) : qA e dg (tld e dg om T s) = qA e dg s := nv_qA hS (sgv_nv hS s) s (-1)
theorem tld_a {e : Nat → Nat → Rat} {dg om : Nat → Rat} {T : Nat → Prop} (hS : Sys e dg om T) {D er : Nat → Rat} {rk : Nat → Nat} (hM : Mak e dg om T D er rk) (s : Nat → Rat) {c : Nat} (hc : c < 36) : aS e dg (tld e dg om T s) c = aS e dg s c := nv_aS2 hS (sgv_nv hS s) s (-1) hc
theorem tld_d {e : Nat → Nat → Rat} {dg om : Nat → Rat} {T : Nat → Prop} (hS : Sys e dg om T) {D er : Nat → Rat} {rk : Nat → Nat} (hM : Mak e dg om T D er rk) (s r : Nat → Rat) : dt (tld e dg om T s) r = dt s r + (-1) * dt (sgv e dg om T s) r := dt_lin s (sgv e dg om T s) r (-1)
/-- what a bounded vector sees of r -/
theorem see {e : Nat → Nat → Rat} {dg om : Nat → Rat} {T : Nat → Prop} (hS : Sys e dg om T) {D er : Nat → Rat} {rk : Nat → Nat} (hM : Mak e dg om T D er rk) {r g : Nat → Rat} {B H : Rat} (hE : EB e dg (PS e dg om T) r B) (hH : HB e dg r H) (hg0 : ∀ c, ¬ T c → g c = 0) (hg : ∀ c, c < 36 → ab (g c) ≤ 1) : ∃ y h, dt g r = y + h ∧ y * y ≤ qA e dg g * B ∧ ab h ≤ H := by
  refine ⟨dt (tld e dg om T g) r, dt (sgv e dg om T g) r, ?_, ?_, ?_⟩
  · rw [tld_d hS hM]
    grind
  · have := eb_cs (PS_lsp hS hM) (tld_ps hS hM hg0) (hS.qnn _) hE
    rw [tld_q hS hM] at this
    exact this
  · have h1 := hb_scale hS hH (sgv_nv hS g) (b := 1) (by decide) (fun c hc => by
      unfold sgv
      rcases Classical.em (T c ∧ clo e dg c) with hk | hk
      · rw [ind_t hk]
        have hm := hS.2.2.2.2.2.1 c hc hk.1 hk.2
        have hp : ab (phi e om g c) ≤ mm e om c := by
          unfold mm phi
          refine Rat.le_trans (sm_ab 36) (sm_le 36 (fun j hj => ?_))
          rw [ab_mul, ab_mul, ab_of (ind_nn _), ab_of (hS.2.2.2.2.1 j hj)]
          refine Rat.mul_le_mul_of_nonneg_left ?_ (ind_nn _)
          exact Rat.mul_le_mul_of_nonneg_left (hg j hj) (hS.2.2.2.2.1 j hj)
        rw [ab_le] at hp ⊢
        generalize phi e om g c = p at *
        generalize mm e om c = m at *
        have e1 : 1 * (p / m) * m = p := by grind
        constructor
        · refine Rat.le_of_mul_le_mul_right (c := m) ?_ (by grind)
          grind
        · refine Rat.le_of_mul_le_mul_right (c := m) ?_ (by grind)
          grind
      · rw [ind_f hk]
        rw [ab_le]
        constructor <;> grind)
    grind
/-- a place of r -/
theorem r_le {e : Nat → Nat → Rat} {dg om : Nat → Rat} {T : Nat → Prop} (hS : Sys e dg om T) {D er : Nat → Rat} {rk : Nat → Nat} (hM : Mak e dg om T D er rk) {r : Nat → Rat} {B H : Rat} (hE : EB e dg (PS e dg om T) r B) (hH : HB e dg r H) (hd4 : ∀ c, c < 36 → dg c ≤ 4) (hH0 : 0 ≤ H) {c : Nat} (hc : c < 36) (ht : T c) : r c * r c ≤ 8 * B + 2 * (H * H) := by
  have hB := eb_nn (PS_lsp hS hM) (y := fun _ => 0) ⟨fun a ha hta hcl => by unfold phi; exact sm_0 36 (fun j _ => by grind), fun c _ => rfl⟩ hE
  have hdel : ∀ f : Nat → Rat, ∀ n, c < n → sm (fun j => (if j = c then 1 else 0) * f j) n = f c := fun f n hn => by
    induction n with
    | zero => omega
    | succ n ih =>
      rw [sm]
      by_cases h : c = n
      · subst h
        rw [sm_0 c (fun j hj => by rw [if_neg (by omega)]; grind), if_pos rfl]
        grind
      · rw [ih (by omega), if_neg (by omega)]
        grind
  obtain ⟨y, h, h1, h2, h3⟩ := see hS hM (g := fun j => if j = c then 1 else 0) hE hH (fun j hj => by
    by_cases h : j = c
    · subst h; exact absurd ht hj
    · show (if j = c then (1 : Rat) else 0) = 0
      rw [if_neg h]) (fun j _ => by
    by_cases h : j = c
    · show ab (if j = c then (1 : Rat) else 0) ≤ 1
      rw [if_pos h]; decide +kernel
    · show ab (if j = c then (1 : Rat) else 0) ≤ 1
      rw [if_neg h]; decide +kernel)
  have e1 : dt (fun j => if j = c then 1 else 0) r = r c := hdel r 36 hc
  have e2 : qA e dg (fun j => if j = c then 1 else 0) ≤ 4 := by
    have : qA e dg (fun j => if j = c then 1 else 0) = aS e dg (fun j => if j = c then 1 else 0) c := hdel _ 36 hc
    rw [this]
    unfold aS
    show dg c * (if c = c then 1 else 0) - sm (fun j => e c j * if j = c then 1 else 0) 36 ≤ 4
    rw [if_pos rfl]
    have h5 : 0 ≤ sm (fun j => e c j * if j = c then 1 else 0) 36 := sm_nn 36 (fun j _ => Rat.mul_nonneg (hS.e0 c j) (by split <;> decide))
    have := hd4 c hc
    grind
  rw [e1] at h1
  have h4 := sq_le2 h3
  have h5 := Rat.mul_le_mul_of_nonneg_right e2 hB
  have h6 := two_ab y h
  rw [h1]
  grind
theorem sd_1 {e : Nat → Nat → Rat} {dg om : Nat → Rat} {T : Nat → Prop} (hS : Sys e dg om T) {D er : Nat → Rat} {rk : Nat → Nat} (hM : Mak e dg om T D er rk) {r s : Nat → Rat} {c B H W ga F : Rat} (hE : EB e dg (PS e dg om T) r B) (hH : HB e dg r H) (hs : ∀ c, ¬ T c → s c = 0) (hc : 0 < c) (hW : 0 ≤ W) (hphi : ∀ a, a < 36 → T a → clo e dg a → ab (phi e om s a) ≤ c * W) (hg : ab (dt s r - c) ≤ ga * c) (hF : H * W ≤ F) (hgF : ga + F ≤ 1 / 2) : c * (1 - ga - F) ≤ dt (tld e dg om T s) r := by
  have hcW := Rat.mul_nonneg (Rat.le_of_lt hc) hW
  have h1 := hb_scale hS hH (sgv_nv hS s) hcW (fun j hj => sgv_le hS hcW hphi hj)
  have h2 := Rat.mul_le_mul_of_nonneg_left hF (Rat.le_of_lt hc)
  rw [tld_d hS hM]
  rw [ab_le] at h1 hg
  grind
theorem sd_2 {e : Nat → Nat → Rat} {dg om : Nat → Rat} {T : Nat → Prop} (hS : Sys e dg om T) {D er : Nat → Rat} {rk : Nat → Nat} (hM : Mak e dg om T D er rk) {r s : Nat → Rat} {c B H W ga F : Rat} (hE : EB e dg (PS e dg om T) r B) (hH : HB e dg r H) (hs : ∀ c, ¬ T c → s c = 0) (hc : 0 < c) (hW : 0 ≤ W) (hphi : ∀ a, a < 36 → T a → clo e dg a → ab (phi e om s a) ≤ c * W) (hg : ab (dt s r - c) ≤ ga * c) (hF : H * W ≤ F) (hgF : ga + F ≤ 1 / 2) : c * c ≤ 4 * (qA e dg s * B) := by
  have h1 := sd_1 hS hM hE hH hs hc hW hphi hg hF hgF
  have h2 := eb_cs (PS_lsp hS hM) (tld_ps hS hM hs) (hS.qnn _) hE
  rw [tld_q hS hM] at h2
  have h3 : c * (1 / 2) ≤ c * (1 - ga - F) := Rat.mul_le_mul_of_nonneg_left (by grind) (Rat.le_of_lt hc)
  have h4 : c * (1 / 2) ≤ dt (tld e dg om T s) r := by grind
  have h5 := mul_le2 h4 h4 (by grind) (by grind)
  grind
theorem sd_q {e : Nat → Nat → Rat} {dg om : Nat → Rat} {T : Nat → Prop} (hS : Sys e dg om T) {D er : Nat → Rat} {rk : Nat → Nat} (hM : Mak e dg om T D er rk) {r s : Nat → Rat} {c B H W ga F : Rat} (hE : EB e dg (PS e dg om T) r B) (hH : HB e dg r H) (hs : ∀ c, ¬ T c → s c = 0) (hc : 0 < c) (hW : 0 ≤ W) (hphi : ∀ a, a < 36 → T a → clo e dg a → ab (phi e om s a) ≤ c * W) (hg : ab (dt s r - c) ≤ ga * c) (hF : H * W ≤ F) (hgF : ga + F ≤ 1 / 2) : 0 < qA e dg s := by
  have h1 := sd_2 hS hM hE hH hs hc hW hphi hg hF hgF
  have h2 := Rat.mul_pos hc hc
  rcases Rat.le_iff_lt_or_eq.mp (hS.qnn s) with h | h
  · exact h
  · rw [← h] at h1
    grind
theorem sd_3 {e : Nat → Nat → Rat} {dg om : Nat → Rat} {T : Nat → Prop} (hS : Sys e dg om T) {D er : Nat → Rat} {rk : Nat → Nat} (hM : Mak e dg om T D er rk) {r s : Nat → Rat} {c B H W ga F : Rat} (hE : EB e dg (PS e dg om T) r B) (hH : HB e dg r H) (hs : ∀ c, ¬ T c → s c = 0) (hc : 0 < c) (hW : 0 ≤ W) (hphi : ∀ a, a < 36 → T a → clo e dg a → ab (phi e om s a) ≤ c * W) (hg : ab (dt s r - c) ≤ ga * c) (hF : H * W ≤ F) (hgF : ga + F ≤ 1 / 2) {Y : Rat} (hY : B * (W * W) ≤ Y) {j : Nat} (hj : j < 36) : s j * s j ≤ qA e dg s * (48 + 8 * Y) := by
  have hQ := sd_q hS hM hE hH hs hc hW hphi hg hF hgF
  have hB := eb_nn (PS_lsp hS hM) (tld_ps hS hM hs) hE
  have hBW := Rat.mul_nonneg hB (sq_nn W)
  have hY0 : 0 ≤ Y := by grind
  rcases Classical.em (T j) with ht | ht
  · have hcW := Rat.mul_nonneg (Rat.le_of_lt hc) hW
    have h1 := poin hS (tld_ps hS hM hs).1 hj ht
    rw [tld_q hS hM] at h1
    have h2 := sq_le2 (sgv_le hS hcW hphi hj)
    have h3 := sd_2 hS hM hE hH hs hc hW hphi hg hF hgF
    have e1 : s j = tld e dg om T s j + sgv e dg om T s j := by unfold tld; grind
    rw [e1]
    generalize tld e dg om T s j = a at *
    generalize sgv e dg om T s j = b at *
    generalize qA e dg s = Q at *
    have h4 := two_ab a b
    have h5 := Rat.mul_le_mul_of_nonneg_right h3 (sq_nn W)
    have h6 := Rat.mul_le_mul_of_nonneg_left hY (Rat.le_of_lt hQ)
    grind
  · rw [hs j ht]
    have := Rat.mul_nonneg (Rat.le_of_lt hQ) (show 0 ≤ 48 + 8 * Y by grind)
    grind
