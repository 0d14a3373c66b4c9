/-! null vectors -/
/-! the null space, and what of a vector lies in it -/
def NV (e : Nat → Nat → Rat) (dg : Nat → Rat) (g : Nat → Rat) : Prop := (∀ a b, e a b = 1 → g a = g b) ∧ ∀ c, c < 36 → dg c ≠ nn e c → g c = 0
noncomputable def sgv (e : Nat → Nat → Rat) (dg om : Nat → Rat) (T : Nat → Prop) (s : Nat → Rat) (c : Nat) : Rat := ind (T c ∧ clo e dg c) * (phi e om s c / mm e om c)
/-- the sum of r over the null vectors is at most H -/
def HB (e : Nat → Nat → Rat) (dg : Nat → Rat) (r : Nat → Rat) (H : Rat) : Prop := ∀ g, NV e dg g → (∀ c, c < 36 → ab (g c) ≤ 1) → ab (dt g r) ≤ H
theorem nv_aS {e : Nat → Nat → Rat} {dg om : Nat → Rat} {T : Nat → Prop} (hS : Sys e dg om T) {g : Nat → Rat} (hg : NV e dg g) {c : Nat} (hc : c < 36) : aS e dg g c = 0 := by
  unfold aS
  have e1 : sm (fun j => e c j * g j) 36 = nn e c * g c := by
    unfold nn
    rw [Rat.mul_comm, ← sm_mul]
    refine sm_congr 36 (fun j _ => ?_)
    rcases hS.2.1 c j with h | h
    · rw [h]; grind
    · rw [hg.1 c j h, h]; grind
  rw [e1]
  rcases Classical.em (dg c = nn e c) with h | h
  · rw [h]; grind
  · rw [hg.2 c hc h]; grind
theorem nv_dt {e : Nat → Nat → Rat} {dg om : Nat → Rat} {T : Nat → Prop} (hS : Sys e dg om T) {g : Nat → Rat} (hg : NV e dg g) (s : Nat → Rat) : dt g (aS e dg s) = 0 := by
  rw [aS_sym hS.1]
  exact sm_0 36 (fun c hc => by rw [nv_aS hS hg hc]; grind)
theorem nv_qA {e : Nat → Nat → Rat} {dg om : Nat → Rat} {T : Nat → Prop} (hS : Sys e dg om T) {g : Nat → Rat} (hg : NV e dg g) (s : Nat → Rat) (a : Rat) : qA e dg (fun c => s c + a * g c) = qA e dg s := by
  rw [qA_lin hS.1]
  have h1 : dt s (aS e dg g) = 0 := sm_0 36 (fun c hc => by rw [nv_aS hS hg hc]; grind)
  have h2 : qA e dg g = 0 := nv_dt hS hg g
  rw [h1, h2]
  grind
theorem nv_aS2 {e : Nat → Nat → Rat} {dg om : Nat → Rat} {T : Nat → Prop} (hS : Sys e dg om T) {g : Nat → Rat} (hg : NV e dg g) (s : Nat → Rat) (a : Rat) {c : Nat} (hc : c < 36) : aS e dg (fun c => s c + a * g c) c = aS e dg s c := by
  rw [aS_lin, nv_aS hS hg hc]
  grind
theorem conn_iff {e : Nat → Nat → Rat} {dg om : Nat → Rat} {T : Nat → Prop} (hS : Sys e dg om T) {a b : Nat} (h : conn e a b) (ha : a < 36) (hb : b < 36) (c : Nat) : conn e a c ↔ conn e b c := by
  have hba := conn_sym hS.1 (fun a b h => (hS.2.2.1 a b h).2) h
  exact ⟨fun z => conn_trans hba z ha, fun z => conn_trans h z hb⟩
theorem phi_same {e : Nat → Nat → Rat} {dg om : Nat → Rat} {T : Nat → Prop} (hS : Sys e dg om T) {a b : Nat} (h : conn e a b) (ha : a < 36) (hb : b < 36) (x : Nat → Rat) : phi e om x a = phi e om x b := by
  unfold phi
  refine sm_congr 36 (fun c _ => ?_)
  have : conn e a c = conn e b c := propext (conn_iff hS h ha hb c)
  rw [this]
theorem clo_same {e : Nat → Nat → Rat} {dg om : Nat → Rat} {T : Nat → Prop} (hS : Sys e dg om T) {a b : Nat} (h : conn e a b) (ha : a < 36) (hb : b < 36) : clo e dg a ↔ clo e dg b := by
  unfold clo
  constructor
  · intro z c hc h2
    exact z c hc ((conn_iff hS h ha hb c).mpr h2)
  · intro z c hc h2
    exact z c hc ((conn_iff hS h ha hb c).mp h2)
theorem sgv_same {e : Nat → Nat → Rat} {dg om : Nat → Rat} {T : Nat → Prop} (hS : Sys e dg om T) {a b : Nat} (h : conn e a b) (ha : a < 36) (hb : b < 36) (hta : T a) (htb : T b) (s : Nat → Rat) : sgv e dg om T s a = sgv e dg om T s b := by
  unfold sgv mm
  rw [phi_same hS h ha hb, phi_same hS h ha hb]
  have : (T a ∧ clo e dg a) = (T b ∧ clo e dg b) := propext ⟨fun z => ⟨htb, (clo_same hS h ha hb).mp z.2⟩, fun z => ⟨hta, (clo_same hS h ha hb).mpr z.2⟩⟩
  rw [this]
theorem sgv_nv {e : Nat → Nat → Rat} {dg om : Nat → Rat} {T : Nat → Prop} (hS : Sys e dg om T) (s : Nat → Rat) : NV e dg (sgv e dg om T s) := by
  refine ⟨fun a b h => ?_, fun c hc h => ?_⟩
  · obtain ⟨h1, h2⟩ := hS.2.2.1 a b h
    have h' : e b a = 1 := by rw [hS.1]; exact h
    obtain ⟨h3, h4⟩ := hS.2.2.1 b a h'
    exact sgv_same hS (conn_step (conn_refl e a) h2 h') h2 h4 h1 h3 s
  · unfold sgv
    rw [ind_f (fun z => h (z.2 c hc (conn_refl e c)))]
    grind
theorem conn_T {e : Nat → Nat → Rat} {dg om : Nat → Rat} {T : Nat → Prop} (hS : Sys e dg om T) {a c : Nat} (h : conn e a c) (ha : a < 36) (hta : T a) : T c ∧ c < 36 := by
  obtain ⟨k, hk⟩ := h
  exact rch_lt hS.2.2.1 ⟨hta, ha⟩ k c hk
theorem sgv_pp {e : Nat → Nat → Rat} {dg om : Nat → Rat} {T : Nat → Prop} (hS : Sys e dg om T) (s : Nat → Rat) : PP e dg om T (fun c => s c + (-1) * sgv e dg om T s c) := by
  intro a ha hta hc
  rw [phi_lin hS]
  have e1 : phi e om (sgv e dg om T s) a = phi e om s a / mm e om a * mm e om a := by
    unfold mm
    conv => lhs; unfold phi
    conv => rhs; rhs; unfold phi
    rw [← sm_mul]
    refine sm_congr 36 (fun c h1 => ?_)
    rcases Classical.em (conn e a c) with h | h
    · have h2 := conn_T hS h ha hta
      rw [← sgv_same hS h ha h1 hta h2.1]
      unfold sgv mm
      rw [ind_t h, ind_t (show T a ∧ clo e dg a from ⟨hta, hc⟩)]
      grind
    · rw [ind_f h]
      grind
  have hm := hS.2.2.2.2.2.1 a ha hta hc
  rw [e1]
  grind
theorem sgv_le {e : Nat → Nat → Rat} {dg om : Nat → Rat} {T : Nat → Prop} (hS : Sys e dg om T) {s : Nat → Rat} {b : Rat} (hb : 0 ≤ b) (h : ∀ a, a < 36 → T a → clo e dg a → ab (phi e om s a) ≤ b) {c : Nat} (hc : c < 36) : ab (sgv e dg om T s c) ≤ b := by
  unfold sgv
  rcases Classical.em (T c ∧ clo e dg c) with hk | hk
  · rw [ind_t hk]
    have h1 := h c hc hk.1 hk.2
    have hm := hS.2.2.2.2.2.1 c hc hk.1 hk.2
    rw [ab_le] at h1 ⊢
    generalize phi e om s c = p at *
    generalize mm e om c = m at *
    have hb2 := Rat.mul_le_mul_of_nonneg_left hm hb
    have e1 : 1 * (p / m) * m = p := by grind
    constructor
    · refine Rat.le_of_mul_le_mul_right (c := m) ?_ (by grind)
      grind
    · refine Rat.le_of_mul_le_mul_right (c := m) ?_ (by grind)
      grind
  · rw [ind_f hk]
    rw [ab_le]
    constructor <;> grind
theorem hb_scale {e : Nat → Nat → Rat} {dg om : Nat → Rat} {T : Nat → Prop} (hS : Sys e dg om T) {r g : Nat → Rat} {H b : Rat} (h : HB e dg r H) (hg : NV e dg g) (hb : 0 ≤ b) (hgb : ∀ c, c < 36 → ab (g c) ≤ b) : ab (dt g r) ≤ b * H := by
  rcases Rat.le_iff_lt_or_eq.mp hb with hb | hb
  · have h1 := h (fun c => 1 / b * g c) ⟨fun a c hac => by show 1 / b * g a = 1 / b * g c; rw [hg.1 a c hac], fun c hc h2 => by show 1 / b * g c = 0; rw [hg.2 c hc h2]; grind⟩ (fun c hc => by
      have := hgb c hc
      rw [ab_mul, ab_of (show 0 ≤ 1 / b by rw [Rat.div_def]; have := Rat.inv_pos.mpr hb; grind)]
      have e1 : 1 / b * b = 1 := by grind
      have := Rat.mul_le_mul_of_nonneg_left this (show 0 ≤ 1 / b by rw [Rat.div_def]; have := Rat.inv_pos.mpr hb; grind)
      grind)
    rw [dt_smul, ab_mul, ab_of (show 0 ≤ 1 / b by rw [Rat.div_def]; have := Rat.inv_pos.mpr hb; grind)] at h1
    have h2 := Rat.mul_le_mul_of_nonneg_left h1 (Rat.le_of_lt hb)
    have e9 : ∀ X : Rat, b * (1 / b * X) = X := fun X => by grind
    rw [e9] at h2
    exact h2
  · subst hb
    have : dt g r = 0 := sm_0 36 (fun c hc => by
      have := hgb c hc
      have h0 : g c = 0 := by
        rw [ab_le] at this
        grind
      rw [h0]
      grind)
    rw [this, ab_of (by decide)]
    grind
