/-! z -/
/-! what z is, made from r -/
def PS (e : Nat → Nat → Rat) (dg om : Nat → Rat) (T : Nat → Prop) (x : Nat → Rat) : Prop := PP e dg om T x ∧ ∀ c, ¬ T c → x c = 0
theorem PS_lsp {e : Nat → Nat → Rat} {dg om : Nat → Rat} {T : Nat → Prop} (hS : Sys e dg om T) {D er : Nat → Rat} {rk : Nat → Nat} (hM : Mak e dg om T D er rk) : lsp (PS e dg om T) := by
  refine ⟨fun x y b hx hy => ⟨(PP_lsp hS).1 x y b hx.1 hy.1, fun c hc => ?_⟩, fun x b hx => ⟨(PP_lsp hS).2 x b hx.1, fun c hc => ?_⟩⟩
  · show x c + b * y c = 0
    rw [hx.2 c hc, hy.2 c hc]
    grind
  · show b * x c = 0
    rw [hx.2 c hc]
    grind
/-- a sum over the cells, squared -/
theorem sm_sqT {e : Nat → Nat → Rat} {dg om : Nat → Rat} {T : Nat → Prop} (hS : Sys e dg om T) {D er : Nat → Rat} {rk : Nat → Nat} (hM : Mak e dg om T D er rk) {y : Nat → Rat} {X : Rat} (hX : 0 ≤ X) (h : ∀ c, c < 36 → T c → y c * y c ≤ X) (h0 : ∀ c, c < 36 → ¬ T c → y c = 0) : sm y 36 * sm y 36 ≤ 576 * X := by
  have cs := sm_cs (a := fun c => ind (T c)) (b := y) 36
  have e1 : sm (fun c => ind (T c) * y c) 36 = sm y 36 := sm_congr 36 (fun c hc => by
    rcases Classical.em (T c) with ht | ht
    · rw [ind_t ht]; grind
    · rw [h0 c hc ht]; grind)
  have e2 : sm (fun c => ind (T c) * ind (T c)) 36 ≤ 24 := by
    have : sm (fun c => ind (T c) * ind (T c)) 36 = sm (fun c => ind (T c)) 36 := sm_congr 36 (fun c _ => by
      rcases Classical.em (T c) with ht | ht
      · rw [ind_t ht]; grind
      · rw [ind_f ht]; grind)
    rw [this]
    exact hS.2.2.2.2.2.2
  have e3 : sm (fun c => y c * y c) 36 ≤ 24 * X := sm_T hS hM hX h (fun c hc ht => by rw [h0 c hc ht]; grind)
  rw [e1] at cs
  have e4 : 0 ≤ sm (fun c => y c * y c) 36 := sm_nn 36 (fun c _ => sq_nn _)
  have e5 := Rat.mul_le_mul_of_nonneg_right e2 e4
  grind
theorem mz_0 {e : Nat → Nat → Rat} {dg om : Nat → Rat} {T : Nat → Prop} (hS : Sys e dg om T) {D er : Nat → Rat} {rk : Nat → Nat} (hM : Mak e dg om T D er rk) {r z f : Nat → Rat} {R : Rat} (hr : ∀ c, ¬ T c → r c = 0) (hz : ∀ c, ¬ T c → z c = 0) (hf : ∀ c, c < 36 → mM e D z c = r c + f c) (hfe : ∀ c, c < 36 → ab (f c) ≤ 1 / 2 ^ 30 * R) (hR : ∀ c, c < 36 → ab (r c) ≤ R) (hRa : ∃ c, c < 36 ∧ T c ∧ ab (r c) = R) : 0 ≤ R := by
  obtain ⟨c, _, _, h⟩ := hRa
  rw [← h]
  exact ab_nn _
theorem mz_a {e : Nat → Nat → Rat} {dg om : Nat → Rat} {T : Nat → Prop} (hS : Sys e dg om T) {D er : Nat → Rat} {rk : Nat → Nat} (hM : Mak e dg om T D er rk) {r z f : Nat → Rat} {R : Rat} (hr : ∀ c, ¬ T c → r c = 0) (hz : ∀ c, ¬ T c → z c = 0) (hf : ∀ c, c < 36 → mM e D z c = r c + f c) (hfe : ∀ c, c < 36 → ab (f c) ≤ 1 / 2 ^ 30 * R) (hR : ∀ c, c < 36 → ab (r c) ≤ R) (hRa : ∃ c, c < 36 ∧ T c ∧ ab (r c) = R) : R * R ≤ 61 / 10 * qM e D z := by
  obtain ⟨c, hc, ht, h⟩ := hRa
  have h1 := mM_le hS hM z hc ht
  have h2 := hfe c hc
  have h3 := hf c hc
  have hR0 : 0 ≤ R := by rw [← h]; exact ab_nn _
  have h4 : (1 - 1 / 2 ^ 30) * R ≤ ab (mM e D z c) := by
    have := ab_sub (mM e D z c) (f c)
    rw [show mM e D z c - f c = r c by grind, h] at this
    grind
  have h5 := mul_le2 h4 h4 (Rat.mul_nonneg (by decide +kernel) hR0) (ab_nn _)
  rw [ab_sq] at h5
  have h6 := Rat.mul_nonneg hR0 hR0
  grind
theorem mz_f0 {e : Nat → Nat → Rat} {dg om : Nat → Rat} {T : Nat → Prop} (hS : Sys e dg om T) {D er : Nat → Rat} {rk : Nat → Nat} (hM : Mak e dg om T D er rk) {r z f : Nat → Rat} {R : Rat} (hr : ∀ c, ¬ T c → r c = 0) (hz : ∀ c, ¬ T c → z c = 0) (hf : ∀ c, c < 36 → mM e D z c = r c + f c) (hfe : ∀ c, c < 36 → ab (f c) ≤ 1 / 2 ^ 30 * R) (hR : ∀ c, c < 36 → ab (r c) ≤ R) (hRa : ∃ c, c < 36 ∧ T c ∧ ab (r c) = R) {c : Nat} (hc : c < 36) (ht : ¬ T c) : f c = 0 := by
  have h1 := hf c hc
  have h2 : mM e D z c = 0 := by
    unfold mM
    rw [tV_out hS hM ht (hz c ht), sm_0 36 (fun p _ => by
      rcases uE_01 hS.2.1 p c with h | ⟨_, _, h3⟩
      · rw [h]; grind
      · have h' : e c p = 1 := by rw [hS.1]; exact h3
        exact absurd (hS.2.2.1 c p h').1 ht)]
    grind
  rw [h2, hr c ht] at h1
  grind
theorem mz_fsq {e : Nat → Nat → Rat} {dg om : Nat → Rat} {T : Nat → Prop} (hS : Sys e dg om T) {D er : Nat → Rat} {rk : Nat → Nat} (hM : Mak e dg om T D er rk) {r z f : Nat → Rat} {R : Rat} (hr : ∀ c, ¬ T c → r c = 0) (hz : ∀ c, ¬ T c → z c = 0) (hf : ∀ c, c < 36 → mM e D z c = r c + f c) (hfe : ∀ c, c < 36 → ab (f c) ≤ 1 / 2 ^ 30 * R) (hR : ∀ c, c < 36 → ab (r c) ≤ R) (hRa : ∃ c, c < 36 ∧ T c ∧ ab (r c) = R) {x : Nat → Rat} {X : Rat} (hX : 0 ≤ X) (hx : ∀ c, c < 36 → T c → x c * x c ≤ X) : dt x f * dt x f ≤ 576 * (X * (1 / 2 ^ 60 * (61 / 10 * qM e D z))) := by
  have ha := mz_a hS hM hr hz hf hfe hR hRa
  have h0 := mz_0 hS hM hr hz hf hfe hR hRa
  have hZ := qM_nn hS hM z
  refine sm_sqT hS hM (Rat.mul_nonneg hX (by grind)) (fun c hc ht => ?_) (fun c hc ht => by rw [mz_f0 hS hM hr hz hf hfe hR hRa hc ht]; grind)
  have h1 := sq_le2 (hfe c hc)
  have h2 : f c * f c ≤ 1 / 2 ^ 60 * (61 / 10 * qM e D z) := by grind
  have h3 := mul_le2 (hx c hc ht) h2 (sq_nn _) (by grind)
  grind
theorem mz_b {e : Nat → Nat → Rat} {dg om : Nat → Rat} {T : Nat → Prop} (hS : Sys e dg om T) {D er : Nat → Rat} {rk : Nat → Nat} (hM : Mak e dg om T D er rk) {r z f : Nat → Rat} {R : Rat} (hr : ∀ c, ¬ T c → r c = 0) (hz : ∀ c, ¬ T c → z c = 0) (hf : ∀ c, c < 36 → mM e D z c = r c + f c) (hfe : ∀ c, c < 36 → ab (f c) ≤ 1 / 2 ^ 30 * R) (hR : ∀ c, c < 36 → ab (r c) ≤ R) (hRa : ∃ c, c < 36 ∧ T c ∧ ab (r c) = R) : EB e dg (PS e dg om T) r (2420 * qM e D z) := fun x hx => by
  have hZ := qM_nn hS hM z
  have hQ := hS.qnn x
  have h1 := mM_cs hS hM (x := x) (y := z) hx.2 hz
  have h2 := qM_qA hS hM hx.1 hx.2
  have h3 := mz_fsq hS hM hr hz hf hfe hR hRa (x := x) (X := 24 * qA e dg x) (by grind) (fun c hc ht => poin hS hx.1 hc ht)
  have h4 : dt x r = dt x (mM e D z) + dt x f * -1 := by
    unfold dt
    rw [Rat.mul_comm, ← sm_mul, ← sm_add]
    exact sm_congr 36 (fun c hc => by rw [hf c hc]; grind)
  rw [h4]
  have h5 := Rat.mul_le_mul_of_nonneg_right h2 hZ
  have hX := Rat.mul_nonneg hQ hZ
  generalize dt x (mM e D z) = a at *
  generalize dt x f = b at *
  have k1 : a * a ≤ (491 / 10) * (491 / 10) * (qA e dg x * qM e D z) := by grind
  have k2 : (b * -1) * (b * -1) ≤ (1 / 1000) * (1 / 1000) * (qA e dg x * qM e D z) := by grind
  have k3 := sqa (by decide +kernel) (by decide +kernel) hX k1 k2
  have k4 : 2 * (a + b * -1) ≤ qA e dg x + 2420 * qM e D z := by
    refine le_sq (by grind) ?_
    have q := sq_nn (qA e dg x - 2420 * qM e D z)
    grind
  exact k4
theorem mz_c {e : Nat → Nat → Rat} {dg om : Nat → Rat} {T : Nat → Prop} (hS : Sys e dg om T) {D er : Nat → Rat} {rk : Nat → Nat} (hM : Mak e dg om T D er rk) {r z f : Nat → Rat} {R : Rat} (hr : ∀ c, ¬ T c → r c = 0) (hz : ∀ c, ¬ T c → z c = 0) (hf : ∀ c, c < 36 → mM e D z c = r c + f c) (hfe : ∀ c, c < 36 → ab (f c) ≤ 1 / 2 ^ 30 * R) (hR : ∀ c, c < 36 → ab (r c) ≤ R) (hRa : ∃ c, c < 36 ∧ T c ∧ ab (r c) = R) {c : Nat} (hc : c < 36) : z c * z c ≤ 144 * qM e D z := by
  have h := z_le hS hM hz (10 - rk c) c hc rfl
  have hZ := qM_nn hS hM z
  have h1 : ((10 - rk c + 2 : Nat) : Rat) ≤ 12 := by
    have := Rat.natCast_le_natCast.mpr (show 10 - rk c + 2 ≤ 12 by omega)
    exact this
  have h2 := mul_le2 h1 h1 Rat.natCast_nonneg (by decide)
  have h3 := Rat.mul_le_mul_of_nonneg_right h2 hZ
  grind
theorem mz_d {e : Nat → Nat → Rat} {dg om : Nat → Rat} {T : Nat → Prop} (hS : Sys e dg om T) {D er : Nat → Rat} {rk : Nat → Nat} (hM : Mak e dg om T D er rk) {r z f : Nat → Rat} {R : Rat} (hr : ∀ c, ¬ T c → r c = 0) (hz : ∀ c, ¬ T c → z c = 0) (hf : ∀ c, c < 36 → mM e D z c = r c + f c) (hfe : ∀ c, c < 36 → ab (f c) ≤ 1 / 2 ^ 30 * R) (hR : ∀ c, c < 36 → ab (r c) ≤ R) (hRa : ∃ c, c < 36 ∧ T c ∧ ab (r c) = R) : ab (dt z r - qM e D z) ≤ 1 / 2 ^ 20 * qM e D z := by
  have hZ := qM_nn hS hM z
  have h1 := mM_self hS hM hz
  have h3 := mz_fsq hS hM hr hz hf hfe hR hRa (x := z) (X := 144 * qM e D z) (by grind) (fun c hc _ => mz_c hS hM hr hz hf hfe hR hRa hc)
  have h4 : dt z r = dt z (mM e D z) - dt z f := by
    unfold dt
    rw [← sm_sub]
    exact sm_congr 36 (fun c hc => by rw [hf c hc]; grind)
  rw [h4, h1]
  refine ab_le_sq (by grind) ?_
  have := Rat.mul_nonneg hZ hZ
  grind
theorem mz_e {e : Nat → Nat → Rat} {dg om : Nat → Rat} {T : Nat → Prop} (hS : Sys e dg om T) {D er : Nat → Rat} {rk : Nat → Nat} (hM : Mak e dg om T D er rk) {r z f : Nat → Rat} {R : Rat} (hr : ∀ c, ¬ T c → r c = 0) (hz : ∀ c, ¬ T c → z c = 0) (hf : ∀ c, c < 36 → mM e D z c = r c + f c) (hfe : ∀ c, c < 36 → ab (f c) ≤ 1 / 2 ^ 30 * R) (hR : ∀ c, c < 36 → ab (r c) ≤ R) (hRa : ∃ c, c < 36 ∧ T c ∧ ab (r c) = R) {H : Rat} (hH : HB e dg r H) {a : Nat} (ha : a < 36) (hta : T a) (hc : clo e dg a) : ∃ th, ab (phi e om z a) ≤ H + ab th ∧ th * th ≤ 1 / 2 ^ 46 * qM e D z := by
  have hZ := qM_nn hS hM z
  have h1 := mM_phi hS hM hz ha hta hc
  have nv : NV e dg (fun c => ind (conn e a c)) := by
    refine ⟨fun c j h => ?_, fun c hc36 hne => ?_⟩
    · have h1 := hS.2.2.1 c j h
      have h' : e j c = 1 := by rw [hS.1]; exact h
      have h2 := hS.2.2.1 j c h'
      have : conn e a c = conn e a j := propext ⟨fun k => conn_step k h1.2 h', fun k => conn_step k h2.2 h⟩
      show ind (conn e a c) = ind (conn e a j)
      rw [this]
    · show ind (conn e a c) = 0
      exact ind_f (fun k => hne (hc c hc36 k))
  have le1 : ∀ c, c < 36 → ab (ind (conn e a c)) ≤ 1 := fun c _ => by
    rcases Classical.em (conn e a c) with h | h
    · rw [ind_t h]; decide +kernel
    · rw [ind_f h]; decide +kernel
  have h2 := hH _ nv le1
  have h3 : dt (fun c => ind (conn e a c)) (mM e D z) = dt (fun c => ind (conn e a c)) r + dt (fun c => ind (conn e a c)) f := by
    unfold dt
    rw [← sm_add]
    exact sm_congr 36 (fun c hc => by rw [hf c hc]; grind)
  have h4 := mz_fsq hS hM hr hz hf hfe hR hRa (x := fun c => ind (conn e a c)) (X := 1) (by decide) (fun c hc _ => by
    have := sq_le2 (le1 c hc)
    grind)
  have h5 : sm (fun c => ind (conn e a c) * (er c * z c)) 36 * sm (fun c => ind (conn e a c) * (er c * z c)) 36 ≤ 576 * (1 / 2 ^ 98 * (144 * qM e D z)) := by
    refine sm_sqT hS hM (by grind) (fun c hc36 ht => ?_) (fun c hc36 ht => by rw [hz c ht]; grind)
    have a1 := sq_le2 (le1 c hc36)
    have a2 := sq_le2 ((hM.2.1 c hc36 ht).2.2.2.2.2)
    have a3 := mz_c hS hM hr hz hf hfe hR hRa hc36
    have a4 := mul_le2 a2 a3 (sq_nn _) (by grind)
    have a5 := mul_le2 a1 a4 (sq_nn _) (by grind)
    grind
  refine ⟨dt (fun c => ind (conn e a c)) f + -1 * sm (fun c => ind (conn e a c) * (er c * z c)) 36, ?_, ?_⟩
  · rw [h3] at h1
    generalize dt (fun c => ind (conn e a c)) r = A at *
    generalize dt (fun c => ind (conn e a c)) f = B at *
    generalize sm (fun c => ind (conn e a c) * (er c * z c)) 36 = C at *
    have e1 : phi e om z a = A + (B + -1 * C) := by grind
    rw [e1]
    have := ab_add A (B + -1 * C)
    grind
  · generalize dt (fun c => ind (conn e a c)) f = B at *
    generalize sm (fun c => ind (conn e a c) * (er c * z c)) 36 = C at *
    have k1 : B * B ≤ (1 / 2 ^ 24) * (1 / 2 ^ 24) * qM e D z := by grind
    have k2 : (-1 * C) * (-1 * C) ≤ (1 / 2 ^ 24) * (1 / 2 ^ 24) * qM e D z := by grind
    have k3 := sqa (by decide +kernel) (by decide +kernel) hZ k1 k2
    grind
