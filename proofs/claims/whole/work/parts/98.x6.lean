/-! closed components -/
/-! closed components, the space without them, and the bound of its vectors -/
theorem conn_refl (e : Nat → Nat → Rat) (a : Nat) : conn e a a := ⟨0, rfl⟩
theorem conn_step {e : Nat → Nat → Rat} {a b c : Nat} (h : conn e a b) (hb : b < 36) (hc : e c b = 1) : conn e a c := by
  obtain ⟨k, hk⟩ := h
  exact ⟨k + 1, Or.inr ⟨b, hb, hc, hk⟩⟩
theorem rch_lt {e : Nat → Nat → Rat} {T : Nat → Prop} (hT : ∀ a b, e a b = 1 → T a ∧ a < 36) {a : Nat} (ha : T a ∧ a < 36) : ∀ k c, rch e a k c → T c ∧ c < 36
  | 0, c, h => by have h : c = a := h; subst h; exact ha
  | k + 1, c, h => by
    rcases h with h | ⟨j, _, h1, _⟩
    · exact rch_lt hT ha k c h
    · exact hT c j h1
theorem conn_trans {e : Nat → Nat → Rat} {a b c : Nat} (h1 : conn e a b) (h2 : conn e b c) (hb : b < 36) : conn e a c := by
  obtain ⟨k, hk⟩ := h2
  revert c
  induction k with
  | zero => intro c hk; have hk : c = b := hk; subst hk; exact h1
  | succ k ih =>
    intro c hk
    rcases hk with hk | ⟨j, hj, q1, q2⟩
    · exact ih hk
    · exact conn_step (ih q2) hj q1
theorem conn_sym {e : Nat → Nat → Rat} (hs : ∀ a b, e a b = e b a) (he : ∀ a b, e a b = 1 → a < 36) {a c : Nat} (h : conn e a c) : conn e c a := by
  obtain ⟨k, hk⟩ := h
  revert c
  induction k with
  | zero => intro c hk; have hk : c = a := hk; subst hk; exact conn_refl e c
  | succ k ih =>
    intro c hk
    rcases hk with hk | ⟨j, hj, q1, q2⟩
    · exact ih hk
    · have h1 : conn e c j := conn_step (conn_refl e c) (he c j q1) (by rw [hs]; exact q1)
      exact conn_trans h1 (ih q2) hj
def nn (e : Nat → Nat → Rat) (c : Nat) : Rat := sm (fun j => e c j) 36
/-- a's component is closed -/
def clo (e : Nat → Nat → Rat) (dg : Nat → Rat) (a : Nat) : Prop := ∀ c, c < 36 → conn e a c → dg c = nn e c
noncomputable def phi (e : Nat → Nat → Rat) (om x : Nat → Rat) (a : Nat) : Rat := sm (fun c => ind (conn e a c) * (om c * x c)) 36
noncomputable def mm (e : Nat → Nat → Rat) (om : Nat → Rat) (a : Nat) : Rat := phi e om (fun _ => 1) a
/-- the space of the vectors whose weighted sum is 0 over each closed component -/
def PP (e : Nat → Nat → Rat) (dg om : Nat → Rat) (T : Nat → Prop) (x : Nat → Rat) : Prop := ∀ a, a < 36 → T a → clo e dg a → phi e om x a = 0
/-- the shape of the system: neighbours e, open sides dg, weights om, cells T -/
abbrev Sys (e : Nat → Nat → Rat) (dg om : Nat → Rat) (T : Nat → Prop) : Prop := (∀ a b, e a b = e b a) ∧ (∀ a b, e a b = 0 ∨ e a b = 1) ∧ (∀ a b, e a b = 1 → T a ∧ a < 36) ∧ (∀ c, c < 36 → dg c = nn e c ∨ nn e c + 1 ≤ dg c) ∧ (∀ c, c < 36 → 0 ≤ om c) ∧ (∀ a, a < 36 → T a → clo e dg a → 1 ≤ mm e om a) ∧ sm (fun c => ind (T c)) 36 ≤ 24
theorem Sys.e0 {e : Nat → Nat → Rat} {dg om : Nat → Rat} {T : Nat → Prop} (hS : Sys e dg om T) : ∀ a b, 0 ≤ e a b := fun a b => by
  rcases hS.2.1 a b with h | h <;> rw [h] <;> decide
theorem Sys.dn {e : Nat → Nat → Rat} {dg om : Nat → Rat} {T : Nat → Prop} (hS : Sys e dg om T) (c : Nat) (hc : c < 36) : nn e c ≤ dg c := by
  rcases hS.2.2.2.1 c hc with h | h <;> grind
theorem Sys.qnn {e : Nat → Nat → Rat} {dg om : Nat → Rat} {T : Nat → Prop} (hS : Sys e dg om T) (x : Nat → Rat) : 0 ≤ qA e dg x := qA_nn hS.1 hS.e0 (fun c hc => hS.dn c hc) x
theorem phi_lin {e : Nat → Nat → Rat} {dg om : Nat → Rat} {T : Nat → Prop} (hS : Sys e dg om T) (x y : Nat → Rat) (b : Rat) (a : Nat) : phi e om (fun c => x c + b * y c) a = phi e om x a + b * phi e om y a := by
  unfold phi
  rw [← sm_mul, ← sm_add]
  exact sm_congr 36 (fun i _ => by grind)
theorem phi_smul {e : Nat → Nat → Rat} {dg om : Nat → Rat} {T : Nat → Prop} (hS : Sys e dg om T) (x : Nat → Rat) (b : Rat) (a : Nat) : phi e om (fun c => b * x c) a = b * phi e om x a := by
  unfold phi
  rw [← sm_mul]
  exact sm_congr 36 (fun i _ => by grind)
theorem PP_lsp {e : Nat → Nat → Rat} {dg om : Nat → Rat} {T : Nat → Prop} (hS : Sys e dg om T) : lsp (PP e dg om T) := by
  refine ⟨fun x y b hx hy a ha ht hc => ?_, fun x b hx a ha ht hc => ?_⟩
  · rw [phi_lin hS, hx a ha ht hc, hy a ha ht hc]
    grind
  · rw [phi_smul hS, hx a ha ht hc]
    grind
/-- the parts of the form -/
theorem qA_parts {e : Nat → Nat → Rat} {dg om : Nat → Rat} {T : Nat → Prop} (hS : Sys e dg om T) (x : Nat → Rat) : sm (fun c => (dg c - nn e c) * (x c * x c)) 36 + sm (fun v => sm (fun w => e v w * ((x v - x w) * (x v - x w))) 36) 36 / 2 = qA e dg x ∧ 0 ≤ sm (fun c => (dg c - nn e c) * (x c * x c)) 36 ∧ 0 ≤ sm (fun v => sm (fun w => e v w * ((x v - x w) * (x v - x w))) 36) 36 := by
  have h1 := qA_sq hS.1 dg x
  have h2 : 0 ≤ sm (fun c => (dg c - nn e c) * (x c * x c)) 36 := sm_nn 36 (fun c hc => Rat.mul_nonneg (by have := hS.dn c hc; grind) (sq_nn _))
  have h3 : 0 ≤ sm (fun c => sm (fun j => e c j * ((x c - x j) * (x c - x j))) 36) 36 := sm_nn 36 (fun c _ => sm_nn 36 (fun j _ => Rat.mul_nonneg (hS.e0 c j) (sq_nn _)))
  have h1 : 2 * qA e dg x = 2 * sm (fun c => (dg c - nn e c) * (x c * x c)) 36 + _ := h1
  exact ⟨by grind, h2, h3⟩
theorem walk2 {e : Nat → Nat → Rat} {dg om : Nat → Rat} {T : Nat → Prop} (hS : Sys e dg om T) {a c : Nat} (ha : a < 36) (hta : T a) (hc : c < 36) (h : conn e a c) (x : Nat → Rat) : (x c - x a) * (x c - x a) ≤ 23 * (sm (fun v => sm (fun w => e v w * ((x v - x w) * (x v - x w))) 36) 36 / 2) := by
  obtain ⟨k, hk⟩ := h
  obtain ⟨i, hi⟩ := lvl_of k hk
  have w1 := walk hS.e0 a x i c hc hi
  have w2 := bE_sum hS.1 hS.e0 a x i
  have w3 := lvl_cnt ha i c hc hi
  have w4 : sm (fun v => ind (rch e a i v)) 36 ≤ sm (fun v => ind (T v)) 36 := sm_le 36 (fun v _ => ind_le (fun z => (rch_lt hS.2.2.1 ⟨hta, ha⟩ i v z).1))
  have w5 := hS.2.2.2.2.2.2
  have w6 := sm_nn (f := bE e a x) i (fun j _ => bE_nn hS.e0 a x j)
  have w7 : (i : Rat) ≤ 23 := by grind
  generalize sm (bE e a x) i = S at *
  generalize sm (fun v => sm (fun w => e v w * ((x v - x w) * (x v - x w))) 36) 36 = E at *
  have w8 := Rat.mul_le_mul_of_nonneg_right w7 w6
  grind
/-- a vector of the space is bounded by its form -/
theorem poin {e : Nat → Nat → Rat} {dg om : Nat → Rat} {T : Nat → Prop} (hS : Sys e dg om T) {x : Nat → Rat} (hx : PP e dg om T x) {a : Nat} (ha : a < 36) (hta : T a) : x a * x a ≤ 24 * qA e dg x := by
  obtain ⟨p1, p2, p3⟩ := qA_parts hS x
  rcases Classical.em (clo e dg a) with hc | hc
  · have hz := hx a ha hta hc
    have hm := hS.2.2.2.2.2.1 a ha hta hc
    have key : ∀ y : Nat → Rat, phi e om y a = 0 → ∃ c, c < 36 ∧ conn e a c ∧ y c ≤ 0 := fun y hy => by
      refine Classical.byContradiction (fun hno => ?_)
      have pos : ∀ c, c < 36 → conn e a c → 0 < y c := fun c h1 h2 => Rat.not_le.mp (fun z => hno ⟨c, h1, h2, z⟩)
      have tn : ∀ c, c < 36 → 0 ≤ ind (conn e a c) * (om c * y c) := fun c h1 => by
        rcases Classical.em (conn e a c) with h2 | h2
        · rw [ind_t h2]
          have := Rat.mul_nonneg (hS.2.2.2.2.1 c h1) (Rat.le_of_lt (pos c h1 h2))
          grind
        · rw [ind_f h2]
          grind
      have t0 : ∀ c, c < 36 → ind (conn e a c) * (om c * 1) = 0 := fun c h1 => by
        rcases Classical.em (conn e a c) with h2 | h2
        · have q1 := sm_one (f := fun c => ind (conn e a c) * (om c * y c)) 36 c h1 tn
          have q1 : ind (conn e a c) * (om c * y c) ≤ phi e om y a := q1
          rw [hy, ind_t h2] at q1
          have q2 := Rat.mul_nonneg (hS.2.2.2.2.1 c h1) (Rat.le_of_lt (pos c h1 h2))
          have q3 : om c * y c = 0 := by grind
          rcases Rat.mul_eq_zero.mp q3 with q4 | q4
          · rw [q4]; grind
          · have := pos c h1 h2
            grind
        · rw [ind_f h2]
          grind
      have : mm e om a = 0 := sm_0 36 t0
      grind
    rcases (Rat.le_total : 0 ≤ x a ∨ x a ≤ 0) with h | h
    · obtain ⟨c, c1, c2, c3⟩ := key x hz
      have w := walk2 hS ha hta c1 c2 x
      have s1 : x a * x a ≤ (x c - x a) * (x c - x a) := by
        have e1 : (x c - x a) * (x c - x a) = (x a - x c) * (x a - x c) := by grind
        rw [e1]
        exact mul_le2 (by grind) (by grind) h (by grind)
      grind
    · obtain ⟨c, c1, c2, c3⟩ := key (fun c => (-1) * x c) (by rw [phi_smul hS, hz]; grind)
      have w := walk2 hS ha hta c1 c2 x
      have s1 : x a * x a ≤ (x c - x a) * (x c - x a) := by
        have e2 : x a * x a = -x a * -x a := by grind
        rw [e2]
        exact mul_le2 (by grind) (by grind) (by grind) (by grind)
      grind
  · obtain ⟨b, hb⟩ := Classical.not_forall.mp hc
    obtain ⟨b1, hb⟩ := Classical.not_imp.mp hb
    obtain ⟨b2, b3⟩ := Classical.not_imp.mp hb
    have w := walk2 hS ha hta b1 b2 x
    have d1 : 1 ≤ dg b - nn e b := by
      rcases hS.2.2.2.1 b b1 with h | h
      · exact absurd h b3
      · grind
    have q1 := sm_one (f := fun c => (dg c - nn e c) * (x c * x c)) 36 b b1 (fun c hc => Rat.mul_nonneg (by have := hS.dn c hc; grind) (sq_nn _))
    have q1 : (dg b - nn e b) * (x b * x b) ≤ _ := q1
    have q2 := Rat.mul_le_mul_of_nonneg_right d1 (sq_nn (x b))
    generalize sm (fun v => sm (fun w => e v w * ((x v - x w) * (x v - x w))) 36) 36 = E at *
    generalize sm (fun c => (dg c - nn e c) * (x c * x c)) 36 = D at *
    have s1 := sq_nn (23 * x b - (x a - x b))
    have e1 : 23 * (x a * x a) ≤ 24 * ((x b - x a) * (x b - x a) + 23 * (x b * x b)) := by grind
    grind
