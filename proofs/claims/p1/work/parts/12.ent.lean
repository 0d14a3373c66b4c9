/-- a call of number i is such as sp says: in every method of the class own that has room d -/
def xEnt (l : Launch) (d : Nat) (D : va_G) (ad : Nat → Nat) (cy : Nat → ClassId) (own : String) (i : Nat) (sp : List Value → xA → (List Value → xA → Prop) → Prop) : Prop :=
  ∀ (cc : ByteArray) (L : xC) (Fd : Nat → Option (Nat × Nat)) (Cn : Nat → Option Value) (p : Program) (e : Env) (s : State) (m : MethodId) (args : Array Value) (below : List Frame) (meth : Method) (c : Code) (Q : State → Prop) (A : Nat → Prop), (∀ q, s.heap.size ≤ q → A q) → xFix p s m args c D cy cc own L Fd Cn →
    ∀ n q, L[n]? = some q → xinv q.2.1 i → ∀ lv st aw k, sp st aw k → (∀ st' aw', k st' aw' → xWc p l e (xRm d) s m args below meth c Q A D ad cy 0 0 (L.drop (n + 1)) lv st' aw') → xWc p l e (xRm d) s m args below meth c Q A D ad cy 0 0 (L.drop n) lv st aw
def xCt (ct : List (Nat × (List Value → xA → (List Value → xA → Prop) → Prop))) : Nat → List Value → xA → (List Value → xA → Prop) → Prop := fun i st aw k => match xlk ct i with
  | some sp => sp st aw k
  | none => False
theorem xEnt_ok {l : Launch} {d : Nat} {D : va_G} {ad : Nat → Nat} {cy : Nat → ClassId} {own : String} {ct : List (Nat × (List Value → xA → (List Value → xA → Prop) → Prop))} (h : ∀ q ∈ ct, xEnt l d D ad cy own q.1 q.2) {cc : ByteArray} {L : xC} {Fd : Nat → Option (Nat × Nat)} {Cn : Nat → Option Value} : xClOk l d D ad cy own cc L Fd Cn (xCt ct) := by
  intro p e s m args below meth c Q A hA F n q i hq hi lv st aw k hk kk
  unfold xCt at hk
  cases hx : xlk ct i with
  | none => rw [hx] at hk; exact hk.elim
  | some sp =>
    rw [hx] at hk
    exact h _ (xlk_mem ct i sp hx) cc L Fd Cn p e s m args below meth c Q A hA F n q hq hi lv st aw k hk kk
theorem xEnt_S {l : Launch} {d d' n' j : Nat} {D : va_G} {ad : Nat → Nat} {cy : Nat → ClassId} {own : String} {y' : MethodName} {cc' : ByteArray} {ret' : Option FieldType} {sp : List Value → xA → (List Value → xA → Prop) → Prop} (na : Nat)
    (hws : ∀ w ∈ ([.methodLink own j y', .static y', .initialized y'.cls, .code y' cc' n' ret'] : List Cond), w ∈ xG)
    (hd : y'.cls ≠ "java/lang/invoke/MethodHandle" ∧ y'.cls ≠ "java/lang/invoke/VarHandle" ∧ (parseMethodDescriptor y'.desc).map (fun d => d.parameters.length) = some na) (hR : d' + 1 ≤ d ∧ 8 + (n' + 11) + 40 * d' ≤ 40 * d)
    (h : ∀ st aw k, sp st aw k → ∃ (as rest : List Value) (post : List Value → xA → Prop), st = as.reverse ++ rest ∧ as.length = na ∧ xsm rest = true ∧ xMet l y' cc' n' ret' d' D ad cy as aw post ∧ ∀ vs aw', post vs aw' → k (vs ++ rest) aw') : xEnt l d D ad cy own (2 * j + 1) sp := by
  intro cc L Fd Cn p e s m args below meth c Q A hA F n q hq hi lv st aw k hk kk
  obtain ⟨as, rest, post, rfl, hal, hsm, hM, hp⟩ := h st aw k hk
  rcases hi with ⟨j2, h1, h2⟩ | ⟨j2, h1, h2⟩
  · omega
  · have : j2 = j := by omega
    subst this
    exact xcallS F hA hq h1 hM hws (by rw [hal]; exact hd) hR hsm (fun vs aw' h9 => kk _ _ (hp vs aw' h9))
theorem xEnt_V {l : Launch} {d d' n' j : Nat} {D : va_G} {ad : Nat → Nat} {cy : Nat → ClassId} {own : String} {y' : MethodName} {cc' : ByteArray} {ret' : Option FieldType} {sp : List Value → xA → (List Value → xA → Prop) → Prop} (na : Nat)
    (hws : ∀ w ∈ ([.methodLink own j y', .instanceMethod y', .selects y'.cls y' y', .initialized y'.cls, .code y' cc' n' ret'] : List Cond), w ∈ xG)
    (hd : y'.cls ≠ "java/lang/invoke/MethodHandle" ∧ y'.cls ≠ "java/lang/invoke/VarHandle" ∧ (parseMethodDescriptor y'.desc).map (fun d => d.parameters.length) = some na) (hR : d' + 1 ≤ d ∧ 8 + (n' + 11) + 40 * d' ≤ 40 * d)
    (h : ∀ st aw k, sp st aw k → ∃ (as rest : List Value) (post : List Value → xA → Prop) (r ci : Nat) (fs : List Value), st = as.reverse ++ .ref r :: rest ∧ as.length = na ∧ xsm rest = true ∧ xn aw r = some (.inr (ci, fs)) ∧ (∃ z, vwCl[ci]? = some z ∧ z.1 = y'.cls) ∧ xMet l y' cc' n' ret' d' D ad cy (.ref r :: as) aw post ∧ ∀ vs aw', post vs aw' → k (vs ++ rest) aw') : xEnt l d D ad cy own (2 * j) sp := by
  intro cc L Fd Cn p e s m args below meth c Q A hA F n q hq hi lv st aw k hk kk
  obtain ⟨as, rest, post, r, ci, fs, rfl, hal, hsm, hr, hci, hM, hp⟩ := h st aw k hk
  rcases hi with ⟨j2, h1, h2⟩ | ⟨j2, h1, h2⟩
  · have : j2 = j := by omega
    subst this
    exact xcallV F hA hq h1 hM hr hci hws (by rw [hal]; exact hd) hR hsm (fun vs aw' h9 => kk _ _ (hp vs aw' h9))
  · omega
