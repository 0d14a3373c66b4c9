/-! contracts of constructors -/
def zRm (d mc ms : Nat) : Room := { frames := d, cells := mc, slots := ms, locals := 40 * d }
def zPc (D : va_G) (cy : Nat → ClassId) (a0 : Nat) (av : List Value) (e0 : va_E) (sz : Nat) : Array Value → State → Prop := va_Pc (.ref a0 :: av) (fun U => U.heap.size = sz ∧ va_P D vwCl [(a0, e0)] U.heap ∧ va_K D vwCl (xty cy) U ∧ va_D (fun _ => True) [(a0, e0)] ∧ xNs U)
def zQc (D : va_G) (cy : Nat → ClassId) (a0 : Nat) (e0 : va_E) (awo : xA) (sz : Nat) : Array Value → State → Outcome → State → Prop := fun _ st oc t =>
  (oc = .returned none ∧ ∃ ad' : Nat → Nat, ad' 0 = a0 ∧ va_P D vwCl (xw ad' cy awo) t.heap ∧ va_K D vwCl (xty cy) t ∧ va_D (va_A [(a0, e0)] sz) (xw ad' cy awo)) ∧ va_F (va_A [(a0, e0)] sz) st t
/-- the constructor y makes of e0 the things awo -/
def zMet (l : Launch) (y : MethodName) (cc : ByteArray) (n d mc ms : Nat) (D : va_G) (cy : Nat → ClassId) (av : List Value) (e0 : va_E) (awo : xA) : Prop :=
  ∀ a0 sz : Nat, Met l y (xW0 y cc n none) (zRm d mc ms) (zPc D cy a0 av e0 sz) (zQc D cy a0 e0 awo sz) mc ms (va_A [(a0, e0)] sz)
def zCkOk (l : Launch) (R : Room) (D : va_G) (cy : Nat → ClassId) (own : String) (cc : ByteArray) (L : xC) (Fd : Nat → Option (Nat × Nat)) (Cn : Nat → Option Value) (Ck : Nat → xO → List Value → xA → Nat → Nat → (Nat → Nat → List Value → xA → Prop) → Prop) : Prop :=
  ∀ (p : Program) (e : Env) (s : State) (m : MethodId) (args : Array Value) (below : List Frame) (meth : Method) (c : Code) (Q : State → Prop) (A : Nat → Prop) (a0 : Nat), (∀ q, s.heap.size ≤ q → A q) → xFix p s m args c D cy cc own L Fd Cn →
    ∀ n q j, L[n]? = some q → q.2.1 = .invokespecial j → q.2.2.1 = 3 → ∀ lv st aw c9 s9 k, Ck j lv st aw c9 s9 k → (∀ c' s' st' aw', k c' s' st' aw' → zWc p l e R s m args below meth c Q A D cy a0 c' s' (L.drop (n + 1)) lv st' aw') → zWc p l e R s m args below meth c Q A D cy a0 c9 s9 (L.drop n) lv st aw
def zEnt (l : Launch) (R : Room) (D : va_G) (cy : Nat → ClassId) (own : String) (j : Nat) (sp : xO → List Value → xA → Nat → Nat → (Nat → Nat → List Value → xA → Prop) → Prop) : Prop :=
  ∀ (cc : ByteArray) (L : xC) (Fd : Nat → Option (Nat × Nat)) (Cn : Nat → Option Value) (p : Program) (e : Env) (s : State) (m : MethodId) (args : Array Value) (below : List Frame) (meth : Method) (c : Code) (Q : State → Prop) (A : Nat → Prop) (a0 : Nat), (∀ q, s.heap.size ≤ q → A q) → xFix p s m args c D cy cc own L Fd Cn →
    ∀ n q, L[n]? = some q → q.2.1 = .invokespecial j → q.2.2.1 = 3 → ∀ lv st aw c9 s9 k, sp lv st aw c9 s9 k → (∀ c' s' st' aw', k c' s' st' aw' → zWc p l e R s m args below meth c Q A D cy a0 c' s' (L.drop (n + 1)) lv st' aw') → zWc p l e R s m args below meth c Q A D cy a0 c9 s9 (L.drop n) lv st aw
def zCt (ct : List (Nat × (xO → List Value → xA → Nat → Nat → (Nat → Nat → List Value → xA → Prop) → Prop))) : Nat → xO → List Value → xA → Nat → Nat → (Nat → Nat → List Value → xA → Prop) → Prop := fun i lv st aw c9 s9 k => match xlk ct i with
  | some sp => sp lv st aw c9 s9 k
  | none => False
theorem zEnt_ok {l : Launch} {R : Room} {D : va_G} {cy : Nat → ClassId} {own : String} {ct : List (Nat × (xO → List Value → xA → Nat → Nat → (Nat → Nat → List Value → xA → Prop) → Prop))} (h : ∀ q ∈ ct, zEnt l R D cy own q.1 q.2) {cc : ByteArray} {L : xC} {Fd : Nat → Option (Nat × Nat)} {Cn : Nat → Option Value} : zCkOk l R D cy own cc L Fd Cn (zCt ct) := by
  intro p e s m args below meth c Q A a0 hA F n q j hq hi hi3 lv st aw c9 s9 k hk kk
  unfold zCt at hk
  cases hx : xlk ct j with
  | none => rw [hx] at hk; exact hk.elim
  | some sp =>
    rw [hx] at hk
    exact h _ (xlk_mem ct j sp hx) cc L Fd Cn p e s m args below meth c Q A a0 hA F n q hq hi hi3 lv st aw c9 s9 k hk kk
def z_obj (_ : xO) (st : List Value) (aw : xA) (c9 s9 : Nat) (k : Nat → Nat → List Value → xA → Prop) : Prop := match st with
  | .ref _ :: st => match xsm st with
    | true => k c9 s9 st aw
    | false => False
  | _ => False
theorem ze_obj {l : Launch} {R : Room} {D : va_G} {cy : Nat → ClassId} {own : String} {j : Nat} (hws : ∀ w ∈ ([.methodLink own j Lib.objectInit, .instanceMethod Lib.objectInit, .code Lib.objectInit ⟨#[0xb1]⟩ 1 none] : List Cond), w ∈ xG) (hR : 1 ≤ R.frames ∧ 20 ≤ R.locals) : zEnt l R D cy own j z_obj := by
  intro cc L Fd Cn p e s m args below meth c Q A a0 hA F n q hq hi hi3 lv st aw c9 s9 k hk kk
  obtain ⟨hx, hb, hts, hown, hK, hE, hT, -, -, -, -⟩ := id F
  match st, hk with
  | .ref a :: st, hk =>
    cases hsm : xsm st with
    | false => simp only [z_obj, hsm] at hk
    | true =>
      simp only [z_obj, hsm] at hk
      have next := kk _ _ _ _ hk
      refine lhead hq (fun r9 hdr => ?_)
      have hdq := xdec hE hq
      rw [hdr]
      intro ad h0 hml H locs ls hP hD hS hl
      obtain ⟨pc, i, len, t⟩ := q
      have hi : i = .invokespecial j := hi
      subst hi
      have hlen : len = 3 := hi3
      subst hlen
      refine W.objInit (g := F0 m pc ls ((Value.ref a :: st).map (xv ad))) (a := ad a) (rest := st.map (xv ad)) hx hb hown (hts _ (hws _ (by simp))) (hts _ (hws _ (by simp))) (hts _ (hws _ (by simp))) rfl (by rw [← hml]; exact hl.1) rfl hdq hR.1 (by
        have h9 := xsm_ok (ad := ad) hsm
        show 2 * 0 + _ + 12 ≤ _
        omega) ?_
      have h1 := next ad h0
      cases hdr2 : L.drop (n + 1) with
      | nil => rw [hdr2] at h1; exact h1.elim
      | cons q2 r2 =>
        rw [hdr2] at h1
        have h3 := h1 hml H locs ls hP hD hS hl
        rw [xnext hT hq hdr2] at h3
        exact h3
