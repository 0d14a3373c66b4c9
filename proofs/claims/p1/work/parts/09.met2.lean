theorem xent_t1 : xent 3 [.int 5, .ref 0] = [some (.int 5), some (.ref 0), none] := rfl
theorem xent_t2 (x : UInt64) : xent 5 [.ref 0, .double x] = [some (.ref 0), some (.double x), none, none, none] := rfl
theorem xent_len : ∀ (av : List Value) (n : Nat), (lg_sl av).length ≤ n → (xent n av).length = n
  | [], n, _ => by unfold xent; exact List.length_replicate
  | w :: r, n, h => by
    have hs : (lg_sl (w :: r)).length = w.category + (lg_sl r).length := by
      cases w <;> simp [lg_sl, Value.category] <;> omega
    rw [hs] at h
    have two : ∀ u : Value, u.category = 2 → u.category + (lg_sl r).length ≤ n → ∃ n', n = n' + 2 ∧ (xent n' r).length = n' := fun u hc h => by
      obtain ⟨n', rfl⟩ : ∃ n', n = n' + 2 := ⟨n - 2, by omega⟩
      exact ⟨n', rfl, xent_len r n' (by omega)⟩
    have one : ∀ u : Value, u.category = 1 → u.category + (lg_sl r).length ≤ n → ∃ n', n = n' + 1 ∧ (xent n' r).length = n' := fun u hc h => by
      obtain ⟨n', rfl⟩ : ∃ n', n = n' + 1 := ⟨n - 1, by omega⟩
      exact ⟨n', rfl, xent_len r n' (by omega)⟩
    cases w with
    | double x => obtain ⟨n', rfl, h2⟩ := two _ rfl h; unfold xent; simp [h2]
    | long x => obtain ⟨n', rfl, h2⟩ := two _ rfl h; unfold xent; simp [h2]
    | int x => obtain ⟨n', rfl, h2⟩ := one _ rfl h; unfold xent; simp [h2]
    | float x => obtain ⟨n', rfl, h2⟩ := one _ rfl h; unfold xent; simp [h2]
    | null => obtain ⟨n', rfl, h2⟩ := one _ rfl h; unfold xent; simp [h2]
    | ref x => obtain ⟨n', rfl, h2⟩ := one _ rfl h; unfold xent; simp [h2]
    | retAddr x => obtain ⟨n', rfl, h2⟩ := one _ rfl h; unfold xent; simp [h2]
theorem lg_sl_map {ad : Nat → Nat} : ∀ (av : List Value), (lg_sl (av.map (xv ad))).length = (lg_sl av).length
  | [] => rfl
  | w :: r => by
    have h := lg_sl_map (ad := ad) r
    cases w <;> simp [lg_sl, xv, Value.category] at h ⊢ <;> omega
/-- a class's pool: its fields and numbers, as the tables have them -/
def xPool (own : String) (Fd : Nat → Option (Nat × Nat)) (Cn : Nat → Option Value) : Prop :=
  (∀ j ci k, Fd j = some (ci, k) → ∃ (C : String) (T : u_T) (N : Nat), vwCl[ci]? = some (C, T, N) ∧ k < N ∧ Cond.fieldLink own j (T k).1 (T k).2.1 (T k).2.2.1 ∈ xG ∧ (∀ w ∈ u_ws C T N, w ∈ xG) ∧ (∀ k, k < N → parseFieldDescriptor (T k).2.2.1 = some (xtyp ci k)) ∧ (∀ a, a < N → ∀ b, b < N → a ≠ b → (T a).2.1 ≠ (T b).2.1) ∧ xfin ci k = (T k).2.2.2) ∧
  (∀ j x, Cn j = some (.float x) → Cond.constantFloat own j x ∈ xG) ∧ (∀ j x, Cn j = some (.double x) → Cond.constantDouble own j x ∈ xG)
/-- the calls that a method's code may make are such as Cl says -/
def xClOk (l : Launch) (d : Nat) (D : va_G) (ad : Nat → Nat) (cy : Nat → ClassId) (own : String) (cc : ByteArray) (L : xC) (Fd : Nat → Option (Nat × Nat)) (Cn : Nat → Option Value) (Cl : Nat → List Value → xA → (List Value → xA → Prop) → Prop) : Prop :=
  ∀ (p : Program) (e : Env) (s : State) (m : MethodId) (args : Array Value) (below : List Frame) (meth : Method) (c : Code) (Q : State → Prop) (A : Nat → Prop), (∀ q, s.heap.size ≤ q → A q) → xFix p s m args c D cy cc own L Fd Cn →
    ∀ n q i, L[n]? = some q → xinv q.2.1 i → ∀ lv st aw k, Cl i st aw k → (∀ st' aw', k st' aw' → xWc p l e (xRm d) s m args below meth c Q A D ad cy 0 0 (L.drop (n + 1)) lv st' aw') → xWc p l e (xRm d) s m args below meth c Q A D ad cy 0 0 (L.drop n) lv st aw
set_option maxHeartbeats 4000000 in
theorem xmet {l : Launch} {y : MethodName} {cc : ByteArray} {n : Nat} {ret : Option FieldType} {d : Nat} {D : va_G} {ad : Nat → Nat} {cy : Nat → ClassId} {av : List Value} {aw : xA} {post : List Value → xA → Prop} {L : xC} {Fd : Nat → Option (Nat × Nat)} {Cn : Nat → Option Value} {Cl : Nat → List Value → xA → (List Value → xA → Prop) → Prop}
    (hy : plainName y.cls = true) (hE : L.all (xokE cc) = true) (hT : xokT L = true) (hL : ∃ q r, L = q :: r ∧ q.1 = 0) (hPl : xPool y.cls Fd Cn) (hCl : xClOk l d D ad cy y.cls cc L Fd Cn Cl) (hn : (lg_sl av).length ≤ n)
    (body : ∀ WC : xC → xO → List Value → xA → Prop, xSys L Fd Cn Cl (xRt ret post) WC → WC L (xent n av) [] aw) : xMet l y cc n ret d D ad cy av aw post := by
  intro sz
  refine Met.ofW (cc := cc) (maxL := n) (ret := ret) hy rfl ?_
  intro p e s m args below meth c s₁ B hml hv
  obtain ⟨rfl, hsz, hP, hK, hD0, hNs⟩ := hv
  have hx := B.exec
  have hb := B.bytes
  have hr := B.returns
  have hts0 := atoms_spec (ws := xW0 y cc n ret) B.pre
  have hts : ∀ w ∈ xG, w.before (av.map (xv ad)).toArray s = true := fun w h => hts0 w (List.mem_cons_of_mem _ h)
  have hown : s.vm.findClass y.cls = some m.cls := findClass_of_methodNamed B.named
  have hlocks := B.notSynchronized
  subst hsz
  have hD := hD0.self (sz := s.heap.size)
  have hA : ∀ q : Nat, s.heap.size ≤ q → va_A (xw ad cy aw) s.heap.size q := fun q h => Or.inr h
  have hS : va_S (va_A (xw ad cy aw) s.heap.size) s.heap s.heap [] := va_S.rf
  have hl := lv_entry (av.map (xv ad)) (n := n) (by rw [lg_sl_map]; exact hn)
  have F : xFix p s m (av.map (xv ad)).toArray c D cy cc y.cls L Fd Cn := ⟨hx, hb, hts, hown, hK, hE, hT, hPl.1, hPl.2.1, hPl.2.2, hNs⟩
  rw [lg_entry_eq]
  generalize (lg_sl (av.map (xv ad)) ++ List.replicate (n - (lg_sl (av.map (xv ad))).length) Slot.unset).toArray = ls at hl ⊢
  obtain ⟨q0, r0, hL1, hq0⟩ := hL
  have hRt : ∀ n' q lv vs aw', L[n']? = some q → xret q.2.1 vs → xRt ret post vs aw' → xWc p l e (xRm d) s m (av.map (xv ad)).toArray below meth c (MQ below (xQ D ad cy aw s.heap.size post) (av.map (xv ad)).toArray s 0 0 (va_A (xw ad cy aw) s.heap.size)) (va_A (xw ad cy aw) s.heap.size) D ad cy 0 0 (L.drop n') lv vs aw' := by
    intro n' q lv vs aw' hq hv hp
    cases hd : L.drop n' with
    | nil =>
      have h1 : (L.drop n').head? = some q := by rw [List.head?_drop]; exact hq
      rw [hd] at h1
      cases h1
    | cons q' r =>
      have h1 := (xdrop hd).1
      rw [hq] at h1
      cases h1
      intro hml2 H locs ls' hP' hD' hS' hl'
      have hdq := xdec hE hq
      have hN := xlenq hT hq
      obtain ⟨pc, i, len, t⟩ := q
      have end_ : ∀ (vs : List Value), vs.length ≤ 1 → post vs aw' → ∀ t : State, t.heap = H → s.WarmedH t.vm → xQ D ad cy aw s.heap.size post (av.map (xv ad)).toArray s (.returned (vs.map (xv ad)).head?) t := fun vs hvl hpo t ht hW =>
        ⟨⟨vs, aw', rfl, hvl, hpo, by rw [ht]; exact hP', va_K.moved hW.alike hK, hD'⟩, hS'.F ht⟩
      rcases hv with ⟨hi, x, rfl⟩ | ⟨hi, x, rfl⟩ | ⟨hi, x, rfl⟩ | ⟨hi, rfl⟩
      · have hi : i = .ireturn := hi
        subst hi
        have hlen : len = 1 := of_decide_eq_true hN
        subst hlen
        cases ret with
        | none => exact hp.elim
        | some ty =>
          cases ty with
          | int => exact W.iret hx hb hr (end_ [.int x] (Nat.le_refl 1) hp) hS'.2.2 hdq
          | boolean =>
            obtain ⟨b, rfl, hp⟩ := hp
            exact W.zret hx hb hr (by cases b <;> decide +kernel) (end_ [.int (xb b)] (Nat.le_refl 1) hp) hS'.2.2 hdq
          | float => exact hp.elim
          | double => exact hp.elim
          | _ => exact hp.elim
      · have hi : i = .freturn := hi
        subst hi
        have hlen : len = 1 := of_decide_eq_true hN
        subst hlen
        cases ret with
        | none => exact hp.elim
        | some ty =>
          cases ty with
          | float => exact W.fret hx hb hr (end_ [.float x] (Nat.le_refl 1) hp) hS'.2.2 hdq
          | _ => exact hp.elim
      · have hi : i = .dreturn := hi
        subst hi
        have hlen : len = 1 := of_decide_eq_true hN
        subst hlen
        cases ret with
        | none => exact hp.elim
        | some ty =>
          cases ty with
          | double => exact W.dret hx hb hr (end_ [.double x] (Nat.le_refl 1) hp) hS'.2.2 hdq
          | _ => exact hp.elim
      · have hi : i = .return_ := hi
        subst hi
        have hlen : len = 1 := of_decide_eq_true hN
        subst hlen
        cases ret with
        | none => exact W.vret hx hb hr (end_ [] (Nat.zero_le 1) hp) hS'.2.2 hdq
        | some ty => cases ty <;> exact hp.elim
  have hC := hCl p e s m (av.map (xv ad)).toArray below meth c (MQ below (xQ D ad cy aw s.heap.size post) (av.map (xv ad)).toArray s 0 0 (va_A (xw ad cy aw) s.heap.size)) (va_A (xw ad cy aw) s.heap.size) hA F
  have hfin := body _ ⟨fun cu N k lv st aw2 h => xp_ok F hC hRt cu N k lv st aw2 h, fun k lv lv' st aw2 h1 h2 h3 => xforget h1 h2 h3⟩
  rw [hL1] at hfin
  have h9 := hfin (by rw [xent_len av n hn, hml]) s.heap [] ls hP hD hS (by
    rw [xent_len av n hn]
    refine ⟨hl.1, hl.2.1, fun q hq => hl.2.2 q ?_⟩
    exact xent_in av n 0 q (xa_in _ 0 q hq))
  rw [hq0] at h9
  exact h9
