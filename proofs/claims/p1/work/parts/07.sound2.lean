/-! the symbolic step is sound: a row of the kit for each instruction -/
def xpc (cs : xC) : Nat := match cs with
  | [] => 0
  | q :: _ => q.1
def xokC : xC → Bool
  | [] => true
  | q :: r => match r with
    | [] => true
    | q' :: _ => decide (q'.1 = q.1 + q.2.2.1) && xokC r
def xokB (L : xC) (q : xI) : Bool := match q.2.1 with
  | .goto off => decide ((q.1 : Int) + off = (xpc (L.drop q.2.2.2) : Int))
  | .ifCond _ off => decide ((q.1 : Int) + off = (xpc (L.drop q.2.2.2) : Int))
  | .if_icmp _ off => decide ((q.1 : Int) + off = (xpc (L.drop q.2.2.2) : Int))
  | .tableswitch dflt lo hi offs => decide (0 ≤ (q.1 : Int) + dflt) && (offs.toList.all (fun o => decide (0 ≤ (q.1 : Int) + o)) && decide (hi - lo < (offs.toList.length : Int)))
  | _ => true
def xlen (i : Instr) : Option Nat := match i with
  | .iconst _ => some 1
  | .lconst _ => some 1
  | .fconst _ => some 1
  | .dconst _ => some 1
  | .iload_n _ => some 1
  | .fload_n _ => some 1
  | .dload_n _ => some 1
  | .aload_n _ => some 1
  | .istore_n _ => some 1
  | .fstore_n _ => some 1
  | .dstore_n _ => some 1
  | .astore_n _ => some 1
  | .iadd => some 1
  | .isub => some 1
  | .imul => some 1
  | .iand => some 1
  | .ishl => some 1
  | .idiv => some 1
  | .irem => some 1
  | .dup => some 1
  | .dup2 => some 1
  | .fadd => some 1
  | .fsub => some 1
  | .fmul => some 1
  | .fdiv => some 1
  | .dadd => some 1
  | .dsub => some 1
  | .dmul => some 1
  | .ddiv => some 1
  | .fneg => some 1
  | .dneg => some 1
  | .i2l => some 1
  | .i2f => some 1
  | .i2d => some 1
  | .f2i => some 1
  | .d2i => some 1
  | .f2d => some 1
  | .d2f => some 1
  | .fcmp _ => some 1
  | .dcmp _ => some 1
  | .iaload => some 1
  | .baload => some 1
  | .faload => some 1
  | .daload => some 1
  | .iastore => some 1
  | .bastore => some 1
  | .fastore => some 1
  | .dastore => some 1
  | .ireturn => some 1
  | .freturn => some 1
  | .dreturn => some 1
  | .return_ => some 1
  | .bipush _ => some 2
  | .iload _ => some 2
  | .fload _ => some 2
  | .dload _ => some 2
  | .aload _ => some 2
  | .istore _ => some 2
  | .fstore _ => some 2
  | .dstore _ => some 2
  | .astore _ => some 2
  | .ldc _ => some 2
  | .sipush _ => some 3
  | .ldc2_w _ => some 3
  | .iinc _ _ => some 3
  | .goto _ => some 3
  | .ifCond _ _ => some 3
  | .if_icmp _ _ => some 3
  | .getfield _ => some 3
  | .putfield _ => some 3
  | .invokevirtual _ => some 3
  | .invokestatic _ => some 3
  | _ => none
def xokN (q : xI) : Bool := match xlen q.2.1 with
  | some k => decide (q.2.2.1 = k)
  | none => true
def xokT (L : xC) : Bool := xokC L && L.all (fun q => xokB L q && xokN q)
theorem xokC_at : ∀ (L : xC) (n : Nat) (q q' : xI), xokC L = true → L[n]? = some q → L[n + 1]? = some q' → q'.1 = q.1 + q.2.2.1
  | [], n, q, q', _, h, _ => by simp at h
  | [a], n, q, q', _, h, h' => by simp at h'
  | a :: b :: r, 0, q, q', hc, h, h' => by
    have h : some a = some q := h
    have h' : some b = some q' := h'
    cases h; cases h'
    have hc : (decide (b.1 = a.1 + a.2.2.1) && xokC (b :: r)) = true := hc
    rw [Bool.and_eq_true, decide_eq_true_eq] at hc
    exact hc.1
  | a :: b :: r, n + 1, q, q', hc, h, h' => by
    have hc : (decide (b.1 = a.1 + a.2.2.1) && xokC (b :: r)) = true := hc
    rw [Bool.and_eq_true] at hc
    exact xokC_at (b :: r) n q q' hc.2 h h'
/-- the run stands at the code cs, with the locals lv, the stack st, the world aw -/
def xWc (p : Program) (l : Launch) (e : Env) (R : Room) (s : State) (m : MethodId) (args : Array Value) (below : List Frame) (meth : Method) (c : Code) (Q : State → Prop) (A : Nat → Prop) (D : va_G) (ad : Nat → Nat) (cy : Nat → ClassId) (cells slots : Nat) (cs : xC) (lv : xO) (st : List Value) (aw : xA) : Prop := match cs with
  | [] => False
  | q :: _ => lv.length = c.maxLocals → ∀ (H : Heap) (locs : List Loc) (ls : Array Slot), va_P D vwCl (xw ad cy aw) H → va_D A (xw ad cy aw) → va_S A s.heap H locs → lv_has ls lv.length (xa ad lv) → W p l e R s m args below meth c H locs cells slots Q (F0 m q.1 ls (st.map (xv ad)))
/-- links of nest mates; they hold wherever the machine stands -/
def xNl : List (String × Nat × MethodName × String) := [(RX4, 9, yX3_init, RX4), (RX4, 39, yX2_init, RX4), (RX4, 46, yX1_init, RX4), (RX3, 57, yX4_isCell, RX4), (RX3, 61, yX4_cellIndex, RX4), (RX0, 43, yX4_faceIndex, RX4), (RX2, 41, yX4_cellIndex, RX4), (RX2, 37, yX4_isCell, RX4), (RX2, 66, yX4_faceIndex, RX4)]
def xNs (U : State) : Prop := ∀ q ∈ xNl, va_Nw (.methodLinkNest q.1 q.2.1 q.2.2.1 q.2.2.2) U
theorem xNs.warm {s U : State} (hW : s.WarmedH U.vm) (h : xNs s) : xNs U := fun q hq => va_Nw.warmM hW (h q hq)
theorem xNs.same {u U : State} (h : u.vm = U.vm) (hN : xNs u) : xNs U := fun q hq => va_Nw.same rfl h (hN q hq)
/-- what a method's code and its class's pool must be -/
def xFix (p : Program) (s : State) (m : MethodId) (args : Array Value) (c : Code) (D : va_G) (cy : Nat → ClassId) (cc : ByteArray) (own : String) (L : xC) (Fd : Nat → Option (Nat × Nat)) (Cn : Nat → Option Value) : Prop :=
  p.tables.exec = Jvm.exec ∧ c.code = cc ∧ (∀ w ∈ xG, w.before args s = true) ∧ s.vm.findClass own = some m.cls ∧ va_K D vwCl (xty cy) s ∧ L.all (xokE cc) = true ∧ xokT L = true ∧
  (∀ j ci k, Fd j = some (ci, k) → ∃ (C : String) (T : u_T) (N : Nat), vwCl[ci]? = some (C, T, N) ∧ k < N ∧ Cond.fieldLink own j (T k).1 (T k).2.1 (T k).2.2.1 ∈ xG ∧ (∀ w ∈ u_ws C T N, w ∈ xG) ∧ (∀ k, k < N → parseFieldDescriptor (T k).2.2.1 = some (xtyp ci k)) ∧ (∀ a, a < N → ∀ b, b < N → a ≠ b → (T a).2.1 ≠ (T b).2.1) ∧ xfin ci k = (T k).2.2.2) ∧
  (∀ j x, Cn j = some (.float x) → Cond.constantFloat own j x ∈ xG) ∧ (∀ j x, Cn j = some (.double x) → Cond.constantDouble own j x ∈ xG) ∧ xNs s
def xret (i : Instr) (vs : List Value) : Prop := (i = .ireturn ∧ ∃ x, vs = [.int x]) ∨ (i = .freturn ∧ ∃ x, vs = [.float x]) ∨ (i = .dreturn ∧ ∃ x, vs = [.double x]) ∨ (i = .return_ ∧ vs = [])
theorem xput_ok {v : Value} {ty : FieldType} {fin : Bool} (h : xput v ty fin = true) : fin = false ∧ narrow ty v = v ∧ fits ty v = true := by
  cases fin with
  | true => cases h
  | false => cases v <;> cases ty <;> first | (cases h; done) | exact ⟨rfl, rfl, rfl⟩
theorem xput_v {ad : Nat → Nat} {v : Value} {ty : FieldType} {fin : Bool} (h : narrow ty v = v) (h2 : xput v ty fin = true) : narrow ty (xv ad v) = xv ad v := by
  cases fin with
  | true => cases h2
  | false => cases v <;> first | exact h | cases h2
theorem xput_f {ad : Nat → Nat} {v : Value} {ty : FieldType} {fin : Bool} (h : fits ty v = true) (h2 : xput v ty fin = true) : fits ty (xv ad v) = true := by
  cases fin with
  | true => cases h2
  | false => cases v <;> first | exact h | cases h2
theorem xb_nar (b : Bool) : vp_nar .boolean (xb b) = xb b := by cases b <;> decide +kernel
theorem xaD_eq {o : Option va_E} {n : Nat} {f : Nat → UInt64} (h : xaD o = some (n, f)) : o = some (.inl (0, n, .inr (.inr (.inr (.inl f))))) := by
  unfold xaD at h
  split at h
  · cases h; rfl
  · cases h
theorem xaF_eq {o : Option va_E} {n : Nat} {f : Nat → UInt32} (h : xaF o = some (n, f)) : o = some (.inl (1, n, .inr (.inr (.inl f)))) := by
  unfold xaF at h
  split at h
  · cases h; rfl
  · cases h
theorem xaI_eq {o : Option va_E} {n : Nat} {f : Nat → Int32} (h : xaI o = some (n, f)) : o = some (.inl (2, n, .inl f)) := by
  unfold xaI at h
  split at h
  · cases h; rfl
  · cases h
theorem xaZ_eq {o : Option va_E} {n : Nat} {f : Nat → Int32} (h : xaZ o = some (n, f)) : o = some (.inl (3, n, .inl f)) := by
  unfold xaZ at h
  split at h
  · cases h; rfl
  · cases h
theorem xsw_at {x : Int32} {f : Int → Prop} : ∀ (os : List Int) (k0 : Int), xsw x f os k0 → ∀ (j : Nat) (o : Int), os[j]? = some o → x.toInt = k0 + j → f o
  | [], k0, h, j, o, ho, _ => by simp at ho
  | a :: r, k0, h, 0, o, ho, hx => by
    have ho : some a = some o := ho
    cases ho
    exact h.1 (by omega)
  | a :: r, k0, h, j + 1, o, ho, hx => by
    rw [List.getElem?_cons_succ] at ho
    exact xsw_at r (k0 + 1) h.2 j o ho (by omega)
/-- a call's number: twice the pool's, and one more if it is static -/
def xinv (i : Instr) (k : Nat) : Prop := (∃ j, i = .invokevirtual j ∧ k = 2 * j) ∨ (∃ j, i = .invokestatic j ∧ k = 2 * j + 1)
theorem xbi0 : ∀ n : Fin 128, (Int8.ofInt (Int.ofNat n.val)).toInt32 = nI n.val := by decide +kernel
theorem xbi (n : Nat) (h : n < 128) : (Int8.ofInt (Int.ofNat n)).toInt32 = nI n := xbi0 ⟨n, h⟩
section XS
variable {p : Program} {l : Launch} {e : Env} {R : Room} {s : State} {m : MethodId} {args : Array Value} {below : List Frame} {meth : Method} {c : Code} {Q : State → Prop} {A : Nat → Prop} {D : va_G} {ad : Nat → Nat} {cy : Nat → ClassId} {cells slots : Nat}
theorem xdec {cc : ByteArray} {L : xC} (h : L.all (xokE cc) = true) {n : Nat} {q : xI} (hq : L[n]? = some q) : decode cc q.1 = .ok (q.2.1, q.2.2.1) := by
  have h1 := List.all_eq_true.mp h q (List.mem_of_getElem? hq)
  unfold xokE at h1
  cases hd : decode cc q.1 with
  | error z => rw [hd] at h1; cases h1
  | ok z =>
    obtain ⟨i, n⟩ := z
    rw [hd] at h1
    simp only [Bool.and_eq_true, decide_eq_true_eq] at h1
    rw [h1.1, h1.2]
theorem xdrop {L : xC} {n : Nat} {q : xI} {cs : xC} (h : L.drop n = q :: cs) : L[n]? = some q ∧ L.drop (n + 1) = cs := by
  constructor
  · rw [← List.head?_drop, h]; rfl
  · rw [← List.drop_drop, h]; rfl
theorem xnext {L : xC} (hT : xokT L = true) {n : Nat} {q q' : xI} {cs : xC} (h : L[n]? = some q) (h' : L.drop (n + 1) = q' :: cs) : q'.1 = q.1 + q.2.2.1 := by
  have h1 : xokC L = true := by
    unfold xokT at hT
    rw [Bool.and_eq_true] at hT
    exact hT.1
  exact xokC_at L n q q' h1 h (xdrop h').1
theorem xjump {L : xC} (hT : xokT L = true) {n : Nat} {q : xI} (h : L[n]? = some q) : xokB L q = true := by
  unfold xokT at hT
  rw [Bool.and_eq_true] at hT
  have h1 := List.all_eq_true.mp hT.2 q (List.mem_of_getElem? h)
  rw [Bool.and_eq_true] at h1
  exact h1.1
theorem xlenq {L : xC} (hT : xokT L = true) {n : Nat} {q : xI} (h : L[n]? = some q) : xokN q = true := by
  unfold xokT at hT
  rw [Bool.and_eq_true] at hT
  have h1 := List.all_eq_true.mp hT.2 q (List.mem_of_getElem? h)
  rw [Bool.and_eq_true] at h1
  exact h1.2
theorem xat_drop : ∀ (L : xC) (a : Nat), ∃ n, xat L a = L.drop n ∧ ∀ q r, xat L a = q :: r → q.1 = a
  | [], a => ⟨0, rfl, fun q r h => by cases h⟩
  | q :: r, a => by
    cases hb : Nat.beq q.1 a with
    | true =>
      have he : xat (q :: r) a = q :: r := by unfold xat; rw [hb]
      rw [he]
      exact ⟨0, rfl, fun q' r' h => by cases h; exact Nat.eq_of_beq_eq_true hb⟩
    | false =>
      obtain ⟨n, h1, h2⟩ := xat_drop r a
      have he : xat (q :: r) a = xat r a := by rw [xat, hb]
      rw [he]
      exact ⟨n + 1, h1, h2⟩

set_option maxHeartbeats 4000000 in
theorem xstep_ok {cc : ByteArray} {own : String} {L : xC} {Fd : Nat → Option (Nat × Nat)} {Cn : Nat → Option Value} {Cl : Nat → List Value → xA → (List Value → xA → Prop) → Prop} {Rt : List Value → xA → Prop} {go : xC → xO → List Value → xA → Prop} (F : xFix p s m args c D cy cc own L Fd Cn)
    (hCl : ∀ n q i, L[n]? = some q → xinv q.2.1 i → ∀ lv st aw k, Cl i st aw k → (∀ st' aw', k st' aw' → xWc p l e R s m args below meth c Q A D ad cy cells slots (L.drop (n + 1)) lv st' aw') → xWc p l e R s m args below meth c Q A D ad cy cells slots (L.drop n) lv st aw)
    (hRt : ∀ n q lv vs aw, L[n]? = some q → xret q.2.1 vs → Rt vs aw → xWc p l e R s m args below meth c Q A D ad cy cells slots (L.drop n) lv vs aw)
    (n : Nat) (lv : xO) (st : List Value) (aw : xA) (h : xstep L Fd Cn Cl Rt go (L.drop n) lv st aw)
    (hgo : ∀ n' lv' st' aw', lv'.length = lv.length → go (L.drop n') lv' st' aw' → xWc p l e R s m args below meth c Q A D ad cy cells slots (L.drop n') lv' st' aw') : xWc p l e R s m args below meth c Q A D ad cy cells slots (L.drop n) lv st aw := by
  obtain ⟨hx, hb, hts, hown, hK, hE, hT, hFd, hCf, hCd, -⟩ := F
  cases hcs : L.drop n with
  | nil => rw [hcs] at h; exact h.elim
  | cons q cs =>
  obtain ⟨hq, hcs'⟩ := xdrop hcs
  have hd := xdec hE hq
  have hn : ∀ {lv' : xO} {st' : List Value} {aw' : xA}, lv'.length = lv.length → go cs lv' st' aw' → ∀ (_ : lv.length = c.maxLocals) (H : Heap) (locs : List Loc) (ls : Array Slot), va_P D vwCl (xw ad cy aw') H → va_D A (xw ad cy aw') → va_S A s.heap H locs → lv_has ls lv.length (xa ad lv') → W p l e R s m args below meth c H locs cells slots Q (F0 m (q.1 + q.2.2.1) ls (st'.map (xv ad))) := by
    intro lv' st' aw' hle hg hml H locs ls hP hD hS hl
    have h1 := hgo (n + 1) lv' st' aw' hle (by rw [hcs']; exact hg)
    rw [hcs'] at h1
    cases hcs2 : cs with
    | nil => rw [hcs2] at h1; exact h1.elim
    | cons q' r =>
      rw [hcs2] at h1
      have h2 := xnext hT hq (hcs'.trans hcs2)
      have h3 := h1 (hle.trans hml) H locs ls hP hD hS (by rw [hle]; exact hl)
      rw [h2] at h3
      exact h3
  have hj : ∀ {st' : List Value} {aw' : xA} {off : Int}, (xokB L q = true → (q.1 : Int) + off = (xpc (L.drop q.2.2.2) : Int)) → go (L.drop q.2.2.2) lv st' aw' → ∀ (_ : lv.length = c.maxLocals) (H : Heap) (locs : List Loc) (ls : Array Slot), va_P D vwCl (xw ad cy aw') H → va_D A (xw ad cy aw') → va_S A s.heap H locs → lv_has ls lv.length (xa ad lv) → W p l e R s m args below meth c H locs cells slots Q (F0 m (xpc (L.drop q.2.2.2)) ls (st'.map (xv ad))) := by
    intro st' aw' off _ hg hml H locs ls hP hD hS hl
    have h1 := hgo q.2.2.2 lv st' aw' rfl hg
    cases hcs2 : L.drop q.2.2.2 with
    | nil => rw [hcs2] at h1; exact h1.elim
    | cons q' r =>
      rw [hcs2] at h1
      exact h1 hml H locs ls hP hD hS hl
  have hjb := xjump hT hq
  have hN := xlenq hT hq
  rw [hcs] at h
  obtain ⟨pc, i, len, t⟩ := q
  intro hml H locs ls hP hD hS hl
  dsimp only at hd hn hj ⊢
  cases i with
  | iconst k =>
    have hlen : len = 1 := of_decide_eq_true hN
    subst hlen
    cases k with
    | ofNat n9 => exact lv_iconst hx hb hd rfl (hn rfl h hml H locs ls hP hD hS hl)
    | negSucc n9 => match n9, hd, h with
      | 0, hd, h => exact lv_iconst hx hb hd rfl (hn rfl h hml H locs ls hP hD hS hl)
  | bipush k =>
    have hlen : len = 2 := of_decide_eq_true hN
    subst hlen
    cases k with
    | ofNat n9 =>
      cases hb9 : Nat.blt n9 128 with
      | true =>
        simp only [xstep, hb9] at h
        exact lv_bipush hx hb hd (xbi n9 (Nat.le_of_ble_eq_true hb9)) (hn rfl h hml H locs ls hP hD hS hl)
      | false => simp only [xstep, hb9] at h
    | negSucc n9 => exact h.elim
  | sipush k =>
    have hlen : len = 3 := of_decide_eq_true hN
    subst hlen
    exact lv_sipush hx hb hd rfl (hn rfl h hml H locs ls hP hD hS hl)
  | lconst k =>
    have hlen : len = 1 := of_decide_eq_true hN
    subst hlen
    exact lv_lconst hx hb hd rfl (hn rfl h hml H locs ls hP hD hS hl)
  | fconst k =>
    have hlen : len = 1 := of_decide_eq_true hN
    subst hlen
    match k, hd, h with
    | 0, hd, h => exact lv_fconst0 hx hb hd (hn rfl h hml H locs ls hP hD hS hl)
    | 1, hd, h => exact lv_fconst1 hx hb hd (hn rfl h hml H locs ls hP hD hS hl)
    | 2, hd, h => exact lv_fconst2 hx hb hd (hn rfl h hml H locs ls hP hD hS hl)
  | dconst k =>
    have hlen : len = 1 := of_decide_eq_true hN
    subst hlen
    match k, hd, h with
    | 0, hd, h => exact lv_dconst0 hx hb hd (hn rfl h hml H locs ls hP hD hS hl)
    | 1, hd, h => exact lv_dconst1 hx hb hd (hn rfl h hml H locs ls hP hD hS hl)
  | ldc j =>
    have hlen : len = 2 := of_decide_eq_true hN
    subst hlen
    cases hc : Cn j with
    | none => simp only [xstep, hc] at h
    | some v =>
      simp only [xstep, hc] at h
      cases v with
      | float x => exact lv_ldcf hx hb hown (hts _ (hCf j x hc)) hd (hn rfl h hml H locs ls hP hD hS hl)
      | _ => exact h.elim
  | ldc2_w j =>
    have hlen : len = 3 := of_decide_eq_true hN
    subst hlen
    cases hc : Cn j with
    | none => simp only [xstep, hc] at h
    | some v =>
      simp only [xstep, hc] at h
      cases v with
      | double x => exact lv_ldc2d hx hb hown (hts _ (hCd j x hc)) hd (hn rfl h hml H locs ls hP hD hS hl)
      | _ => exact h.elim
  | iload_n k =>
    have hlen : len = 1 := of_decide_eq_true hN
    subst hlen
    cases hg : xg lv k.val with
    | none => simp only [xstep, hg] at h
    | some v =>
      simp only [xstep, hg] at h
      cases v with
      | int x => exact lv_iload_n hx hb hd rfl (xa_at hl hg) (hn rfl h hml H locs ls hP hD hS hl)
      | _ => exact h.elim
  | iload k =>
    have hlen : len = 2 := of_decide_eq_true hN
    subst hlen
    cases hg : xg lv k with
    | none => simp only [xstep, hg] at h
    | some v =>
      simp only [xstep, hg] at h
      cases v with
      | int x => exact lv_iload hx hb hd (xa_at hl hg) (hn rfl h hml H locs ls hP hD hS hl)
      | _ => exact h.elim
  | fload_n k =>
    have hlen : len = 1 := of_decide_eq_true hN
    subst hlen
    cases hg : xg lv k.val with
    | none => simp only [xstep, hg] at h
    | some v =>
      simp only [xstep, hg] at h
      cases v with
      | float x => exact lv_fload_n hx hb hd rfl (xa_at hl hg) (hn rfl h hml H locs ls hP hD hS hl)
      | _ => exact h.elim
  | fload k =>
    have hlen : len = 2 := of_decide_eq_true hN
    subst hlen
    cases hg : xg lv k with
    | none => simp only [xstep, hg] at h
    | some v =>
      simp only [xstep, hg] at h
      cases v with
      | float x => exact lv_fload hx hb hd (xa_at hl hg) (hn rfl h hml H locs ls hP hD hS hl)
      | _ => exact h.elim
  | dload_n k =>
    have hlen : len = 1 := of_decide_eq_true hN
    subst hlen
    cases hg : xg lv k.val with
    | none => simp only [xstep, hg] at h
    | some v =>
      simp only [xstep, hg] at h
      cases v with
      | double x => exact lv_dload_n hx hb hd rfl (xa_at hl hg) (hn rfl h hml H locs ls hP hD hS hl)
      | _ => exact h.elim
  | dload k =>
    have hlen : len = 2 := of_decide_eq_true hN
    subst hlen
    cases hg : xg lv k with
    | none => simp only [xstep, hg] at h
    | some v =>
      simp only [xstep, hg] at h
      cases v with
      | double x => exact lv_dload hx hb hd (xa_at hl hg) (hn rfl h hml H locs ls hP hD hS hl)
      | _ => exact h.elim
  | aload_n k =>
    have hlen : len = 1 := of_decide_eq_true hN
    subst hlen
    cases hg : xg lv k.val with
    | none => simp only [xstep, hg] at h
    | some v =>
      simp only [xstep, hg] at h
      cases v with
      | ref x => exact lv_aload_n hx hb hd rfl (xa_at hl hg) (hn rfl h hml H locs ls hP hD hS hl)
      | _ => exact h.elim
  | aload k =>
    have hlen : len = 2 := of_decide_eq_true hN
    subst hlen
    cases hg : xg lv k with
    | none => simp only [xstep, hg] at h
    | some v =>
      simp only [xstep, hg] at h
      cases v with
      | ref x => exact lv_aload hx hb hd (xa_at hl hg) (hn rfl h hml H locs ls hP hD hS hl)
      | _ => exact h.elim
  | istore_n k =>
    have hlen : len = 1 := of_decide_eq_true hN
    subst hlen
    match st, h with
    | .int x :: st, h =>
      cases hs : xs1 lv k.val (.int x) with
      | none => simp only [xstep, hs] at h
      | some lv' =>
        simp only [xstep, hs] at h
        have hz := xs1_g _ _ _ _ hs
        exact lv_istore_n hx hb hd rfl hl hz.1 rfl (fun ls' hl' => hn hz.2.1 h hml H locs ls' hP hD hS (xa_st1 hs hl'))
  | istore k =>
    have hlen : len = 2 := of_decide_eq_true hN
    subst hlen
    match st, h with
    | .int x :: st, h =>
      cases hs : xs1 lv k (.int x) with
      | none => simp only [xstep, hs] at h
      | some lv' =>
        simp only [xstep, hs] at h
        have hz := xs1_g _ _ _ _ hs
        exact lv_istore hx hb hd hl hz.1 rfl (fun ls' hl' => hn hz.2.1 h hml H locs ls' hP hD hS (xa_st1 hs hl'))
  | fstore_n k =>
    have hlen : len = 1 := of_decide_eq_true hN
    subst hlen
    match st, h with
    | .float x :: st, h =>
      cases hs : xs1 lv k.val (.float x) with
      | none => simp only [xstep, hs] at h
      | some lv' =>
        simp only [xstep, hs] at h
        have hz := xs1_g _ _ _ _ hs
        exact lv_fstore_n hx hb hd rfl hl hz.1 rfl (fun ls' hl' => hn hz.2.1 h hml H locs ls' hP hD hS (xa_st1 hs hl'))
  | fstore k =>
    have hlen : len = 2 := of_decide_eq_true hN
    subst hlen
    match st, h with
    | .float x :: st, h =>
      cases hs : xs1 lv k (.float x) with
      | none => simp only [xstep, hs] at h
      | some lv' =>
        simp only [xstep, hs] at h
        have hz := xs1_g _ _ _ _ hs
        exact lv_fstore hx hb hd hl hz.1 rfl (fun ls' hl' => hn hz.2.1 h hml H locs ls' hP hD hS (xa_st1 hs hl'))
  | astore_n k =>
    have hlen : len = 1 := of_decide_eq_true hN
    subst hlen
    match st, h with
    | .ref x :: st, h =>
      cases hs : xs1 lv k.val (.ref x) with
      | none => simp only [xstep, hs] at h
      | some lv' =>
        simp only [xstep, hs] at h
        have hz := xs1_g _ _ _ _ hs
        exact lv_astore_n hx hb hd rfl hl hz.1 rfl (fun ls' hl' => hn hz.2.1 h hml H locs ls' hP hD hS (xa_st1 hs hl'))
  | astore k =>
    have hlen : len = 2 := of_decide_eq_true hN
    subst hlen
    match st, h with
    | .ref x :: st, h =>
      cases hs : xs1 lv k (.ref x) with
      | none => simp only [xstep, hs] at h
      | some lv' =>
        simp only [xstep, hs] at h
        have hz := xs1_g _ _ _ _ hs
        exact lv_astore hx hb hd hl hz.1 rfl (fun ls' hl' => hn hz.2.1 h hml H locs ls' hP hD hS (xa_st1 hs hl'))
  | dstore_n k =>
    have hlen : len = 1 := of_decide_eq_true hN
    subst hlen
    match st, h with
    | .double x :: st, h =>
      cases hs : xs2 lv k.val (.double x) with
      | none => simp only [xstep, hs] at h
      | some lv' =>
        simp only [xstep, hs] at h
        have hz := xs2_g _ _ _ _ hs
        exact lv_dstore_n hx hb hd rfl hl hz.1 rfl (fun ls' hl' => hn hz.2.1 h hml H locs ls' hP hD hS (xa_st2 hs hl'))
  | dstore k =>
    have hlen : len = 2 := of_decide_eq_true hN
    subst hlen
    match st, h with
    | .double x :: st, h =>
      cases hs : xs2 lv k (.double x) with
      | none => simp only [xstep, hs] at h
      | some lv' =>
        simp only [xstep, hs] at h
        have hz := xs2_g _ _ _ _ hs
        exact lv_dstore hx hb hd hl hz.1 rfl (fun ls' hl' => hn hz.2.1 h hml H locs ls' hP hD hS (xa_st2 hs hl'))
  | iinc k n9 =>
    have hlen : len = 3 := of_decide_eq_true hN
    subst hlen
    cases hg : xg lv k with
    | none => simp only [xstep, hg] at h
    | some v =>
      cases v with
      | int x =>
        obtain ⟨kk, hkk⟩ := List.getElem?_of_mem (xmem (ad := ad) hg)
        cases n9 with
        | ofNat n8 =>
          cases hs : xs1 lv k (.int (x + nI n8)) with
          | none => simp only [xstep, hg, hs] at h
          | some lv' =>
            simp only [xstep, hg, hs] at h
            have hz := xs1_g _ _ _ _ hs
            exact lv_iinc hx hb hd hl hkk rfl hz.1 rfl (fun ls' hl' => hn hz.2.1 h hml H locs ls' hP hD hS (xa_st1 hs hl'))
        | negSucc n8 =>
          match n8, hd, h with
          | 0, hd, h =>
            cases hs : xs1 lv k (.int (x + (-1))) with
            | none => simp only [xstep, hg, hs] at h
            | some lv' =>
              simp only [xstep, hg, hs] at h
              have hz := xs1_g _ _ _ _ hs
              exact lv_iinc hx hb hd hl hkk rfl hz.1 rfl (fun ls' hl' => hn hz.2.1 h hml H locs ls' hP hD hS (xa_st1 hs hl'))
          | n7 + 1, hd, h => simp only [xstep, hg] at h
      | _ => simp only [xstep, hg] at h
  | iadd =>
    have hlen : len = 1 := of_decide_eq_true hN
    subst hlen
    match st, h with
    | .int y :: .int x :: st, h => exact lv_iadd hx hb hd (hn rfl h hml H locs ls hP hD hS hl)
  | isub =>
    have hlen : len = 1 := of_decide_eq_true hN
    subst hlen
    match st, h with
    | .int y :: .int x :: st, h => exact lv_isub hx hb hd (hn rfl h hml H locs ls hP hD hS hl)
  | imul =>
    have hlen : len = 1 := of_decide_eq_true hN
    subst hlen
    match st, h with
    | .int y :: .int x :: st, h => exact lv_imul hx hb hd (hn rfl h hml H locs ls hP hD hS hl)
  | iand =>
    have hlen : len = 1 := of_decide_eq_true hN
    subst hlen
    match st, h with
    | .int y :: .int x :: st, h => exact lv_iand hx hb hd (hn rfl h hml H locs ls hP hD hS hl)
  | ishl =>
    have hlen : len = 1 := of_decide_eq_true hN
    subst hlen
    match st, h with
    | .int y :: .int x :: st, h => exact lv_ishl hx hb hd (hn rfl h hml H locs ls hP hD hS hl)
  | idiv =>
    have hlen : len = 1 := of_decide_eq_true hN
    subst hlen
    match st, h with
    | .int y :: .int x :: st, h => exact lv_idiv hx hb hd h.1 (hn rfl h.2 hml H locs ls hP hD hS hl)
  | irem =>
    have hlen : len = 1 := of_decide_eq_true hN
    subst hlen
    match st, h with
    | .int y :: .int x :: st, h => exact lv_irem hx hb hd h.1 (hn rfl h.2 hml H locs ls hP hD hS hl)
  | fadd =>
    have hlen : len = 1 := of_decide_eq_true hN
    subst hlen
    match st, h with
    | .float y :: .float x :: st, h => exact lv_fadd hx hb hd h.1 (hn rfl h.2 hml H locs ls hP hD hS hl)
  | fsub =>
    have hlen : len = 1 := of_decide_eq_true hN
    subst hlen
    match st, h with
    | .float y :: .float x :: st, h => exact lv_fsub hx hb hd h.1 (hn rfl h.2 hml H locs ls hP hD hS hl)
  | fmul =>
    have hlen : len = 1 := of_decide_eq_true hN
    subst hlen
    match st, h with
    | .float y :: .float x :: st, h => exact lv_fmul hx hb hd h.1 (hn rfl h.2 hml H locs ls hP hD hS hl)
  | fdiv =>
    have hlen : len = 1 := of_decide_eq_true hN
    subst hlen
    match st, h with
    | .float y :: .float x :: st, h => exact lv_fdiv hx hb hd h.1 (hn rfl h.2 hml H locs ls hP hD hS hl)
  | dadd =>
    have hlen : len = 1 := of_decide_eq_true hN
    subst hlen
    match st, h with
    | .double y :: .double x :: st, h => exact lv_dadd hx hb hd h.1 (hn rfl h.2 hml H locs ls hP hD hS hl)
  | dsub =>
    have hlen : len = 1 := of_decide_eq_true hN
    subst hlen
    match st, h with
    | .double y :: .double x :: st, h => exact lv_dsub hx hb hd h.1 (hn rfl h.2 hml H locs ls hP hD hS hl)
  | dmul =>
    have hlen : len = 1 := of_decide_eq_true hN
    subst hlen
    match st, h with
    | .double y :: .double x :: st, h => exact lv_dmul hx hb hd h.1 (hn rfl h.2 hml H locs ls hP hD hS hl)
  | ddiv =>
    have hlen : len = 1 := of_decide_eq_true hN
    subst hlen
    match st, h with
    | .double y :: .double x :: st, h => exact lv_ddiv hx hb hd h.1 (hn rfl h.2 hml H locs ls hP hD hS hl)
  | dup =>
    have hlen : len = 1 := of_decide_eq_true hN
    subst hlen
    match st, h with
    | .int x :: st, h => exact lv_dup hx hb hd rfl (hn rfl h hml H locs ls hP hD hS hl)
    | .ref x :: st, h => exact lv_dup hx hb hd rfl (hn rfl h hml H locs ls hP hD hS hl)
  | dup2 =>
    have hlen : len = 1 := of_decide_eq_true hN
    subst hlen
    match st, h with
    | .int x :: .ref y :: st, h => exact lv_dup2_11 hx hb hd rfl rfl (hn rfl h hml H locs ls hP hD hS hl)
  | fneg =>
    have hlen : len = 1 := of_decide_eq_true hN
    subst hlen
    match st, h with
    | .float x :: st, h => exact lv_fneg hx hb hd (hn rfl h hml H locs ls hP hD hS hl)
  | dneg =>
    have hlen : len = 1 := of_decide_eq_true hN
    subst hlen
    match st, h with
    | .double x :: st, h => exact lv_dneg hx hb hd (hn rfl h hml H locs ls hP hD hS hl)
  | i2f =>
    have hlen : len = 1 := of_decide_eq_true hN
    subst hlen
    match st, h with
    | .int x :: st, h => exact lv_i2f hx hb hd (hn rfl h hml H locs ls hP hD hS hl)
  | i2d =>
    have hlen : len = 1 := of_decide_eq_true hN
    subst hlen
    match st, h with
    | .int x :: st, h => exact lv_i2d hx hb hd (hn rfl h hml H locs ls hP hD hS hl)
  | f2i =>
    have hlen : len = 1 := of_decide_eq_true hN
    subst hlen
    match st, h with
    | .float x :: st, h => exact lv_f2i hx hb hd (hn rfl h hml H locs ls hP hD hS hl)
  | d2i =>
    have hlen : len = 1 := of_decide_eq_true hN
    subst hlen
    match st, h with
    | .double x :: st, h => exact lv_d2i hx hb hd (hn rfl h hml H locs ls hP hD hS hl)
  | i2l =>
    have hlen : len = 1 := of_decide_eq_true hN
    subst hlen
    match st, h with
    | .int x :: st, h => exact lv_i2l hx hb hd rfl (hn rfl h hml H locs ls hP hD hS hl)
  | f2d =>
    have hlen : len = 1 := of_decide_eq_true hN
    subst hlen
    match st, h with
    | .float x :: st, h => exact lv_f2d hx hb hd h.1 (hn rfl h.2 hml H locs ls hP hD hS hl)
  | d2f =>
    have hlen : len = 1 := of_decide_eq_true hN
    subst hlen
    match st, h with
    | .double x :: st, h => exact lv_d2f hx hb hd h.1 (hn rfl h.2 hml H locs ls hP hD hS hl)
  | fcmp o =>
    have hlen : len = 1 := of_decide_eq_true hN
    subst hlen
    match st, h with
    | .float y :: .float x :: st, h => exact lv_fcmp hx hb hd (hn rfl h hml H locs ls hP hD hS hl)
  | dcmp o =>
    have hlen : len = 1 := of_decide_eq_true hN
    subst hlen
    match st, h with
    | .double y :: .double x :: st, h => exact lv_dcmp hx hb hd (hn rfl h hml H locs ls hP hD hS hl)
  | goto off =>
    have hlen : len = 3 := of_decide_eq_true hN
    subst hlen
    exact lv_goto hx hb hd (of_decide_eq_true hjb) (hj (off := off) of_decide_eq_true h hml H locs ls hP hD hS hl)
  | ifCond q0 off =>
    have hlen : len = 3 := of_decide_eq_true hN
    subst hlen
    match st, h with
    | .int x :: st, h =>
      cases q0 with
      | eq => exact lv_if_eq hx hb hd (of_decide_eq_true hjb) (fun z => hj (off := off) of_decide_eq_true (h.1 z) hml H locs ls hP hD hS hl) (fun z => hn rfl (h.2 z) hml H locs ls hP hD hS hl)
      | ne => exact lv_if_ne hx hb hd (of_decide_eq_true hjb) (fun z => hj (off := off) of_decide_eq_true (h.1 z) hml H locs ls hP hD hS hl) (fun z => hn rfl (h.2 z) hml H locs ls hP hD hS hl)
      | lt => exact lv_if_lt hx hb hd (of_decide_eq_true hjb) (fun z => hj (off := off) of_decide_eq_true (h.1 z) hml H locs ls hP hD hS hl) (fun z => hn rfl (h.2 z) hml H locs ls hP hD hS hl)
      | ge => exact lv_if_ge hx hb hd (of_decide_eq_true hjb) (fun z => hj (off := off) of_decide_eq_true (h.1 z) hml H locs ls hP hD hS hl) (fun z => hn rfl (h.2 z) hml H locs ls hP hD hS hl)
      | gt => exact lv_if_gt hx hb hd (of_decide_eq_true hjb) (fun z => hj (off := off) of_decide_eq_true (h.1 z) hml H locs ls hP hD hS hl) (fun z => hn rfl (h.2 z) hml H locs ls hP hD hS hl)
      | le => exact lv_if_le hx hb hd (of_decide_eq_true hjb) (fun z => hj (off := off) of_decide_eq_true (h.1 z) hml H locs ls hP hD hS hl) (fun z => hn rfl (h.2 z) hml H locs ls hP hD hS hl)
  | if_icmp q0 off =>
    have hlen : len = 3 := of_decide_eq_true hN
    subst hlen
    match st, h with
    | .int y :: .int x :: st, h =>
      cases q0 with
      | eq => exact lv_icmp_eq hx hb hd (of_decide_eq_true hjb) (fun z => hj (off := off) of_decide_eq_true (h.1 z) hml H locs ls hP hD hS hl) (fun z => hn rfl (h.2 z) hml H locs ls hP hD hS hl)
      | ne => exact lv_icmp_ne hx hb hd (of_decide_eq_true hjb) (fun z => hj (off := off) of_decide_eq_true (h.1 z) hml H locs ls hP hD hS hl) (fun z => hn rfl (h.2 z) hml H locs ls hP hD hS hl)
      | lt => exact lv_icmp_lt hx hb hd (of_decide_eq_true hjb) (fun z => hj (off := off) of_decide_eq_true (h.1 z) hml H locs ls hP hD hS hl) (fun z => hn rfl (h.2 z) hml H locs ls hP hD hS hl)
      | ge => exact lv_icmp_ge hx hb hd (of_decide_eq_true hjb) (fun z => hj (off := off) of_decide_eq_true (h.1 z) hml H locs ls hP hD hS hl) (fun z => hn rfl (h.2 z) hml H locs ls hP hD hS hl)
      | gt => exact lv_icmp_gt hx hb hd (of_decide_eq_true hjb) (fun z => hj (off := off) of_decide_eq_true (h.1 z) hml H locs ls hP hD hS hl) (fun z => hn rfl (h.2 z) hml H locs ls hP hD hS hl)
      | le => exact lv_icmp_le hx hb hd (of_decide_eq_true hjb) (fun z => hj (off := off) of_decide_eq_true (h.1 z) hml H locs ls hP hD hS hl) (fun z => hn rfl (h.2 z) hml H locs ls hP hD hS hl)
  | getfield j =>
    have hlen : len = 3 := of_decide_eq_true hN
    subst hlen
    match st, h with
    | .ref a :: st, h =>
      cases hf : Fd j with
      | none => simp only [xstep, hf] at h
      | some z =>
        obtain ⟨ci, k⟩ := z
        obtain ⟨C, T, N, h1, h2, h3, h4, h5, h6, h7⟩ := hFd j ci k hf
        cases hw : xn aw a with
        | none => simp only [xstep, hf, hw] at h
        | some z =>
          cases z with
          | inl z => simp only [xstep, hf, hw] at h
          | inr z =>
            obtain ⟨cj, fs⟩ := z
            cases hbq : Nat.beq cj ci with
            | false => simp only [xstep, hf, hw, hbq] at h
            | true =>
              have he := Nat.eq_of_beq_eq_true hbq
              subst he
              cases hv : xf fs k with
              | none => simp only [xstep, hf, hw, hbq, hv] at h
              | some v =>
                simp only [xstep, hf, hw, hbq, hv] at h
                refine va_get (C := C) (T := T) (N := N) hx hb hts h4 hown hK hP a (xw_get hw) h1 k h2 (hts _ h3) (fun _ z => z) (v := xv ad v) ?_ hd (hn rfl h hml H locs ls hP hD hS hl)
                rw [List.getElem?_map, ← xf_eq, hv]
                rfl
  | putfield j =>
    have hlen : len = 3 := of_decide_eq_true hN
    subst hlen
    match st, h with
    | v :: .ref a :: st, h =>
      cases hf : Fd j with
      | none => simp only [xstep, hf] at h
      | some z =>
        obtain ⟨ci, k⟩ := z
        obtain ⟨C, T, N, h1, h2, h3, h4, h5, h6, h7⟩ := hFd j ci k hf
        cases hw : xn aw a with
        | none => simp only [xstep, hf, hw] at h
        | some z =>
          cases z with
          | inl z => simp only [xstep, hf, hw] at h
          | inr z =>
            obtain ⟨cj, fs⟩ := z
            cases hbq : Nat.beq cj ci && xput v (xtyp ci k) (xfin ci k) with
            | false => simp only [xstep, hf, hw, hbq] at h
            | true =>
              have hbq' := hbq
              rw [Bool.and_eq_true] at hbq'
              obtain ⟨he, hpt⟩ := hbq'
              have he := Nat.eq_of_beq_eq_true he
              subst he
              cases hv : xf fs k with
              | none => simp only [xstep, hf, hw, hbq, hv] at h
              | some v0 =>
                simp only [xstep, hf, hw, hbq, hv] at h
                obtain ⟨hfin, hnar, hfit⟩ := xput_ok hpt
                have hln : k < (fs.map (xv ad)).length := by
                  rw [List.length_map]
                  rw [xf_eq] at hv
                  exact (List.getElem?_eq_some_iff.mp hv).1
                refine va_put (C := C) (T := T) (N := N) (v := xv ad v) hx hb hts h4 (xtyp cj) h5 h6 hown hK hP hD hS a (xw_get hw) h1 k h2 (hts _ h3) (fun _ z => z) (by rw [← h7]; exact hfin) (h5 k h2) (xput_v hnar hpt) (xput_f hfit hpt) hln hd (fun H1 locs1 hP1 hD1 hS1 => ?_)
                have e1 : (xw ad cy aw).set a (ad a, .inr (cj, (fs.map (xv ad)).set k (xv ad v))) = xw ad cy (xu aw a (.inr (cj, xfu fs k v))) := by
                  rw [← xw_set, xfu_eq]
                  show _ = (xw ad cy aw).set a (ad a, .inr (cj, (fs.set k v).map (xv ad)))
                  rw [List.map_set]
                rw [e1] at hP1 hD1
                exact hn rfl h hml H1 locs1 ls hP1 hD1 hS1 hl
  | iaload =>
    have hlen : len = 1 := of_decide_eq_true hN
    subst hlen
    match st, h with
    | .int i :: .ref a :: st, h =>
      cases hw0 : xaI (xn aw a) with
      | none => simp only [xstep, hw0] at h
      | some z =>
        obtain ⟨n9, f⟩ := z
        have hw := xaI_eq hw0
        simp only [xstep, hw0] at h
        obtain ⟨j, rfl, hjn, hn9, h⟩ := h
        refine va_iald hx hb hK hP a 2 (xw_get hw) rfl (vp_in_nI hjn hn9) hd ?_
        rw [nI_clamp (Nat.lt_trans hjn hn9)]
        exact hn rfl h hml H locs ls hP hD hS hl
  | baload =>
    have hlen : len = 1 := of_decide_eq_true hN
    subst hlen
    match st, h with
    | .int i :: .ref a :: st, h =>
      cases hw0 : xaZ (xn aw a) with
      | none => simp only [xstep, hw0] at h
      | some z =>
        obtain ⟨n9, f⟩ := z
        have hw := xaZ_eq hw0
        simp only [xstep, hw0] at h
        obtain ⟨j, rfl, hjn, hn9, h⟩ := h
        refine va_zald hx hb hK hP a 3 (xw_get hw) rfl (vp_in_nI hjn hn9) hd ?_
        rw [nI_clamp (Nat.lt_trans hjn hn9)]
        exact hn rfl h hml H locs ls hP hD hS hl
  | faload =>
    have hlen : len = 1 := of_decide_eq_true hN
    subst hlen
    match st, h with
    | .int i :: .ref a :: st, h =>
      cases hw0 : xaF (xn aw a) with
      | none => simp only [xstep, hw0] at h
      | some z =>
        obtain ⟨n9, f⟩ := z
        have hw := xaF_eq hw0
        simp only [xstep, hw0] at h
        obtain ⟨j, rfl, hjn, hn9, h⟩ := h
        refine va_fald hx hb hK hP a 1 (xw_get hw) rfl (vp_in_nI hjn hn9) hd ?_
        rw [nI_clamp (Nat.lt_trans hjn hn9)]
        exact hn rfl h hml H locs ls hP hD hS hl
  | daload =>
    have hlen : len = 1 := of_decide_eq_true hN
    subst hlen
    match st, h with
    | .int i :: .ref a :: st, h =>
      cases hw0 : xaD (xn aw a) with
      | none => simp only [xstep, hw0] at h
      | some z =>
        obtain ⟨n9, f⟩ := z
        have hw := xaD_eq hw0
        simp only [xstep, hw0] at h
        obtain ⟨j, rfl, hjn, hn9, h⟩ := h
        refine va_dald hx hb hK hP a 0 (xw_get hw) rfl (vp_in_nI hjn hn9) hd ?_
        rw [nI_clamp (Nat.lt_trans hjn hn9)]
        exact hn rfl h hml H locs ls hP hD hS hl
  | iastore =>
    have hlen : len = 1 := of_decide_eq_true hN
    subst hlen
    match st, h with
    | .int x :: .int i :: .ref a :: st, h =>
      cases hw0 : xaI (xn aw a) with
      | none => simp only [xstep, hw0] at h
      | some z =>
        obtain ⟨n9, f⟩ := z
        have hw := xaI_eq hw0
        simp only [xstep, hw0] at h
        obtain ⟨j, rfl, hjn, hn9, h⟩ := h
        refine va_iast hx hb hK hP hD hS a 2 (xw_get hw) rfl (vp_in_nI hjn hn9) hd (fun H1 locs1 hP1 hD1 hS1 => ?_)
        rw [nI_clamp (Nat.lt_trans hjn hn9)] at hP1 hD1
        have e1 : (xw ad cy aw).set a (ad a, .inl (cy 2, n9, .inl (upd f j x))) = xw ad cy (xu aw a (.inl (2, n9, .inl (upd f j x)))) := xw_set (e := .inl (2, n9, .inl (upd f j x)))
        rw [e1] at hP1 hD1
        exact hn rfl h hml H1 locs1 ls hP1 hD1 hS1 hl
  | fastore =>
    have hlen : len = 1 := of_decide_eq_true hN
    subst hlen
    match st, h with
    | .float x :: .int i :: .ref a :: st, h =>
      cases hw0 : xaF (xn aw a) with
      | none => simp only [xstep, hw0] at h
      | some z =>
        obtain ⟨n9, f⟩ := z
        have hw := xaF_eq hw0
        simp only [xstep, hw0] at h
        obtain ⟨j, rfl, hjn, hn9, h⟩ := h
        refine va_fast hx hb hK hP hD hS a 1 (xw_get hw) rfl (vp_in_nI hjn hn9) hd (fun H1 locs1 hP1 hD1 hS1 => ?_)
        rw [nI_clamp (Nat.lt_trans hjn hn9)] at hP1 hD1
        have e1 : (xw ad cy aw).set a (ad a, .inl (cy 1, n9, .inr (.inr (.inl (vf_upd f j x))))) = xw ad cy (xu aw a (.inl (1, n9, .inr (.inr (.inl (vf_upd f j x)))))) := xw_set (e := .inl (1, n9, .inr (.inr (.inl (vf_upd f j x)))))
        rw [e1] at hP1 hD1
        exact hn rfl h hml H1 locs1 ls hP1 hD1 hS1 hl
  | dastore =>
    have hlen : len = 1 := of_decide_eq_true hN
    subst hlen
    match st, h with
    | .double x :: .int i :: .ref a :: st, h =>
      cases hw0 : xaD (xn aw a) with
      | none => simp only [xstep, hw0] at h
      | some z =>
        obtain ⟨n9, f⟩ := z
        have hw := xaD_eq hw0
        simp only [xstep, hw0] at h
        obtain ⟨j, rfl, hjn, hn9, h⟩ := h
        refine va_dast hx hb hK hP hD hS a 0 (xw_get hw) rfl (vp_in_nI hjn hn9) hd (fun H1 locs1 hP1 hD1 hS1 => ?_)
        rw [nI_clamp (Nat.lt_trans hjn hn9)] at hP1 hD1
        have e1 : (xw ad cy aw).set a (ad a, .inl (cy 0, n9, .inr (.inr (.inr (.inl (vf_upd f j x)))))) = xw ad cy (xu aw a (.inl (0, n9, .inr (.inr (.inr (.inl (vf_upd f j x))))))) := xw_set (e := .inl (0, n9, .inr (.inr (.inr (.inl (vf_upd f j x))))))
        rw [e1] at hP1 hD1
        exact hn rfl h hml H1 locs1 ls hP1 hD1 hS1 hl
  | bastore =>
    have hlen : len = 1 := of_decide_eq_true hN
    subst hlen
    match st, h with
    | .int x :: .int i :: .ref a :: st, h =>
      cases hw0 : xaZ (xn aw a) with
      | none => simp only [xstep, hw0] at h
      | some z =>
        obtain ⟨n9, f⟩ := z
        have hw := xaZ_eq hw0
        simp only [xstep, hw0] at h
        obtain ⟨j, b, rfl, rfl, hjn, hn9, h⟩ := h
        refine va_zast hx hb hK hP hD hS a 3 (xw_get hw) rfl (vp_in_nI hjn hn9) hd (fun H1 locs1 hP1 hD1 hS1 => ?_)
        rw [nI_clamp (Nat.lt_trans hjn hn9), xb_nar] at hP1 hD1
        have e1 : (xw ad cy aw).set a (ad a, .inl (cy 3, n9, .inl (upd f j (xb b)))) = xw ad cy (xu aw a (.inl (3, n9, .inl (upd f j (xb b))))) := xw_set (e := .inl (3, n9, .inl (upd f j (xb b))))
        rw [e1] at hP1 hD1
        exact hn rfl h hml H1 locs1 ls hP1 hD1 hS1 hl
  | invokevirtual j =>
    have h1 := hCl n _ (2 * j) hq (Or.inl ⟨j, rfl, rfl⟩) lv st aw _ h (fun st' aw' hg => hgo (n + 1) lv st' aw' rfl (by rw [hcs']; exact hg))
    rw [hcs] at h1
    exact h1 hml H locs ls hP hD hS hl
  | invokestatic j =>
    have h1 := hCl n _ (2 * j + 1) hq (Or.inr ⟨j, rfl, rfl⟩) lv st aw _ h (fun st' aw' hg => hgo (n + 1) lv st' aw' rfl (by rw [hcs']; exact hg))
    rw [hcs] at h1
    exact h1 hml H locs ls hP hD hS hl
  | ireturn =>
    match st, h with
    | [.int x], h =>
      have h1 := hRt n _ lv _ aw hq (Or.inl ⟨rfl, _, rfl⟩) h
      rw [hcs] at h1
      exact h1 hml H locs ls hP hD hS hl
  | freturn =>
    match st, h with
    | [.float x], h =>
      have h1 := hRt n _ lv _ aw hq (Or.inr (Or.inl ⟨rfl, _, rfl⟩)) h
      rw [hcs] at h1
      exact h1 hml H locs ls hP hD hS hl
  | dreturn =>
    match st, h with
    | [.double x], h =>
      have h1 := hRt n _ lv _ aw hq (Or.inr (Or.inr (Or.inl ⟨rfl, _, rfl⟩))) h
      rw [hcs] at h1
      exact h1 hml H locs ls hP hD hS hl
  | return_ =>
    match st, h with
    | [], h =>
      have h1 := hRt n _ lv _ aw hq (Or.inr (Or.inr (Or.inr ⟨rfl, rfl⟩))) h
      rw [hcs] at h1
      exact h1 hml H locs ls hP hD hS hl
  | tableswitch dflt lo hi offs =>
    match st, h with
    | .int x :: st, h =>
      have hx2 : ∀ tgt : Nat, go (xat L tgt) lv st aw → W p l e R s m args below meth c H locs cells slots Q (F0 m tgt ls (st.map (xv ad))) := by
        intro tgt hg
        obtain ⟨n2, h1, h2⟩ := xat_drop L tgt
        rw [h1] at hg
        have h3 := hgo n2 lv st aw rfl hg
        rw [← h1] at h3
        cases hc2 : xat L tgt with
        | nil => rw [hc2] at h3; exact h3.elim
        | cons q' r =>
          rw [hc2] at h3
          have h4 := h3 hml H locs ls hP hD hS hl
          rw [h2 q' r hc2] at h4
          exact h4
      have hjb' : (decide (0 ≤ (pc : Int) + dflt) && (offs.toList.all (fun o => decide (0 ≤ (pc : Int) + o)) && decide (hi - lo < (offs.toList.length : Int)))) = true := hjb
      simp only [Bool.and_eq_true, decide_eq_true_eq] at hjb'
      obtain ⟨g1, g2, g3⟩ := hjb'
      by_cases hr : x.toInt < lo ∨ hi < x.toInt
      · exact lv_tableOut hx hb hd hr (Int.toNat_of_nonneg g1).symm (hx2 _ (h.1 hr))
      · have r1 : ¬ x.toInt < lo := fun z => hr (Or.inl z)
        have r2 : ¬ hi < x.toInt := fun z => hr (Or.inr z)
        have hlt : (x.toInt - lo).toNat < offs.toList.length := by omega
        have ho : offs.toList[(x.toInt - lo).toNat]? = some (offs.toList[(x.toInt - lo).toNat]) := List.getElem?_eq_getElem hlt
        have g4 := of_decide_eq_true (List.all_eq_true.mp g2 _ (List.mem_of_getElem? ho))
        have h5 := xsw_at _ _ h.2 _ _ ho (by omega)
        exact lv_tableIn hx hb hd r1 r2 (by rw [← Array.getElem?_toList]; exact ho) (Int.toNat_of_nonneg g4).symm (hx2 _ h5)
  | _ => exact h.elim
end XS
