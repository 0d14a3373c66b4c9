/-! worlds in pieces: a call works on a piece of the caller's world -/
theorem va_P_mem {D : va_G} {cl : List vw_C} {ws : va_W} {H : Heap} : va_P D cl ws H ↔ ∀ q ∈ ws, va_at D cl q H := by
  constructor
  · intro h q hq
    obtain ⟨k, hk⟩ := List.mem_iff_getElem?.mp hq
    exact h k q hk
  · intro h k q hk
    exact h q (List.mem_of_getElem? hk)
theorem va_D_fst {A : Nat → Prop} {ws ws' : va_W} (h : va_D A ws) (hf : ws'.map (·.1) = ws.map (·.1)) : va_D A ws' := by
  have key : ∀ (k : Nat) (q : Nat × va_E), ws'[k]? = some q → ∃ q0 : Nat × va_E, ws[k]? = some q0 ∧ q0.1 = q.1 := by
    intro k q hk
    have h1 : (ws'.map (·.1))[k]? = some q.1 := by rw [List.getElem?_map, hk]; rfl
    rw [hf, List.getElem?_map] at h1
    cases h2 : ws[k]? with
    | none => rw [h2] at h1; cases h1
    | some q0 =>
      rw [h2] at h1
      exact ⟨q0, rfl, Option.some.inj h1⟩
  refine ⟨fun i j p q hi hj hpq => ?_, fun k q hk => ?_⟩
  · obtain ⟨p0, h1, h2⟩ := key i p hi
    obtain ⟨q0, h3, h4⟩ := key j q hj
    exact h.1 i j p0 q0 h1 h3 (by rw [h2, h4]; exact hpq)
  · obtain ⟨q0, h1, h2⟩ := key k q hk
    rw [← h2]
    exact h.2 k q0 h1
theorem va_D_split {A : Nat → Prop} {a b : va_W} (h : va_D A (a ++ b)) : va_D A a ∧ va_D A b ∧ ∀ p ∈ a, ∀ q ∈ b, p.1 ≠ q.1 := by
  refine ⟨⟨fun i j p q hi hj hpq => ?_, fun k q hk => ?_⟩, ⟨fun i j p q hi hj hpq => ?_, fun k q hk => ?_⟩, fun p hp q hq hpq => ?_⟩
  · have hi2 := (List.getElem?_eq_some_iff.mp hi).1
    have hj2 := (List.getElem?_eq_some_iff.mp hj).1
    exact h.1 i j p q (by rw [List.getElem?_append_left hi2]; exact hi) (by rw [List.getElem?_append_left hj2]; exact hj) hpq
  · have hk2 := (List.getElem?_eq_some_iff.mp hk).1
    exact h.2 k q (by rw [List.getElem?_append_left hk2]; exact hk)
  · have := h.1 (a.length + i) (a.length + j) p q (by rw [List.getElem?_append_right (by omega), Nat.add_sub_cancel_left]; exact hi) (by rw [List.getElem?_append_right (by omega), Nat.add_sub_cancel_left]; exact hj) hpq
    omega
  · exact h.2 (a.length + k) q (by rw [List.getElem?_append_right (by omega), Nat.add_sub_cancel_left]; exact hk)
  · obtain ⟨i, hi⟩ := List.mem_iff_getElem?.mp hp
    obtain ⟨j, hj⟩ := List.mem_iff_getElem?.mp hq
    have hi2 := (List.getElem?_eq_some_iff.mp hi).1
    have := h.1 i (a.length + j) p q (by rw [List.getElem?_append_left hi2]; exact hi) (by rw [List.getElem?_append_right (by omega), Nat.add_sub_cancel_left]; exact hj) hpq
    omega
theorem lframe {D : va_G} {cl : List vw_C} {A : Nat → Prop} {w1 w2 w3 w9 : va_W} {H H1 : Heap} (hP : va_P D cl (w1 ++ (w2 ++ w3)) H) (hD : va_D A (w1 ++ (w2 ++ w3))) (hk : ∀ q : Nat, q < H.size → ¬ va_A w2 H.size q → H1[q]? = H[q]?) (hP2 : va_P D cl w9 H1) (hf : w9.map (·.1) = w2.map (·.1)) : va_P D cl (w1 ++ (w9 ++ w3)) H1 ∧ va_D A (w1 ++ (w9 ++ w3)) := by
  have hD2 := va_D_fst (ws' := w1 ++ (w9 ++ w3)) hD (by simp only [List.map_append, hf])
  refine ⟨?_, hD2⟩
  obtain ⟨-, s2, s3⟩ := va_D_split hD
  obtain ⟨-, -, s6⟩ := va_D_split s2
  have hP := va_P_mem.mp hP
  have keep : ∀ q : Nat × va_E, va_at D cl q H → (∀ z ∈ w2, z.1 ≠ q.1) → va_at D cl q H1 := by
    intro q hq hz
    have hlt := hq.lt
    refine hq.kept (hk q.1 hlt ?_)
    rintro (⟨k, e, h⟩ | h)
    · exact hz _ (List.mem_of_getElem? h) rfl
    · omega
  refine va_P_mem.mpr (fun q hq => ?_)
  rcases List.mem_append.mp hq with h | h
  · exact keep q (hP q (List.mem_append_left _ h)) (fun z hz e => s3 q h z (List.mem_append_left _ hz) e.symm)
  rcases List.mem_append.mp h with h | h
  · exact va_P_mem.mp hP2 q h
  · exact keep q (hP q (List.mem_append_right _ (List.mem_append_right _ h))) (fun z hz => s6 z hz q h)
/-- places shifted by k -/
def xsh (k : Nat) (v : Value) : Value := match v with
  | .ref i => .ref (k + i)
  | w => w
def xshE (k : Nat) (e : va_E) : va_E := match e with
  | .inl a => .inl a
  | .inr (c, fs) => .inr (c, fs.map (xsh k))
def xwf (ad : Nat → Nat) (cy : Nat → ClassId) (n : Nat) (aw : xA) : va_W := (aw.zipIdx n).map (fun q => (ad q.2, xe ad cy q.1))
theorem xw_xwf (ad : Nat → Nat) (cy : Nat → ClassId) (aw : xA) : xw ad cy aw = xwf ad cy 0 aw := rfl
theorem xwf_app (ad : Nat → Nat) (cy : Nat → ClassId) : ∀ (a b : xA) (n : Nat), xwf ad cy n (a ++ b) = xwf ad cy n a ++ xwf ad cy (n + a.length) b
  | [], b, n => rfl
  | e :: a, b, n => by
    have h := xwf_app ad cy a b (n + 1)
    show (ad n, xe ad cy e) :: xwf ad cy (n + 1) (a ++ b) = (ad n, xe ad cy e) :: (xwf ad cy (n + 1) a ++ xwf ad cy (n + (a.length + 1)) b)
    rw [h, show n + 1 + a.length = n + (a.length + 1) by omega]
theorem xv_sh (ad : Nat → Nat) (k : Nat) (v : Value) : xv ad (xsh k v) = xv (fun i => ad (k + i)) v := by cases v <;> rfl
theorem xe_sh (ad : Nat → Nat) (cy : Nat → ClassId) (k : Nat) (e : va_E) : xe ad cy (xshE k e) = xe (fun i => ad (k + i)) cy e := by
  match e with
  | .inl a => rfl
  | .inr (c, fs) =>
    show Sum.inr (c, (fs.map (xsh k)).map (xv ad)) = Sum.inr (c, fs.map (xv (fun i => ad (k + i))))
    rw [List.map_map]
    congr 2
    apply List.map_congr_left
    intro v _
    exact xv_sh ad k v
theorem xwf_sh (ad : Nat → Nat) (cy : Nat → ClassId) (k : Nat) : ∀ (aw : xA) (n : Nat), xwf ad cy (k + n) (aw.map (xshE k)) = xwf (fun i => ad (k + i)) cy n aw
  | [], n => rfl
  | e :: aw, n => by
    have h := xwf_sh ad cy k aw (n + 1)
    show (ad (k + n), xe ad cy (xshE k e)) :: xwf ad cy (k + n + 1) (aw.map (xshE k)) = (ad (k + n), xe (fun i => ad (k + i)) cy e) :: xwf (fun i => ad (k + i)) cy (n + 1) aw
    rw [xe_sh, show k + n + 1 = k + (n + 1) by omega, h]
theorem xwf_fst (ad : Nat → Nat) (cy : Nat → ClassId) : ∀ (a b : xA) (n : Nat), a.length = b.length → (xwf ad cy n a).map (·.1) = (xwf ad cy n b).map (·.1)
  | [], [], n, _ => rfl
  | [], _ :: _, n, h => by cases h
  | _ :: _, [], n, h => by cases h
  | e :: a, f :: b, n, h => by
    show ad n :: (xwf ad cy (n + 1) a).map (·.1) = ad n :: (xwf ad cy (n + 1) b).map (·.1)
    rw [xwf_fst ad cy a b (n + 1) (Nat.succ.inj h)]
/-- the five instructions that the law has beside the others: its script, rows of long -/
def xaL (o : Option va_E) : Option (Nat × (Nat → Int64)) := match o with
  | some (.inl (4, n, .inr (.inl f))) => some (n, f)
  | _ => none
theorem xaL_eq {o : Option va_E} {n : Nat} {f : Nat → Int64} (h : xaL o = some (n, f)) : o = some (.inl (4, n, .inr (.inl f))) := by
  unfold xaL at h
  split at h
  · cases h; rfl
  · cases h
def lstep (sc : Option (Nat × (Nat → Int32))) (L : xC) (Fd : Nat → Option (Nat × Nat)) (Cn : Nat → Option Value) (Cl : Nat → List Value → xA → (List Value → xA → Prop) → Prop) (Rt : List Value → xA → Prop) (go : xC → xO → List Value → xA → Prop) (cs : xC) (lv : xO) (st : List Value) (aw : xA) : Prop := match cs with
  | [] => False
  | (pc, i, len, t) :: cs => match i with
    | .arraylength => match Nat.beq len 1 with
      | true => match st with
        | .ref a :: st => match Nat.beq a 1000 with
          | true => match sc with
            | some (Ln, _) => go cs lv (.int (nI Ln) :: st) aw
            | none => False
          | false => False
        | _ => False
      | false => False
    | .iaload => match Nat.beq len 1 with
      | true => match st with
        | .int i :: .ref a :: st => match Nat.beq a 1000 with
          | true => match sc with
            | some (Ln, xs) => ∃ j : Nat, i = nI j ∧ j < Ln ∧ go cs lv (.int (xs j) :: st) aw
            | none => False
          | false => False
        | _ => False
      | false => False
    | .laload => match Nat.beq len 1 with
      | true => match st with
        | .int i :: .ref a :: st => match xaL (xn aw a) with
          | some (n, f) => ∃ j : Nat, i = nI j ∧ j < n ∧ n < 2 ^ 31 ∧ go cs lv (.long (f j) :: st) aw
          | none => False
        | _ => False
      | false => False
    | .lastore => match Nat.beq len 1 with
      | true => match st with
        | .long x :: .int i :: .ref a :: st => match xaL (xn aw a) with
          | some (n, f) => ∃ j : Nat, i = nI j ∧ j < n ∧ n < 2 ^ 31 ∧ go cs lv st (xu aw a (.inl (4, n, .inr (.inl (vp_updL f j x)))))
          | none => False
        | _ => False
      | false => False
    | .lcmp => match Nat.beq len 1 with
      | true => match st with
        | .long y :: .long x :: st => go cs lv (.int (lg_cmp x y) :: st) aw
        | _ => False
      | false => False
    | j => xstep L Fd Cn Cl Rt go ((pc, j, len, t) :: cs) lv st aw
def lxp (sc : Option (Nat × (Nat → Int32))) (L : xC) (Fd : Nat → Option (Nat × Nat)) (Cn : Nat → Option Value) (Cl : Nat → List Value → xA → (List Value → xA → Prop) → Prop) (Rt : List Value → xA → Prop) (K : xC → xO → List Value → xA → Prop) (cu : Nat → Bool) : Nat → xC → xO → List Value → xA → Prop
  | 0, cs, lv, st, aw => K cs lv st aw
  | n + 1, cs, lv, st, aw => lstep sc L Fd Cn Cl Rt (fun cs lv st aw => match cu (xpc cs) with
    | true => K cs lv st aw
    | false => lxp sc L Fd Cn Cl Rt K cu n cs lv st aw) cs lv st aw
def lSys (sc : Option (Nat × (Nat → Int32))) (L : xC) (Fd : Nat → Option (Nat × Nat)) (Cn : Nat → Option Value) (Cl : Nat → List Value → xA → (List Value → xA → Prop) → Prop) (Rt : List Value → xA → Prop) (WC : xC → xO → List Value → xA → Prop) : Prop :=
  (∀ (cu : Nat → Bool) (N k : Nat) (lv : xO) (st : List Value) (aw : xA), lxp sc L Fd Cn Cl Rt WC cu N (L.drop k) lv st aw → WC (L.drop k) lv st aw) ∧
  (∀ (k : Nat) (lv lv' : xO) (st : List Value) (aw : xA), xle lv' lv → lv'.length = lv.length → WC (L.drop k) lv' st aw → WC (L.drop k) lv st aw)
/-- the script's row, at place 1000; Ln = 0 where there is none -/
def xScr (Ln : Nat) (xs : Nat → Int32) (ad : Nat → Nat) (A : Nat → Prop) (s : State) : Prop := va_X (ad 1000) Ln xs s s.heap ∧ ad 1000 < s.heap.size ∧ ¬ A (ad 1000) ∧ Ln < 2 ^ 31
section LS
variable {p : Program} {l : Launch} {e : Env} {R : Room} {s : State} {m : MethodId} {args : Array Value} {below : List Frame} {meth : Method} {c : Code} {Q : State → Prop} {A : Nat → Prop} {D : va_G} {ad : Nat → Nat} {cy : Nat → ClassId} {cells slots : Nat}
theorem lstep_ok {sc : Option (Nat × (Nat → Int32))} {cc : ByteArray} {own : String} {L : xC} {Fd : Nat → Option (Nat × Nat)} {Cn : Nat → Option Value} {Cl : Nat → List Value → xA → (List Value → xA → Prop) → Prop} {Rt : List Value → xA → Prop} (F : xFix p s m args c D cy cc own L Fd Cn) (hX : ∀ Ln xs, sc = some (Ln, xs) → xScr Ln xs ad A s)
    (hCl : ∀ n q i, L[n]? = some q → xinv q.2.1 i → ∀ lv st aw k, Cl i st aw k → (∀ st' aw', k st' aw' → xWc p l e R s m args below meth c Q A D ad cy cells slots (L.drop (n + 1)) lv st' aw') → xWc p l e R s m args below meth c Q A D ad cy cells slots (L.drop n) lv st aw)
    (hRt : ∀ n q lv vs aw, L[n]? = some q → xret q.2.1 vs → Rt vs aw → xWc p l e R s m args below meth c Q A D ad cy cells slots (L.drop n) lv vs aw)
    (n : Nat) (lv : xO) (st : List Value) (aw : xA) {go : xC → xO → List Value → xA → Prop} (h : lstep sc L Fd Cn Cl Rt go (L.drop n) lv st aw)
    (hgo : ∀ (n' : Nat) (lv' : xO) (st' : List Value) (aw' : xA), lv'.length = lv.length → go (L.drop n') lv' st' aw' → xWc p l e R s m args below meth c Q A D ad cy cells slots (L.drop n') lv' st' aw') : xWc p l e R s m args below meth c Q A D ad cy cells slots (L.drop n) lv st aw := by
  obtain ⟨hx, hb, hts, hown, hK, hE, hT, -, -, -, -⟩ := id F
  cases hcs : L.drop n with
  | nil => rw [hcs] at h; exact h.elim
  | cons q cs =>
  obtain ⟨hq, hcs'⟩ := xdrop hcs
  have hd := xdec hE hq
  have hn : ∀ {st' : List Value} {aw' : xA}, go cs lv st' aw' → ∀ (_ : lv.length = c.maxLocals) (H : Heap) (locs : List Loc) (ls : Array Slot), va_P D vwCl (xw ad cy aw') H → va_D A (xw ad cy aw') → va_S A s.heap H locs → lv_has ls lv.length (xa ad lv) → W p l e R s m args below meth c H locs cells slots Q (F0 m (q.1 + q.2.2.1) ls (st'.map (xv ad))) := by
    intro st' aw' hg hml H locs ls hP hD hS hl
    rw [← hcs'] at hg
    have h1 := hgo (n + 1) lv st' aw' rfl hg
    cases hdr2 : L.drop (n + 1) with
    | nil => rw [hdr2] at h1; exact h1.elim
    | cons q2 r2 =>
      rw [hdr2] at h1
      have h3 := h1 hml H locs ls hP hD hS hl
      rw [xnext hT hq hdr2] at h3
      exact h3
  have hold : xstep L Fd Cn Cl Rt go (L.drop n) lv st aw → xWc p l e R s m args below meth c Q A D ad cy cells slots (q :: cs) lv st aw := fun h9 => by
    have h8 := xstep_ok F hCl hRt n lv st aw h9 hgo
    rw [hcs] at h8
    exact h8
  rw [hcs] at h hold
  obtain ⟨pc, i, len, t⟩ := q
  cases i with
  | arraylength =>
    cases hl1 : Nat.beq len 1 with
    | false => simp only [lstep, hl1] at h
    | true =>
      have := Nat.eq_of_beq_eq_true hl1
      subst this
      match st, h with
      | .ref a :: st, h =>
        cases ha : Nat.beq a 1000 with
        | false => simp only [lstep, hl1, ha] at h
        | true =>
          have := Nat.eq_of_beq_eq_true ha
          subst this
          match sc, h, hX with
          | some (Ln, xs), h, hX =>
            obtain ⟨x1, x2, x3, x4⟩ := hX Ln xs rfl
            intro hml H locs ls hP hD hS hl
            exact va_slen hx hb x1 x2 x3 hS hd (hn h hml H locs ls hP hD hS hl)
  | iaload =>
    cases hl1 : Nat.beq len 1 with
    | false => simp only [lstep, hl1] at h
    | true =>
      have := Nat.eq_of_beq_eq_true hl1
      subst this
      match st, h with
      | .int i :: .ref a :: st, h =>
        cases ha : Nat.beq a 1000 with
        | false => simp only [lstep, hl1, ha] at h
        | true =>
          have := Nat.eq_of_beq_eq_true ha
          subst this
          match sc, h, hX with
          | some (Ln, xs), h, hX =>
            obtain ⟨x1, x2, x3, x4⟩ := hX Ln xs rfl
            obtain ⟨j, rfl, hj, h⟩ := h
            intro hml H locs ls hP hD hS hl
            refine va_sld hx hb x1 x2 x3 hS (vp_in_nI hj x4) hd ?_
            rw [nI_clamp (Nat.lt_trans hj x4)]
            exact hn h hml H locs ls hP hD hS hl
  | laload =>
    cases hl1 : Nat.beq len 1 with
    | false => simp only [lstep, hl1] at h
    | true =>
      have := Nat.eq_of_beq_eq_true hl1
      subst this
      match st, h with
      | .int i :: .ref a :: st, h =>
        cases hw0 : xaL (xn aw a) with
        | none => simp only [lstep, hl1, hw0] at h
        | some z =>
          obtain ⟨n9, f⟩ := z
          have hw := xaL_eq hw0
          simp only [lstep, hl1, hw0] at h
          obtain ⟨j, rfl, hjn, hn9, h⟩ := h
          intro hml H locs ls hP hD hS hl
          refine va_lald hx hb hK hP a 4 (xw_get hw) rfl (vp_in_nI hjn hn9) hd ?_
          rw [nI_clamp (Nat.lt_trans hjn hn9)]
          exact hn h hml H locs ls hP hD hS hl
  | lastore =>
    cases hl1 : Nat.beq len 1 with
    | false => simp only [lstep, hl1] at h
    | true =>
      have := Nat.eq_of_beq_eq_true hl1
      subst this
      match st, h with
      | .long x :: .int i :: .ref a :: st, h =>
        cases hw0 : xaL (xn aw a) with
        | none => simp only [lstep, hl1, hw0] at h
        | some z =>
          obtain ⟨n9, f⟩ := z
          have hw := xaL_eq hw0
          simp only [lstep, hl1, hw0] at h
          obtain ⟨j, rfl, hjn, hn9, h⟩ := h
          intro hml H locs ls hP hD hS hl
          refine va_last hx hb hK hP hD hS a 4 (xw_get hw) rfl (vp_in_nI hjn hn9) hd (fun H1 locs1 hP1 hD1 hS1 => ?_)
          rw [nI_clamp (Nat.lt_trans hjn hn9)] at hP1 hD1
          have e1 : (xw ad cy aw).set a (ad a, .inl (cy 4, n9, .inr (.inl (vp_updL f j x)))) = xw ad cy (xu aw a (.inl (4, n9, .inr (.inl (vp_updL f j x))))) := xw_set (e := .inl (4, n9, .inr (.inl (vp_updL f j x))))
          rw [e1] at hP1 hD1
          exact hn h hml H1 locs1 ls hP1 hD1 hS1 hl
  | lcmp =>
    cases hl1 : Nat.beq len 1 with
    | false => simp only [lstep, hl1] at h
    | true =>
      have := Nat.eq_of_beq_eq_true hl1
      subst this
      match st, h with
      | .long y :: .long x :: st, h =>
        intro hml H locs ls hP hD hS hl
        exact W.lcmp hx hb hd (hn h hml H locs ls hP hD hS hl)
  | _ => exact hold h
theorem lxp_ok {sc : Option (Nat × (Nat → Int32))} {cc : ByteArray} {own : String} {L : xC} {Fd : Nat → Option (Nat × Nat)} {Cn : Nat → Option Value} {Cl : Nat → List Value → xA → (List Value → xA → Prop) → Prop} {Rt : List Value → xA → Prop} (F : xFix p s m args c D cy cc own L Fd Cn) (hX : ∀ Ln xs, sc = some (Ln, xs) → xScr Ln xs ad A s)
    (hCl : ∀ n q i, L[n]? = some q → xinv q.2.1 i → ∀ lv st aw k, Cl i st aw k → (∀ st' aw', k st' aw' → xWc p l e R s m args below meth c Q A D ad cy cells slots (L.drop (n + 1)) lv st' aw') → xWc p l e R s m args below meth c Q A D ad cy cells slots (L.drop n) lv st aw)
    (hRt : ∀ n q lv vs aw, L[n]? = some q → xret q.2.1 vs → Rt vs aw → xWc p l e R s m args below meth c Q A D ad cy cells slots (L.drop n) lv vs aw)
    (cu : Nat → Bool) : ∀ (N k : Nat) (lv : xO) (st : List Value) (aw : xA), lxp sc L Fd Cn Cl Rt (xWc p l e R s m args below meth c Q A D ad cy cells slots) cu N (L.drop k) lv st aw → xWc p l e R s m args below meth c Q A D ad cy cells slots (L.drop k) lv st aw
  | 0, k, lv, st, aw, h => h
  | N + 1, k, lv, st, aw, h => lstep_ok F hX hCl hRt k lv st aw h (fun n' lv' st' aw' _ hg => by
      cases hc : cu (xpc (L.drop n')) with
      | true => simp only [hc] at hg; exact hg
      | false => simp only [hc] at hg; exact lxp_ok F hX hCl hRt cu N n' lv' st' aw' hg)
end LS
