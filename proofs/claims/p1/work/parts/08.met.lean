/-! a run of symbolic steps; a method's contract in places; calls -/
def xp (L : xC) (Fd : Nat → Option (Nat × Nat)) (Cn : Nat → Option Value) (Cl : Nat → List Value → xA → (List Value → xA → Prop) → Prop) (Rt : List Value → xA → Prop) (K : xC → xO → List Value → xA → Prop) (cu : Nat → Bool) : Nat → xC → xO → List Value → xA → Prop
  | 0, cs, lv, st, aw => K cs lv st aw
  | n + 1, cs, lv, st, aw => xstep L Fd Cn Cl Rt (fun cs lv st aw => match cu (xpc cs) with
    | true => K cs lv st aw
    | false => xp L Fd Cn Cl Rt K cu n cs lv st aw) cs lv st aw
/-- what a method's proof may use: steps, and forgetting locals -/
def xSys (L : xC) (Fd : Nat → Option (Nat × Nat)) (Cn : Nat → Option Value) (Cl : Nat → List Value → xA → (List Value → xA → Prop) → Prop) (Rt : List Value → xA → Prop) (WC : xC → xO → List Value → xA → Prop) : Prop :=
  (∀ (cu : Nat → Bool) (N k : Nat) (lv : xO) (st : List Value) (aw : xA), xp L Fd Cn Cl Rt WC cu N (L.drop k) lv st aw → WC (L.drop k) lv st aw) ∧
  (∀ (k : Nat) (lv lv' : xO) (st : List Value) (aw : xA), xle lv' lv → lv'.length = lv.length → WC (L.drop k) lv' st aw → WC (L.drop k) lv st aw)
def xQ (D : va_G) (ad : Nat → Nat) (cy : Nat → ClassId) (aw : xA) (sz : Nat) (post : List Value → xA → Prop) : Array Value → State → Outcome → State → Prop := fun _ st oc t =>
  (∃ (vs : List Value) (aw' : xA), oc = .returned (vs.map (xv ad)).head? ∧ vs.length ≤ 1 ∧ post vs aw' ∧ va_P D vwCl (xw ad cy aw') t.heap ∧ va_K D vwCl (xty cy) t ∧ va_D (va_A (xw ad cy aw) sz) (xw ad cy aw')) ∧ va_F (va_A (xw ad cy aw) sz) st t
def xPc (D : va_G) (ad : Nat → Nat) (cy : Nat → ClassId) (av : List Value) (aw : xA) (sz : Nat) : Array Value → State → Prop := va_Pc (av.map (xv ad)) (fun U => U.heap.size = sz ∧ va_P D vwCl (xw ad cy aw) U.heap ∧ va_K D vwCl (xty cy) U ∧ va_D (fun _ => True) (xw ad cy aw) ∧ xNs U)
def xRm (d : Nat) : Room := { frames := d, cells := 0, slots := 0, locals := 40 * d }
/-- the method y, called with av in the world aw, returns, and post holds of its answer and of the world behind it -/
def xMet (l : Launch) (y : MethodName) (cc : ByteArray) (n : Nat) (ret : Option FieldType) (d : Nat) (D : va_G) (ad : Nat → Nat) (cy : Nat → ClassId) (av : List Value) (aw : xA) (post : List Value → xA → Prop) : Prop :=
  ∀ sz : Nat, Met l y (xW0 y cc n ret) (xRm d) (xPc D ad cy av aw sz) (xQ D ad cy aw sz post) 0 0 (va_A (xw ad cy aw) sz)
def xRt (ret : Option FieldType) (post : List Value → xA → Prop) (vs : List Value) (aw : xA) : Prop := match ret with
  | none => match vs with
    | [] => post [] aw
    | _ => False
  | some ty => match ty with
    | .int => match vs with
      | [.int x] => post [.int x] aw
      | _ => False
    | .boolean => match vs with
      | [.int x] => ∃ b : Bool, x = xb b ∧ post [.int (xb b)] aw
      | _ => False
    | .float => match vs with
      | [.float x] => post [.float x] aw
      | _ => False
    | .double => match vs with
      | [.double x] => post [.double x] aw
      | _ => False
    | _ => False
/-- the locals at a method's entry -/
def xent : Nat → List Value → xO
  | n, [] => List.replicate n none
  | n, v :: r => match v with
    | .double x => match n with
      | n + 2 => some (.double x) :: none :: xent n r
      | _ => []
    | .long x => match n with
      | n + 2 => some (.long x) :: none :: xent n r
      | _ => []
    | w => match n with
      | n + 1 => some w :: xent n r
      | 0 => []
/-- a stack is small: at most eight words -/
def xcat (v : Value) : Nat := match v with
  | .double _ => 2
  | .long _ => 2
  | _ => 1
def xcs : List Value → Nat
  | [] => 0
  | v :: r => xcat v + xcs r
def xsm (st : List Value) : Bool := Nat.ble (xcs st) 8
theorem xcs_eq {ad : Nat → Nat} : ∀ st : List Value, ((st.map (xv ad)).map fun v => v.category).sum = xcs st
  | [] => rfl
  | v :: r => by
    have h := xcs_eq (ad := ad) r
    have h2 : (xv ad v).category = xcat v := by rw [xv_cat]; cases v <;> rfl
    simp only [List.map_cons, List.sum_cons]
    rw [h, h2]
    rfl
theorem xsm_ok {st : List Value} {ad : Nat → Nat} (h : xsm st = true) : ((st.map (xv ad)).map fun v => v.category).sum ≤ 8 := by
  rw [xcs_eq]
  exact Nat.le_of_ble_eq_true h
theorem xent_in {ad : Nat → Nat} : ∀ (av : List Value) (n k : Nat) (q : Nat × Value), xin ad (xent n av) k q → q ∈ lv_args k (av.map (xv ad))
  | [], n, k, q, h => by
    obtain ⟨i, v, h1, -⟩ := h
    exfalso
    have : ∀ (n i : Nat), xg (List.replicate n none) i = none := by
      intro n
      induction n with
      | zero => intro i; cases i <;> rfl
      | succ n ih => intro i; cases i with
        | zero => rfl
        | succ i => exact ih i
    have h1 : xg (List.replicate n none) i = some v := by
      unfold xent at h1
      exact h1
    rw [this] at h1
    cases h1
  | w :: r, n, k, q, h => by
    obtain ⟨i, v, h1, h2⟩ := h
    have two : ∀ (u : Value) (n' : Nat), u.category = 2 → xg (some u :: none :: xent n' r) i = some v → q ∈ lv_args k ((u :: r).map (xv ad)) := by
      intro u n' hc h1
      have hc2 : (xv ad u).category = 2 := by rw [xv_cat]; exact hc
      match i, h1, h2 with
      | 0, h1, h2 => cases h1; rw [h2]; exact List.mem_cons_self
      | 1, h1, h2 => cases h1
      | i + 2, h1, h2 =>
        refine List.mem_cons_of_mem _ ?_
        rw [if_pos hc2]
        exact xent_in r n' (k + 2) q ⟨i, v, h1, by rw [h2, show k + (i + 2) = k + 2 + i by omega]⟩
    have one : ∀ (u : Value) (n' : Nat), u.category = 1 → xg (some u :: xent n' r) i = some v → q ∈ lv_args k ((u :: r).map (xv ad)) := by
      intro u n' hc h1
      have hc2 : ¬ (xv ad u).category = 2 := by rw [xv_cat, hc]; decide
      match i, h1, h2 with
      | 0, h1, h2 => cases h1; rw [h2]; exact List.mem_cons_self
      | i + 1, h1, h2 =>
        refine List.mem_cons_of_mem _ ?_
        rw [if_neg hc2]
        exact xent_in r n' (k + 1) q ⟨i, v, h1, by rw [h2, show k + (i + 1) = k + 1 + i by omega]⟩
    have nil : xg ([] : xO) i = some v → False := fun z => by cases i <;> cases z
    cases w with
    | double x => match n, h1 with
      | 0, h1 => exact (nil h1).elim
      | 1, h1 => exact (nil h1).elim
      | n + 2, h1 => exact two _ n rfl h1
    | long x => match n, h1 with
      | 0, h1 => exact (nil h1).elim
      | 1, h1 => exact (nil h1).elim
      | n + 2, h1 => exact two _ n rfl h1
    | int x => match n, h1 with
      | 0, h1 => exact (nil h1).elim
      | n + 1, h1 => exact one _ n rfl h1
    | float x => match n, h1 with
      | 0, h1 => exact (nil h1).elim
      | n + 1, h1 => exact one _ n rfl h1
    | null => match n, h1 with
      | 0, h1 => exact (nil h1).elim
      | n + 1, h1 => exact one _ n rfl h1
    | ref x => match n, h1 with
      | 0, h1 => exact (nil h1).elim
      | n + 1, h1 => exact one _ n rfl h1
    | retAddr x => match n, h1 with
      | 0, h1 => exact (nil h1).elim
      | n + 1, h1 => exact one _ n rfl h1
section XM
variable {p : Program} {l : Launch} {e : Env} {R : Room} {s : State} {m : MethodId} {args : Array Value} {below : List Frame} {meth : Method} {c : Code} {Q : State → Prop} {A : Nat → Prop} {D : va_G} {ad : Nat → Nat} {cy : Nat → ClassId} {cells slots : Nat}
theorem xp_ok {cc : ByteArray} {own : String} {L : xC} {Fd : Nat → Option (Nat × Nat)} {Cn : Nat → Option Value} {Cl : Nat → List Value → xA → (List Value → xA → Prop) → Prop} {Rt : List Value → xA → Prop} (F : xFix p s m args c D cy cc own L Fd Cn)
    (hCl : ∀ n q i, L[n]? = some q → xinv q.2.1 i → ∀ lv st aw k, Cl i st aw k → (∀ st' aw', k st' aw' → xWc p l e R s m args below meth c Q A D ad cy cells slots (L.drop (n + 1)) lv st' aw') → xWc p l e R s m args below meth c Q A D ad cy cells slots (L.drop n) lv st aw)
    (hRt : ∀ n q lv vs aw, L[n]? = some q → xret q.2.1 vs → Rt vs aw → xWc p l e R s m args below meth c Q A D ad cy cells slots (L.drop n) lv vs aw)
    (cu : Nat → Bool) : ∀ (N k : Nat) (lv : xO) (st : List Value) (aw : xA), xp L Fd Cn Cl Rt (xWc p l e R s m args below meth c Q A D ad cy cells slots) cu N (L.drop k) lv st aw → xWc p l e R s m args below meth c Q A D ad cy cells slots (L.drop k) lv st aw
  | 0, k, lv, st, aw, h => h
  | N + 1, k, lv, st, aw, h => xstep_ok F hCl hRt k lv st aw h (fun n' lv' st' aw' _ hg => by
      cases hc : cu (xpc (L.drop n')) with
      | true => simp only [hc] at hg; exact hg
      | false => simp only [hc] at hg; exact xp_ok F hCl hRt cu N n' lv' st' aw' hg)
theorem xforget {cs : xC} {lv lv' : xO} {st : List Value} {aw : xA} (hle : xle lv' lv) (hln : lv'.length = lv.length) (h : xWc p l e R s m args below meth c Q A D ad cy cells slots cs lv' st aw) : xWc p l e R s m args below meth c Q A D ad cy cells slots cs lv st aw := by
  cases cs with
  | nil => exact h
  | cons q r =>
    intro hml H locs ls hP hD hS hl
    refine h (hln.trans hml) H locs ls hP hD hS ⟨by rw [hln]; exact hl.1, hl.2.1, fun q hq => hl.2.2 q ?_⟩
    obtain ⟨i, v, h1, rfl⟩ := xa_in lv' 0 q hq
    rw [Nat.zero_add]
    exact xmem (xle_g _ _ hle i v h1)
/-- behind a call -/
theorem xcallR {pc : Nat} {ls : Array Slot} {st0 rest : List Value} {a : Array Value} {aw : xA} {post : List Value → xA → Prop} {H : Heap} {locs : List Loc} (hA : ∀ q, s.heap.size ≤ q → A q)
    (hD : va_D A (xw ad cy aw)) (hS : va_S A s.heap H locs) (hr : va_Run p l e R s m args below meth c H locs cells slots 0 0 (F0 m pc ls st0) (rest.map (xv ad)) (xQ D ad cy aw H.size post a) (va_A (xw ad cy aw) H.size))
    (kk : ∀ (vs : List Value) (aw' : xA) (H1 : Heap) (locs1 : List Loc), post vs aw' → va_P D vwCl (xw ad cy aw') H1 → va_D A (xw ad cy aw') → va_S A s.heap H1 locs1 → W p l e R s m args below meth c H1 locs1 cells slots Q (F0 m (pc + 3) ls ((vs ++ rest).map (xv ad)))) : W p l e R s m args below meth c H locs cells slots Q (F0 m pc ls st0) := by
  have hFA : ∀ q, va_A (xw ad cy aw) H.size q → A q := by
    intro q h
    rcases h with ⟨k, e, h⟩ | h
    · exact hD.2 k (q, e) h
    · exact hA q (Nat.le_trans hS.1 h)
  intro T hT X
  obtain ⟨v, st₀, t, T', L, h0, X', hL, e1, e2, ⟨⟨vs, aw', hv, hvl, hp, hP1, hK1, hD1⟩, hz, hk⟩, st⟩ := hr T hT X
  have hv : v = (vs.map (xv ad)).head? := by cases hv; rfl
  rw [h0] at hz hk
  rw [← e1] at hP1
  obtain ⟨t2, a1, b1⟩ := kk vs aw' T'.heap (locs ++ L) hp hP1 (hD1.weaken (fun k q _ h => hFA q.1 h))
    ⟨Nat.le_trans hS.1 (by rw [e1]; exact hz), fun q h1 h2 => by rw [e1, hk q (Nat.lt_of_lt_of_le h1 hS.1) (fun z => h2 (hFA q z))]; exact hS.2.1 q h1 h2, fun q hq => by
      rcases List.mem_append.mp hq with h | h
      · exact hS.2.2 q h
      · exact hFA _ (hL q h)⟩ T' rfl X'
  refine ⟨t2, st t2 ?_, b1⟩
  have e3 : v.toList ++ rest.map (xv ad) = (vs ++ rest).map (xv ad) := by
    rw [hv, List.map_append]
    match vs, hvl with
    | [], _ => rfl
    | [w], _ => rfl
  have e4 : ({ F0 m pc ls st0 with pc := (F0 m pc ls st0).pc + 3, stack := v.toList ++ rest.map (xv ad) } : JFrame) = F0 m (pc + 3) ls ((vs ++ rest).map (xv ad)) := by rw [e3]
  rw [e4]
  exact a1
end XM
