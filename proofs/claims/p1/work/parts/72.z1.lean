/-! constructors: runs that make things -/
def vsc (n : Nat) (v : Value) : Bool := match v with
  | .ref k => Nat.blt k n
  | _ => true
def esc (n : Nat) (e : va_E) : Bool := match e with
  | .inl _ => true
  | .inr (_, fs) => fs.all (vsc n)
def osc (n : Nat) (o : Option Value) : Bool := match o with
  | none => true
  | some v => vsc n v
/-- every place that is named is there -/
def zsc (lv : xO) (st : List Value) (aw : xA) : Bool := Nat.blt 0 aw.length && (lv.all (osc aw.length) && (st.all (vsc aw.length) && aw.all (esc aw.length)))
def agr (n : Nat) (ad ad2 : Nat → Nat) : Prop := ∀ k, k < n → ad2 k = ad k
theorem blt_lt {a b : Nat} (h : Nat.blt a b = true) : a < b := Nat.le_of_ble_eq_true h
theorem vsc_xv {n : Nat} {ad ad2 : Nat → Nat} {v : Value} (h : agr n ad ad2) (hv : vsc n v = true) : xv ad2 v = xv ad v := by
  cases v with
  | ref k => exact congrArg Value.ref (h k (blt_lt hv))
  | _ => rfl
theorem vsc_map {n : Nat} {ad ad2 : Nat → Nat} (h : agr n ad ad2) : ∀ {vs : List Value}, vs.all (vsc n) = true → vs.map (xv ad2) = vs.map (xv ad)
  | [], _ => rfl
  | v :: r, hv => by
    rw [List.all_cons, Bool.and_eq_true] at hv
    show xv ad2 v :: r.map (xv ad2) = xv ad v :: r.map (xv ad)
    rw [vsc_xv h hv.1, vsc_map h hv.2]
theorem esc_xe {n : Nat} {ad ad2 : Nat → Nat} {cy : Nat → ClassId} {e : va_E} (h : agr n ad ad2) (he : esc n e = true) : xe ad2 cy e = xe ad cy e := by
  match e, he with
  | .inl a, _ => rfl
  | .inr (c, fs), he =>
    show Sum.inr (c, fs.map (xv ad2)) = Sum.inr (c, fs.map (xv ad))
    rw [vsc_map h he]
theorem xa_agr0 {n : Nat} {ad ad2 : Nat → Nat} (h : agr n ad ad2) : ∀ (lv : xO) (k : Nat), lv.all (osc n) = true → (lv.zipIdx k).filterMap (fun q => q.1.map (fun v => (q.2, xv ad2 v))) = (lv.zipIdx k).filterMap (fun q => q.1.map (fun v => (q.2, xv ad v)))
  | [], _, _ => rfl
  | o :: r, k, hl => by
    rw [List.all_cons, Bool.and_eq_true] at hl
    rw [List.zipIdx_cons]
    cases o with
    | none => exact xa_agr0 h r (k + 1) hl.2
    | some v =>
      show (k, xv ad2 v) :: _ = (k, xv ad v) :: _
      rw [vsc_xv h hl.1]
      exact congrArg _ (xa_agr0 h r (k + 1) hl.2)
theorem xa_agr {n : Nat} {ad ad2 : Nat → Nat} (h : agr n ad ad2) {lv : xO} (hl : lv.all (osc n) = true) : xa ad2 lv = xa ad lv := xa_agr0 h lv 0 hl
theorem xw_mem {ad : Nat → Nat} {cy : Nat → ClassId} {aw : xA} {q : Nat × va_E} : q ∈ xw ad cy aw ↔ ∃ i e, aw[i]? = some e ∧ q = (ad i, xe ad cy e) := by
  constructor
  · intro h
    obtain ⟨k, hk⟩ := List.mem_iff_getElem?.mp h
    rw [xw_at] at hk
    cases he : aw[k]? with
    | none => rw [he] at hk; cases hk
    | some e =>
      rw [he] at hk
      exact ⟨k, e, he, (Option.some.inj hk).symm⟩
  · rintro ⟨i, e, h1, rfl⟩
    refine List.mem_of_getElem? (i := i) ?_
    rw [xw_at, h1]
    rfl
/-- zero rows by kind -/
def zar (kd N : Nat) : va_E := match kd with
  | 0 => aD N (fun _ => 0)
  | 1 => aF N (fun _ => 0)
  | 2 => aI N (fun _ => 0)
  | 3 => aZ N (fun _ => 0)
  | _ => aL N (fun _ => 0)
def zkd (a : ArrayType) : Option Nat := match a with
  | .double => some 0
  | .float => some 1
  | .int => some 2
  | .boolean => some 3
  | .long => some 4
  | _ => none
/-- a value goes into a field -/
def zput (v : Value) (ty : FieldType) : Bool := match v with
  | .int _ => match ty with
    | .int => true
    | _ => false
  | .double _ => match ty with
    | .double => true
    | _ => false
  | .float _ => match ty with
    | .float => true
    | _ => false
  | .ref _ => match ty with
    | .array _ => true
    | .object _ => true
    | _ => false
  | _ => false
def zstep (Rc Rs : Nat) (L : xC) (Fd : Nat → Option (Nat × Nat)) (Cn : Nat → Option Value) (Cw : Nat → Option (Nat × List Value)) (Ck : Nat → xO → List Value → xA → Nat → Nat → (Nat → Nat → List Value → xA → Prop) → Prop) (Rt : Nat → Nat → List Value → xA → Prop) (go : Nat → Nat → xC → xO → List Value → xA → Prop) (c s : Nat) (cs : xC) (lv : xO) (st : List Value) (aw : xA) : Prop := match cs with
  | [] => False
  | (pc, i, len, t) :: cs => match i with
    | .new j => match Nat.beq len 3 && zsc lv st aw with
      | true => match Cw j with
        | some (ci, fs) => c + 1 ≤ Rc ∧ s + fs.length ≤ Rs ∧ go (c + 1) (s + fs.length) cs lv (.ref aw.length :: st) (aw ++ [.inr (ci, fs)])
        | none => False
      | false => False
    | .newarray k => match zkd k with
      | some kd => match st with
        | .int n :: st => match Nat.beq len 2 && zsc lv st aw with
          | true => ∃ N : Nat, n = nI N ∧ N < 2 ^ 20 ∧ c + 1 ≤ Rc ∧ s + N ≤ Rs ∧ go (c + 1) (s + N) cs lv (.ref aw.length :: st) (aw ++ [zar kd N])
          | false => False
        | _ => False
      | none => False
    | .putfield j => match st with
      | v :: .ref a :: st => match Fd j with
        | some (ci, k) => match xn aw a with
          | some (.inr (cj, fs)) => match Nat.beq cj ci && zput v (xtyp ci k) with
            | true => match xf fs k with
              | some _ => go c s cs lv st (xu aw a (.inr (cj, xfu fs k v)))
              | none => False
            | false => False
          | _ => False
        | none => False
      | _ => False
    | .invokespecial j => match Nat.beq len 3 with
      | true => Ck j lv st aw c s (fun c' s' st' aw' => go c' s' cs lv st' aw')
      | false => False
    | i9 => xstep L Fd Cn (fun _ _ _ _ => False) (Rt c s) (go c s) ((pc, i9, len, t) :: cs) lv st aw
def zxp (Rc Rs : Nat) (L : xC) (Fd : Nat → Option (Nat × Nat)) (Cn : Nat → Option Value) (Cw : Nat → Option (Nat × List Value)) (Ck : Nat → xO → List Value → xA → Nat → Nat → (Nat → Nat → List Value → xA → Prop) → Prop) (Rt : Nat → Nat → List Value → xA → Prop) (K : Nat → Nat → xC → xO → List Value → xA → Prop) (cu : Nat → Bool) : Nat → Nat → Nat → xC → xO → List Value → xA → Prop
  | 0, c, s, cs, lv, st, aw => K c s cs lv st aw
  | n + 1, c, s, cs, lv, st, aw => zstep Rc Rs L Fd Cn Cw Ck Rt (fun c s cs lv st aw => match cu (xpc cs) with
    | true => K c s cs lv st aw
    | false => zxp Rc Rs L Fd Cn Cw Ck Rt K cu n c s cs lv st aw) c s cs lv st aw
def zClOk (own : String) (Cw : Nat → Option (Nat × List Value)) : Prop := ∀ j ci fs, Cw j = some (ci, fs) → ∃ (C : String) (T : u_T) (N : Nat), vwCl[ci]? = some (C, T, N) ∧ fs.length = N ∧ Cond.classLink own j C ∈ xG ∧ Cond.instantiable C N ∈ xG ∧ Cond.initialized C ∈ xG ∧ (∀ k, k < N → defaultValue (xtyp ci k) = vp_V fs k) ∧ fs.all nrf = true
theorem zarr_ok : (∀ ty ∈ ([.double, .float, .int, .boolean, .long] : List FieldType), Cond.arrayClass ty ∈ xG) := by decide +kernel
theorem nrf_map {ad : Nat → Nat} : ∀ {vs : List Value}, vs.all nrf = true → vs.map (xv ad) = vs
  | [], _ => rfl
  | v :: r, h => by
    rw [List.all_cons, Bool.and_eq_true] at h
    show xv ad v :: r.map (xv ad) = v :: r
    rw [xv_nrf h.1, nrf_map h.2]
section ZS
variable {p : Program} {l : Launch} {e : Env} {R : Room} {s : State} {m : MethodId} {args : Array Value} {below : List Frame} {meth : Method} {c : Code} {Q : State → Prop} {A : Nat → Prop} {D : va_G} {cy : Nat → ClassId} {a0 : Nat}
def zWc (p : Program) (l : Launch) (e : Env) (R : Room) (s : State) (m : MethodId) (args : Array Value) (below : List Frame) (meth : Method) (c : Code) (Q : State → Prop) (A : Nat → Prop) (D : va_G) (cy : Nat → ClassId) (a0 : Nat) (cells slots : Nat) (cs : xC) (lv : xO) (st : List Value) (aw : xA) : Prop := ∀ ad : Nat → Nat, ad 0 = a0 → xWc p l e R s m args below meth c Q A D ad cy cells slots cs lv st aw
theorem xw_snoc {ad : Nat → Nat} {cy : Nat → ClassId} {aw : xA} {q : Nat} {e : va_E} (he : ∀ ad2 : Nat → Nat, xe ad2 cy e = xe ad cy e) (hs : aw.all (esc aw.length) = true) : xw (fun k => if k = aw.length then q else ad k) cy (aw ++ [e]) = xw ad cy aw ++ [(q, xe ad cy e)] := by
  have ha : agr aw.length ad (fun k => if k = aw.length then q else ad k) := fun k hk => if_neg (by omega)
  apply List.ext_getElem?
  intro k
  rw [xw_at]
  by_cases hk : k < aw.length
  · rw [List.getElem?_append_left hk, List.getElem?_append_left (by simp [xw]; exact hk), xw_at]
    cases h1 : aw[k]? with
    | none => rfl
    | some e1 =>
      have h2 : esc aw.length e1 = true := List.all_eq_true.mp hs e1 (List.mem_of_getElem? h1)
      show some (_, _) = some (_, _)
      rw [esc_xe ha h2, if_neg (by omega)]
  · have hl : (xw ad cy aw).length = aw.length := by simp [xw]
    rw [List.getElem?_append_right (by omega), List.getElem?_append_right (by omega), hl]
    by_cases hk2 : k = aw.length
    · subst hk2
      rw [Nat.sub_self]
      show some (_, _) = some (_, _)
      rw [he, if_pos rfl]
    · have h9 : 1 ≤ k - aw.length := by omega
      rw [List.getElem?_eq_none (by simp; omega), List.getElem?_eq_none (by simp; omega)]
      rfl
theorem znewa {cc : ByteArray} {ad : Nat → Nat} {at9 : ArrayType} {ty : FieldType} {kd N pc : Nat} {a1 : (Nat → Int32) ⊕ ((Nat → Int64) ⊕ ((Nat → UInt32) ⊕ ((Nat → UInt64) ⊕ (Nat → Option Nat))))} {ws : va_W} {H : Heap} {locs : List Loc} {ls : Array Slot} {rest : List Value} {cells slots : Nat} (hx : p.tables.exec = Jvm.exec) (hb : c.code = cc) (hts : ∀ w ∈ xG, w.before args s = true) (hty : newarray.typeOf at9 = ty) (harr : Cond.arrayClass ty ∈ xG) (hK : va_K D vwCl (xty cy) s) (hkt : (xty cy)[kd]? = some (cy kd, ty)) (huq : ∀ cA cB, va_RA s cA ty → va_RA s cB ty → cA = cB) (ha : ∀ cA : ClassId, vp_cell cA (N, a1) = arrV cA N (fun _ => defaultValue ty))
    (hP : va_P D vwCl ws H) (hD : va_D A ws) (hS : va_S A s.heap H locs) (hA : ∀ q, s.heap.size ≤ q → A q) (hN : N < 2 ^ 20) (hby : componentBytes ty ≤ 8) (hc : cells + 1 ≤ R.cells) (hs : slots + N ≤ R.slots) (hdg : decode cc pc = .ok (.newarray at9, 2))
    (kk : ∀ (q : Nat) (H1 : Heap), va_P D vwCl (ws ++ [(q, .inl (cy kd, N, a1))]) H1 → va_D A (ws ++ [(q, .inl (cy kd, N, a1))]) → va_S A s.heap H1 locs → W p l e R s m args below meth c H1 locs (cells + 1) (slots + N) Q (F0 m (pc + 2) ls (.ref q :: rest))) : W p l e R s m args below meth c H locs cells slots Q (F0 m pc ls (.int (nI N) :: rest)) := by
  have hbb : N * componentBytes ty ≤ 536870912 := Nat.le_trans (Nat.mul_le_mul (Nat.le_of_lt hN) hby) (by decide)
  refine va_newa hx hb (hts _ (by rw [hty]; exact harr)) hty hK hP hD hS hA ha (nI_pos (by omega)) (nI_clamp (by omega)) hbb hc hs hdg (fun q cA H1 hK1 hP1 hD1 hS1 => ?_)
  have hk1 := (hK.2 kd _ hkt).2
  have hk2 := (hK1.2 (xty cy).length (cA, ty) (by rw [List.getElem?_append_right (Nat.le_refl _), Nat.sub_self]; rfl)).2
  have e1 : cA = cy kd := huq _ _ hk2 hk1
  rw [e1] at hP1 hD1
  exact kk q H1 hP1 hD1 hS1
end ZS
