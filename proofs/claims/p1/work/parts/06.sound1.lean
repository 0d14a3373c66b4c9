/-! what the lists of the symbolic run mean -/
theorem xn_eq : ∀ (aw : xA) (a : Nat), xn aw a = aw[a]?
  | [], a => by cases a <;> rfl
  | e :: r, 0 => rfl
  | e :: r, a + 1 => by rw [List.getElem?_cons_succ]; exact xn_eq r a
theorem xu_eq : ∀ (aw : xA) (a : Nat) (e : va_E), xu aw a e = aw.set a e
  | [], a, e => by cases a <;> rfl
  | d :: r, 0, e => rfl
  | d :: r, a + 1, e => by show d :: xu r a e = d :: r.set a e; rw [xu_eq r a e]
theorem xf_eq : ∀ (fs : List Value) (k : Nat), xf fs k = fs[k]?
  | [], k => by cases k <;> rfl
  | v :: r, 0 => rfl
  | v :: r, k + 1 => by rw [List.getElem?_cons_succ]; exact xf_eq r k
theorem xfu_eq : ∀ (fs : List Value) (k : Nat) (v : Value), xfu fs k v = fs.set k v
  | [], k, v => by cases k <;> rfl
  | d :: r, 0, v => rfl
  | d :: r, k + 1, v => by show d :: xfu r k v = d :: r.set k v; rw [xfu_eq r k v]
theorem xw_at {ad : Nat → Nat} {cy : Nat → ClassId} {aw : xA} (a : Nat) : (xw ad cy aw)[a]? = (aw[a]?).map (fun e => (ad a, xe ad cy e)) := by
  simp [xw, List.getElem?_map, List.getElem?_zipIdx]
  rfl
theorem xw_get {ad : Nat → Nat} {cy : Nat → ClassId} {aw : xA} {a : Nat} {e : va_E} (h : xn aw a = some e) : (xw ad cy aw)[a]? = some (ad a, xe ad cy e) := by
  rw [xw_at, ← xn_eq, h]; rfl
theorem xw_set {ad : Nat → Nat} {cy : Nat → ClassId} {aw : xA} {a : Nat} {e : va_E} : (xw ad cy aw).set a (ad a, xe ad cy e) = xw ad cy (xu aw a e) := by
  apply List.ext_getElem?
  intro k
  rw [xu_eq, xw_at, List.getElem?_set, List.getElem?_set]
  by_cases hk : a = k
  · subst hk
    have hl : (xw ad cy aw).length = aw.length := by simp [xw]
    rw [hl]
    by_cases h2 : a < aw.length
    · simp [h2]
    · simp [h2]
  · simp [hk, xw_at]
theorem xg_mem {ad : Nat → Nat} : ∀ (lv : xO) (i : Nat) (n : Nat) {v : Value}, xg lv i = some v → (n + i, xv ad v) ∈ (lv.zipIdx n).filterMap (fun q => q.1.map (fun v => (q.2, xv ad v)))
  | [], i, n, v, h => by cases i <;> cases h
  | o :: r, 0, n, v, h => by
    have h : o = some v := h
    subst h
    rw [List.zipIdx_cons]
    exact List.mem_cons_self
  | o :: r, i + 1, n, v, h => by
    have h1 := xg_mem (ad := ad) r i (n + 1) (v := v) h
    rw [show n + (i + 1) = n + 1 + i by omega]
    rw [List.zipIdx_cons]
    cases o with
    | none => exact h1
    | some w => exact List.mem_cons_of_mem _ h1
theorem xa_at {ad : Nat → Nat} {ls : Array Slot} {nL : Nat} {lv : xO} {i : Nat} {v : Value} (hl : lv_has ls nL (xa ad lv)) (h : xg lv i = some v) : ls[i]? = some (.val (xv ad v)) := by
  have h1 := xg_mem (ad := ad) lv i 0 h
  rw [Nat.zero_add] at h1
  exact hl.2.2 _ h1
theorem xv_cat {ad : Nat → Nat} (v : Value) : (xv ad v).category = v.category := by cases v <;> rfl
/-- the entries of a list of locals, by number -/
def xin (ad : Nat → Nat) (lv : xO) (n : Nat) (q : Nat × Value) : Prop := ∃ i v, xg lv i = some v ∧ q = (n + i, xv ad v)
theorem xa_in {ad : Nat → Nat} : ∀ (lv : xO) (n : Nat) (q : Nat × Value), q ∈ (lv.zipIdx n).filterMap (fun q => q.1.map (fun v => (q.2, xv ad v))) → xin ad lv n q
  | [], n, q, h => by cases h
  | o :: r, n, q, h => by
    rw [List.zipIdx_cons] at h
    have hr : q ∈ (r.zipIdx (n + 1)).filterMap (fun q => q.1.map (fun v => (q.2, xv ad v))) → xin ad (o :: r) n q := fun h2 => by
      obtain ⟨i, v, h3, h4⟩ := xa_in r (n + 1) q h2
      exact ⟨i + 1, v, h3, by rw [h4, show n + (i + 1) = n + 1 + i by omega]⟩
    cases o with
    | none => exact hr h
    | some w =>
      rcases List.mem_cons.mp h with h1 | h1
      · exact ⟨0, w, rfl, h1⟩
      · exact hr h1
theorem xs1_g : ∀ (lv : xO) (i : Nat) (v : Value) (lv' : xO), xs1 lv i v = some lv' → i < lv.length ∧ lv'.length = lv.length ∧ ∀ j w, xg lv' j = some w → (j = i ∧ w = v) ∨ (j ≠ i ∧ xg lv j = some w ∧ ¬ (j + 1 = i ∧ w.category = 2))
  | [], i, v, lv', h => by cases i <;> cases h
  | o :: r, 0, v, lv', h => by
    have h : some (some v :: r) = some lv' := h
    cases h
    refine ⟨Nat.succ_pos _, rfl, fun j w hj => ?_⟩
    cases j with
    | zero => have hj : some v = some w := hj; cases hj; exact Or.inl ⟨rfl, rfl⟩
    | succ j => exact Or.inr ⟨by omega, hj, fun z => by omega⟩
  | o :: r, i + 1, v, lv', h => by
    cases hr : xs1 r i v with
    | none => unfold xs1 at h; rw [hr] at h; cases h
    | some r' =>
      unfold xs1 at h
      rw [hr] at h
      obtain ⟨h1, h2, h3⟩ := xs1_g r i v r' hr
      have h := Option.some.inj h
      subst h
      refine ⟨Nat.succ_lt_succ h1, by show r'.length + 1 = r.length + 1; rw [h2], fun j w hj => ?_⟩
      cases j with
      | zero =>
        cases i with
        | zero =>
          have hj : xk o = some w := hj
          refine Or.inr ⟨by omega, ?_, ?_⟩
          · show o = some w
            cases o with
            | none => exact hj
            | some x => cases x <;> first | exact hj | cases hj
          · rintro ⟨-, z⟩
            cases o with
            | none => cases hj
            | some x =>
              cases x <;> first | (cases hj; cases z; done) | cases hj
        | succ i => exact Or.inr ⟨by omega, hj, fun z => by omega⟩
      | succ j =>
        rcases h3 j w hj with ⟨a1, a2⟩ | ⟨a1, a2, a3⟩
        · exact Or.inl ⟨by omega, a2⟩
        · exact Or.inr ⟨by omega, a2, fun z => a3 ⟨by omega, z.2⟩⟩
theorem xs2_g : ∀ (lv : xO) (i : Nat) (v : Value) (lv' : xO), xs2 lv i v = some lv' → i + 1 < lv.length ∧ lv'.length = lv.length ∧ ∀ j w, xg lv' j = some w → (j = i ∧ w = v) ∨ (j ≠ i ∧ j ≠ i + 1 ∧ xg lv j = some w ∧ ¬ (j + 1 = i ∧ w.category = 2))
  | [], i, v, lv', h => by cases i <;> cases h
  | [o], 0, v, lv', h => by cases h
  | o :: o2 :: r, 0, v, lv', h => by
    have h : some (some v :: none :: r) = some lv' := h
    cases h
    refine ⟨by show 1 < r.length + 2; omega, rfl, fun j w hj => ?_⟩
    match j, hj with
    | 0, hj => have hj : some v = some w := hj; cases hj; exact Or.inl ⟨rfl, rfl⟩
    | 1, hj => cases hj
    | j + 2, hj => exact Or.inr ⟨by omega, by omega, hj, fun z => by omega⟩
  | o :: r, i + 1, v, lv', h => by
    cases hr : xs2 r i v with
    | none => unfold xs2 at h; rw [hr] at h; cases h
    | some r' =>
      unfold xs2 at h
      rw [hr] at h
      obtain ⟨h1, h2, h3⟩ := xs2_g r i v r' hr
      have h := Option.some.inj h
      subst h
      refine ⟨Nat.succ_lt_succ h1, by show r'.length + 1 = r.length + 1; rw [h2], fun j w hj => ?_⟩
      cases j with
      | zero =>
        cases i with
        | zero =>
          have hj : xk o = some w := hj
          refine Or.inr ⟨by omega, by omega, ?_, ?_⟩
          · show o = some w
            cases o with
            | none => exact hj
            | some x => cases x <;> first | exact hj | cases hj
          · rintro ⟨-, z⟩
            cases o with
            | none => cases hj
            | some x =>
              cases x <;> first | (cases hj; cases z; done) | cases hj
        | succ i => exact Or.inr ⟨by omega, by omega, hj, fun z => by omega⟩
      | succ j =>
        rcases h3 j w hj with ⟨a1, a2⟩ | ⟨a1, a0, a2, a3⟩
        · exact Or.inl ⟨by omega, a2⟩
        · exact Or.inr ⟨by omega, by omega, a2, fun z => a3 ⟨by omega, z.2⟩⟩
theorem xmem {ad : Nat → Nat} {lv : xO} {i : Nat} {v : Value} (h : xg lv i = some v) : (i, xv ad v) ∈ xa ad lv := by
  have h1 := xg_mem (ad := ad) lv i 0 h
  rw [Nat.zero_add] at h1
  exact h1
theorem xa_st1 {ad : Nat → Nat} {ls : Array Slot} {nL : Nat} {lv lv' : xO} {i : Nat} {v : Value} (h : xs1 lv i v = some lv') (hl : lv_has ls nL ((i, xv ad v) :: (xa ad lv).filter (fun q => !(q.1 == i) && !(q.1 + 1 == i && q.2.category == 2)))) : lv_has ls nL (xa ad lv') := by
  refine ⟨hl.1, hl.2.1, fun q hq => hl.2.2 q ?_⟩
  obtain ⟨j, w, h1, rfl⟩ := xa_in lv' 0 q hq
  rw [Nat.zero_add]
  rcases (xs1_g lv i v lv' h).2.2 j w h1 with ⟨rfl, rfl⟩ | ⟨h2, h3, h4⟩
  · exact List.mem_cons_self
  · refine List.mem_cons_of_mem _ (List.mem_filter.mpr ⟨xmem h3, ?_⟩)
    show (!(j == i) && !(j + 1 == i && (xv ad w).category == 2)) = true
    rw [xv_cat]
    by_cases h5 : j + 1 = i
    · have h6 : w.category ≠ 2 := fun z => h4 ⟨h5, z⟩
      simp [h2, h6]
    · simp [h2, h5]
theorem xa_st2 {ad : Nat → Nat} {ls : Array Slot} {nL : Nat} {lv lv' : xO} {i : Nat} {v : Value} (h : xs2 lv i v = some lv') (hl : lv_has ls nL ((i, xv ad v) :: (xa ad lv).filter (fun q => !(q.1 == i) && (!(q.1 == i + 1) && !(q.1 + 1 == i && q.2.category == 2))))) : lv_has ls nL (xa ad lv') := by
  refine ⟨hl.1, hl.2.1, fun q hq => hl.2.2 q ?_⟩
  obtain ⟨j, w, h1, rfl⟩ := xa_in lv' 0 q hq
  rw [Nat.zero_add]
  rcases (xs2_g lv i v lv' h).2.2 j w h1 with ⟨rfl, rfl⟩ | ⟨h2, h0, h3, h4⟩
  · exact List.mem_cons_self
  · refine List.mem_cons_of_mem _ (List.mem_filter.mpr ⟨xmem h3, ?_⟩)
    show (!(j == i) && (!(j == i + 1) && !(j + 1 == i && (xv ad w).category == 2))) = true
    rw [xv_cat]
    by_cases h5 : j + 1 = i
    · have h6 : w.category ≠ 2 := fun z => h4 ⟨h5, z⟩
      simp [h2, h0, h6]
    · simp [h2, h0, h5]
/-- fewer locals known -/
def xle : xO → xO → Prop
  | [], _ => True
  | none :: r, o => match o with
    | [] => False
    | _ :: o => xle r o
  | some v :: r, o => match o with
    | [] => False
    | w :: o => w = some v ∧ xle r o
theorem xle_g : ∀ (a b : xO), xle a b → ∀ i v, xg a i = some v → xg b i = some v
  | [], _, _, i, v, h => by cases i <;> cases h
  | none :: r, [], hle, i, v, h => hle.elim
  | none :: r, w :: o, hle, i, v, h => by
    cases i with
    | zero => cases h
    | succ i => exact xle_g r o hle i v h
  | some u :: r, [], hle, i, v, h => hle.elim
  | some u :: r, w :: o, hle, i, v, h => by
    cases i with
    | zero => cases h; exact hle.1
    | succ i => exact xle_g r o hle.2 i v h
