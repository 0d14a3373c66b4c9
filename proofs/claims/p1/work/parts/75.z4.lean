/-! a constructor that calls a constructor -/
def xrn (a n : Nat) (v : Value) : Value := match v with
  | .ref k => match k with
    | 0 => .ref a
    | k + 1 => .ref (n + k)
  | w => w
def xrnE (a n : Nat) (e : va_E) : va_E := match e with
  | .inl z => .inl z
  | .inr (c, fs) => .inr (c, fs.map (xrn a n))
/-- the world behind a constructor's call: its object at a is e1, its other things lie behind the last -/
def zjo (aw : xA) (a : Nat) (e1 : va_E) (tl : xA) : xA := xu aw a (xrnE a aw.length e1) ++ tl.map (xrnE a aw.length)
theorem xe_rn {ad2 ad' : Nat → Nat} {cy : Nat → ClassId} {a n : Nat} (h0 : ad2 a = ad' 0) (h1 : ∀ k, ad2 (n + k) = ad' (k + 1)) (e : va_E) : xe ad2 cy (xrnE a n e) = xe ad' cy e := by
  match e with
  | .inl z => rfl
  | .inr (c, fs) =>
    show Sum.inr (c, (fs.map (xrn a n)).map (xv ad2)) = Sum.inr (c, fs.map (xv ad'))
    rw [List.map_map]
    congr 2
    apply List.map_congr_left
    intro v _
    cases v with
    | ref k =>
      cases k with
      | zero => exact congrArg Value.ref h0
      | succ k => exact congrArg Value.ref (h1 k)
    | _ => rfl
section ZC
variable {p : Program} {l : Launch} {e : Env} {R : Room} {s : State} {m : MethodId} {args : Array Value} {below : List Frame} {meth : Method} {c : Code} {Q : State → Prop} {A : Nat → Prop} {D : va_G} {cy : Nat → ClassId} {a0 : Nat}
set_option maxHeartbeats 1000000 in
theorem zk_core {ad : Nat → Nat} {L : xC} {n a c9 s9 mc ms : Nat} {q : xI} {lv : xO} {rest st0 : List Value} {aw tl : xA} {e0 e1 : va_E} {aa : Array Value} (hA : ∀ q, s.heap.size ≤ q → A q) (hT : xokT L = true) (hq : L[n]? = some q) (hq3 : q.2.2.1 = 3) (h0 : ad 0 = a0) (hml : lv.length = c.maxLocals) {H : Heap} {locs : List Loc} {ls : Array Slot}
    (hP : va_P D vwCl (xw ad cy aw) H) (hD : va_D A (xw ad cy aw)) (hS : va_S A s.heap H locs) (hl : lv_has ls lv.length (xa ad lv)) (hw : xn aw a = some e0) (hsc : zsc lv rest aw = true)
    (hrun : va_Run p l e R s m args below meth c H locs c9 s9 mc ms (F0 m q.1 ls st0) (rest.map (xv ad)) (zQc D cy (ad a) e0 (e1 :: tl) H.size aa) (va_A [(ad a, e0)] H.size))
    (next : zWc p l e R s m args below meth c Q A D cy a0 (c9 + mc) (s9 + ms) (L.drop (n + 1)) lv rest (zjo aw a e1 tl)) : W p l e R s m args below meth c H locs c9 s9 Q (F0 m q.1 ls st0) := by
  obtain ⟨k1, k2, k3, k4⟩ := zsc_parts hsc
  have hwa : aw[a]? = some e0 := by rw [← xn_eq]; exact hw
  have han : a < aw.length := (List.getElem?_eq_some_iff.mp hwa).1
  have hAa : A (ad a) := by
    have := hD.2 a (ad a, xe ad cy e0) (xw_get hw)
    exact this
  have hFA : ∀ z, va_A [(ad a, e0)] H.size z → A z := by
    rintro z (⟨k, e9, h⟩ | h)
    · have h2 := List.mem_of_getElem? h
      rw [List.mem_singleton] at h2
      cases h2
      exact hAa
    · exact hA z (Nat.le_trans hS.1 h)
  intro T hT9 X
  obtain ⟨v, st₀, t, T', Lc, g0, X', hL, e1', e2', ⟨⟨hv, ad', hd0, hP1, hK1, hD1⟩, hz, hk⟩, st⟩ := hrun T hT9 X
  cases hv
  rw [g0] at hz hk
  rw [← e1'] at hP1 hk hz
  obtain ⟨ad2, had2⟩ : ∃ f : Nat → Nat, f = fun k => if k < aw.length then ad k else ad' (1 + (k - aw.length)) := ⟨_, rfl⟩
  have a1 : ∀ k, k < aw.length → ad2 k = ad k := fun k hk => by rw [had2]; exact if_pos hk
  have a2 : ∀ k, ad2 (aw.length + k) = ad' (k + 1) := fun k => by
    rw [had2]
    show (if aw.length + k < aw.length then _ else ad' (1 + (aw.length + k - aw.length))) = _
    rw [if_neg (by omega), Nat.add_sub_cancel_left, Nat.add_comm]
  have ha : agr aw.length ad ad2 := a1
  have h2a : ad2 a = ad' 0 := by rw [a1 a han, hd0]
  have hget : ∀ i e9, (zjo aw a e1 tl)[i]? = some e9 → (i < aw.length ∧ i ≠ a ∧ aw[i]? = some e9) ∨ (i = a ∧ e9 = xrnE a aw.length e1) ∨ (aw.length ≤ i ∧ ∃ e8, tl[i - aw.length]? = some e8 ∧ e9 = xrnE a aw.length e8) := by
    intro i e9 h
    have hxl : (xu aw a (xrnE a aw.length e1)).length = aw.length := by rw [xu_eq, List.length_set]
    unfold zjo at h
    by_cases hi : i < aw.length
    · rw [List.getElem?_append_left (by rw [hxl]; exact hi), xu_eq, List.getElem?_set] at h
      by_cases hia : a = i
      · rw [if_pos hia, if_pos (by omega)] at h
        exact Or.inr (Or.inl ⟨hia.symm, (Option.some.inj h).symm⟩)
      · rw [if_neg hia] at h
        exact Or.inl ⟨hi, fun z => hia z.symm, h⟩
    · rw [List.getElem?_append_right (by rw [hxl]; omega), hxl, List.getElem?_map] at h
      cases h8 : tl[i - aw.length]? with
      | none => rw [h8] at h; cases h
      | some e8 =>
        rw [h8] at h
        exact Or.inr (Or.inr ⟨by omega, e8, rfl, (Option.some.inj h).symm⟩)
  have hxr : ∀ e9, xe ad2 cy (xrnE a aw.length e9) = xe ad' cy e9 := xe_rn h2a a2
  have hP9 := va_P_mem.mp hP
  have hP19 := va_P_mem.mp hP1
  have hlt : ∀ i, i < aw.length → ad i < H.size := fun i hi => by
    cases h8 : aw[i]? with
    | none => exact absurd (List.getElem?_eq_none_iff.mp h8) (by omega)
    | some e8 => exact (hP9 _ (xw_mem.mpr ⟨i, e8, h8, rfl⟩)).lt
  have hinj : ∀ i j, i < aw.length → j < aw.length → ad i = ad j → i = j := fun i j hi hj h => by
    cases h8 : aw[i]? with
    | none => exact absurd (List.getElem?_eq_none_iff.mp h8) (by omega)
    | some e8 =>
      cases h7 : aw[j]? with
      | none => exact absurd (List.getElem?_eq_none_iff.mp h7) (by omega)
      | some e7 => exact hD.1 i j (ad i, xe ad cy e8) (ad j, xe ad cy e7) (by rw [xw_at, h8]; rfl) (by rw [xw_at, h7]; rfl) h
  have hin1 : ∀ i j, i < (e1 :: tl).length → j < (e1 :: tl).length → ad' i = ad' j → i = j := fun i j hi hj h =>
    hD1.1 i j (ad' i, xe ad' cy (e1 :: tl)[i]) (ad' j, xe ad' cy (e1 :: tl)[j]) (by rw [xw_at, List.getElem?_eq_getElem hi]; rfl) (by rw [xw_at, List.getElem?_eq_getElem hj]; rfl) h
  have hA1 : ∀ i, i < (e1 :: tl).length → va_A [(ad a, e0)] H.size (ad' i) := fun i hi => hD1.2 i (ad' i, xe ad' cy (e1 :: tl)[i]) (by rw [xw_at, List.getElem?_eq_getElem hi]; rfl)
  have hnew : ∀ j, j < tl.length → H.size ≤ ad' (j + 1) := fun j hj => by
    rcases hA1 (j + 1) (Nat.succ_lt_succ hj) with ⟨k, e9, h⟩ | h
    · have h2 := List.mem_of_getElem? h
      rw [List.mem_singleton] at h2
      have h3 : ad' (j + 1) = ad' 0 := by rw [hd0]; exact congrArg Prod.fst h2
      have := hin1 (j + 1) 0 (Nat.succ_lt_succ hj) (Nat.succ_pos _) h3
      omega
    · exact h
  have hP2 : va_P D vwCl (xw ad2 cy (zjo aw a e1 tl)) T'.heap := va_P_mem.mpr (fun z hz9 => by
    obtain ⟨i, e9, hi, rfl⟩ := xw_mem.mp hz9
    rcases hget i e9 hi with ⟨b1, b2, b3⟩ | ⟨rfl, rfl⟩ | ⟨b1, e8, b3, rfl⟩
    · have hsc9 : esc aw.length e9 = true := List.all_eq_true.mp k4 e9 (List.mem_of_getElem? b3)
      rw [a1 i b1, esc_xe ha hsc9]
      refine (hP9 _ (xw_mem.mpr ⟨i, e9, b3, rfl⟩)).kept (hk _ (hlt i b1) ?_)
      rintro (⟨k, e7, h⟩ | h)
      · have h2 := List.mem_of_getElem? h
        rw [List.mem_singleton] at h2
        exact b2 (hinj i a b1 han (congrArg Prod.fst h2))
      · have := hlt i b1
        have h : H.size ≤ ad i := h
        omega
    · rw [hxr, h2a]
      exact hP19 _ (xw_mem.mpr ⟨0, e1, rfl, rfl⟩)
    · obtain ⟨k, rfl⟩ : ∃ k, i = aw.length + k := ⟨i - aw.length, by omega⟩
      rw [Nat.add_sub_cancel_left] at b3
      rw [hxr, a2]
      exact hP19 _ (xw_mem.mpr ⟨k + 1, e8, b3, rfl⟩))
  have hD2 : va_D A (xw ad2 cy (zjo aw a e1 tl)) := by
    have hzl : (zjo aw a e1 tl).length = aw.length + tl.length := by unfold zjo; rw [List.length_append, List.length_map, xu_eq, List.length_set]
    have hidx : ∀ (i : Nat) (z : Nat × va_E), (xw ad2 cy (zjo aw a e1 tl))[i]? = some z → i < aw.length + tl.length ∧ z.1 = ad2 i := by
      intro i z h
      rw [xw_at] at h
      cases h8 : (zjo aw a e1 tl)[i]? with
      | none => rw [h8] at h; cases h
      | some e8 =>
        rw [h8] at h
        have h6 := (List.getElem?_eq_some_iff.mp h8).1
        rw [hzl] at h6
        exact ⟨h6, by rw [← Option.some.inj h]⟩
    have hcase : ∀ i, i < aw.length + tl.length → (i < aw.length ∧ ad2 i = ad i) ∨ ∃ k, i = aw.length + k ∧ k < tl.length ∧ ad2 i = ad' (k + 1) := fun i hi => by
      by_cases h : i < aw.length
      · exact Or.inl ⟨h, a1 i h⟩
      · exact Or.inr ⟨i - aw.length, by omega, by omega, by rw [← a2]; congr 1; omega⟩
    refine ⟨fun i j z y hi hj hzy => ?_, fun i z hi => ?_⟩
    · obtain ⟨i1, i2⟩ := hidx i z hi
      obtain ⟨j1, j2⟩ := hidx j y hj
      rw [i2, j2] at hzy
      rcases hcase i i1 with ⟨b1, b2⟩ | ⟨k, rfl, b1, b2⟩
      · rcases hcase j j1 with ⟨d1, d2⟩ | ⟨k9, rfl, d1, d2⟩
        · rw [b2, d2] at hzy
          exact hinj i j b1 d1 hzy
        · rw [b2, d2] at hzy
          have := hlt i b1
          have := hnew k9 d1
          omega
      · rcases hcase j j1 with ⟨d1, d2⟩ | ⟨k9, rfl, d1, d2⟩
        · rw [b2, d2] at hzy
          have := hlt j d1
          have := hnew k b1
          omega
        · rw [b2, d2] at hzy
          have := hin1 (k + 1) (k9 + 1) (Nat.succ_lt_succ b1) (Nat.succ_lt_succ d1) hzy
          omega
    · obtain ⟨i1, i2⟩ := hidx i z hi
      rw [i2]
      rcases hcase i i1 with ⟨b1, b2⟩ | ⟨k, rfl, b1, b2⟩
      · rw [b2]
        cases h8 : aw[i]? with
        | none => exact absurd (List.getElem?_eq_none_iff.mp h8) (by omega)
        | some e8 => exact hD.2 i (ad i, xe ad cy e8) (by rw [xw_at, h8]; rfl)
      · rw [b2]
        exact hFA _ (hA1 (k + 1) (Nat.succ_lt_succ b1))
  have h1 := next ad2 (by rw [a1 0 k1]; exact h0)
  cases hdr2 : L.drop (n + 1) with
  | nil => rw [hdr2] at h1; exact h1.elim
  | cons q2 r2 =>
    rw [hdr2] at h1
    have h3 := h1 hml T'.heap (locs ++ Lc) ls hP2 hD2 ⟨Nat.le_trans hS.1 hz, fun z h1 h2 => by rw [hk z (Nat.lt_of_lt_of_le h1 hS.1) (fun y => h2 (hFA z y))]; exact hS.2.1 z h1 h2, fun z hz9 => by
      rcases List.mem_append.mp hz9 with h | h
      · exact hS.2.2 z h
      · exact hFA _ (hL z h)⟩ (by rw [xa_agr ha k2]; exact hl)
    rw [xnext hT hq hdr2, hq3, vsc_map ha k3] at h3
    obtain ⟨t2, b1, b2⟩ := h3 T' rfl X'
    exact ⟨t2, st t2 b1, b2⟩
end ZC
/-- a call of a constructor that makes of e0 the things e1, tl -/
def z_con (Rc Rs mc ms : Nat) (as : List Value) (e0 e1 : va_E) (tl : xA) (lv : xO) (st : List Value) (aw : xA) (c9 s9 : Nat) (k : Nat → Nat → List Value → xA → Prop) : Prop :=
  ∃ (a : Nat) (rest : List Value), st = as.reverse ++ .ref a :: rest ∧ xn aw a = some e0 ∧ zsc lv rest aw = true ∧ xsm rest = true ∧ c9 + mc ≤ Rc ∧ s9 + ms ≤ Rs ∧ k (c9 + mc) (s9 + ms) rest (zjo aw a e1 tl)
theorem zblind {D : va_G} {cy : Nat → ClassId} {a0 : Nat} {av : List Value} {e0 : va_E} {sz : Nat} : FrameBlind (zPc D cy a0 av e0 sz) := fun a U g mk q => by
  obtain ⟨q0, q1, qP, qK, qD, qN⟩ := q
  exact ⟨q0, q1, qP, va_K.moved (u := U) (U := U.calling g mk a) (Vm.Alike.refl U.vm) qK, qD, xNs.same (u := U) (U := U.calling g mk a) rfl qN⟩
theorem zgood {y' : MethodName} {cc' : ByteArray} {n' : Nat} (h : Cond.code y' cc' n' none ∈ xG) : GoodIn xG (xW0 y' cc' n' none) := by
  intro w hw
  have hm : w ∈ xG := by
    unfold xW0 at hw
    rcases List.mem_cons.mp hw with h1 | h1
    · rw [h1]; exact h
    · exact h1
  exact ⟨hm, good_of_word (xG_good w hm)⟩
section ZE
variable {l : Launch} {R : Room} {D : va_G} {cy : Nat → ClassId} {own : String} {j n' d' mc ms na : Nat} {y' : MethodName} {cc' : ByteArray} {as : List Value} {e0 e1 : va_E} {tl : xA}
theorem zpre {s : State} {H : Heap} {ad : Nat → Nat} {aw : xA} {A : Nat → Prop} {a : Nat} (hK : va_K D vwCl (xty cy) s) (hNs : xNs s) (hP : va_P D vwCl (xw ad cy aw) H) (hD : va_D A (xw ad cy aw)) (hw : xn aw a = some e0) (he0 : ∀ ad : Nat → Nat, xe ad cy e0 = e0) : PreS s H (zPc D cy (ad a) as e0 H.size) (.ref (ad a) :: as) := by
  have hg := xw_get (ad := ad) (cy := cy) hw
  rw [he0] at hg
  refine ⟨zblind, fun U hU hW => ⟨rfl, by rw [hU], ?_, va_K.moved hW.alike hK, ?_, hNs.warm hW⟩⟩
  · rw [hU]
    refine va_P_mem.mpr (fun q hq => ?_)
    rw [List.mem_singleton.mp hq]
    exact hP a _ hg
  · refine ⟨fun i j p q hi hj _ => ?_, fun _ _ _ => trivial⟩
    have hi2 := (List.getElem?_eq_some_iff.mp hi).1
    have hj2 := (List.getElem?_eq_some_iff.mp hj).1
    simp only [List.length_cons, List.length_nil] at hi2 hj2
    omega
theorem ze_con (hM : zMet l y' cc' n' d' mc ms D cy as e0 (e1 :: tl)) (hws : ∀ w ∈ ([.methodLink own j y', .instanceMethod y', .initialized y'.cls, .code y' cc' n' none] : List Cond), w ∈ xG) (hyn : y'.name = "<init>")
    (hd : y'.cls ≠ "java/lang/invoke/MethodHandle" ∧ y'.cls ≠ "java/lang/invoke/VarHandle" ∧ (parseMethodDescriptor y'.desc).map (fun d => d.parameters.length) = some as.length) (hR : d' + 1 ≤ R.frames ∧ 8 + (n' + 11) + 40 * d' ≤ R.locals) (hav : as.all nrf = true) (he0 : ∀ ad : Nat → Nat, xe ad cy e0 = e0) : zEnt l R D cy own j (z_con R.cells R.slots mc ms as e0 e1 tl) := by
  intro cc L Fd Cn p e s m args below meth c Q A a0 hA F n q hq hi hi3 lv st aw c9 s9 k hk kk
  obtain ⟨hx, hb, hts, hown, hK, hE, hT, -, -, -, hNs⟩ := id F
  obtain ⟨a, rest, rfl, hw, hsc, hsm, hc1, hs1, hk⟩ := hk
  have next := kk _ _ _ _ hk
  refine lhead hq (fun r9 hdr => ?_)
  have hdq := xdec hE hq
  rw [hdr]
  intro ad h0 hml H locs ls hP hD hS hl
  have hdq : decode cc q.1 = .ok (.invokespecial j, 3) := by rw [hdq, hi, hi3]
  have hrun := va_runI (p := p) (l := l) (e := e) (R := R) (m := m) (below := below) (meth := meth) (H := H) (locs := locs) (cells := c9) (slots := s9) (g := F0 m q.1 ls ((as.reverse ++ .ref a :: rest).map (xv ad))) (b := ad a) (As := as) (rest := rest.map (xv ad)) (nL := lv.length) ⟨hx, hb, hml.symm, hown, hts⟩ (hM (ad a) H.size) (cwI as.length hts (zgood (hws _ (by simp))) rfl rfl rfl (hts _ (hws _ (by simp))) (hts _ (hws _ (by simp))) (hts _ (hws _ (by simp))) hyn hd hR) (zpre hK hNs hP hD hw he0) rfl rfl hl.1 (by
    show (as.reverse ++ .ref a :: rest).map (xv ad) = _
    rw [List.map_append, List.map_reverse, nrf_map hav]
    rfl) (lv_room (xsm_ok hsm)) hdq ⟨hc1, hs1⟩
  exact zk_core hA hT hq hi3 h0 hml hP hD hS hl hw hsc hrun next
theorem ze_conN {host : String} (hM : zMet l y' cc' n' d' mc ms D cy as e0 (e1 :: tl)) (hnl : (own, j, y', host) ∈ xNl) (hws : ∀ w ∈ ([.instanceMethod y', .initialized y'.cls, .code y' cc' n' none] : List Cond), w ∈ xG) (hyn : y'.name = "<init>")
    (hd : y'.cls ≠ "java/lang/invoke/MethodHandle" ∧ y'.cls ≠ "java/lang/invoke/VarHandle" ∧ (parseMethodDescriptor y'.desc).map (fun d => d.parameters.length) = some as.length) (hR : d' + 1 ≤ R.frames ∧ 8 + (n' + 11) + 40 * d' ≤ R.locals) (hav : as.all nrf = true) (he0 : ∀ ad : Nat → Nat, xe ad cy e0 = e0) : zEnt l R D cy own j (z_con R.cells R.slots mc ms as e0 e1 tl) := by
  intro cc L Fd Cn p e s m args below meth c Q A a0 hA F n q hq hi hi3 lv st aw c9 s9 k hk kk
  obtain ⟨hx, hb, hts, hown, hK, hE, hT, -, -, -, hNs⟩ := id F
  obtain ⟨a, rest, rfl, hw, hsc, hsm, hc1, hs1, hk⟩ := hk
  have next := kk _ _ _ _ hk
  refine lhead hq (fun r9 hdr => ?_)
  have hdq := xdec hE hq
  rw [hdr]
  intro ad h0 hml H locs ls hP hD hS hl
  have hdq : decode cc q.1 = .ok (.invokespecial j, 3) := by rw [hdq, hi, hi3]
  have hcn : va_CN R s args own j y' host cc' n' none (xW0 y' cc' n' none) (zRm d' mc ms) mc ms as.length := va_cnB as.length hts (zgood (hws _ (by simp))) rfl rfl rfl (hNs _ hnl) (hts _ (hws _ (by simp))) hd hR
  have hrun := va_runIN (p := p) (l := l) (e := e) (R := R) (m := m) (below := below) (meth := meth) (H := H) (locs := locs) (cells := c9) (slots := s9) (g := F0 m q.1 ls ((as.reverse ++ .ref a :: rest).map (xv ad))) (b := ad a) (As := as) (rest := rest.map (xv ad)) (nL := lv.length) ⟨hx, hb, hml.symm, hown, hts⟩ (hM (ad a) H.size) ⟨hcn, hyn, hts _ (hws _ (by simp))⟩ (zpre hK hNs hP hD hw he0) rfl rfl hl.1 (by
    show (as.reverse ++ .ref a :: rest).map (xv ad) = _
    rw [List.map_append, List.map_reverse, nrf_map hav]
    rfl) (lv_room (xsm_ok hsm)) hdq ⟨hc1, hs1⟩
  exact zk_core hA hT hq hi3 h0 hml hP hD hS hl hw hsc hrun next
end ZE
/-- what a constructor's proof may use -/
def zSys (Rc Rs : Nat) (L : xC) (Fd : Nat → Option (Nat × Nat)) (Cn : Nat → Option Value) (Cw : Nat → Option (Nat × List Value)) (Ck : Nat → xO → List Value → xA → Nat → Nat → (Nat → Nat → List Value → xA → Prop) → Prop) (Rt : Nat → Nat → List Value → xA → Prop) (ZC : Nat → Nat → xC → xO → List Value → xA → Prop) : Prop :=
  (∀ (cu : Nat → Bool) (M c9 s9 k : Nat) (lv : xO) (st : List Value) (aw : xA), zxp Rc Rs L Fd Cn Cw Ck Rt ZC cu M c9 s9 (L.drop k) lv st aw → ZC c9 s9 (L.drop k) lv st aw) ∧
  (∀ (c9 s9 k : Nat) (lv lv' : xO) (st : List Value) (aw : xA), xle lv' lv → lv'.length = lv.length → ZC c9 s9 (L.drop k) lv' st aw → ZC c9 s9 (L.drop k) lv st aw)
set_option maxHeartbeats 1000000 in
theorem zmet {l : Launch} {y : MethodName} {cc : ByteArray} {n d mc ms : Nat} {D : va_G} {cy : Nat → ClassId} {av : List Value} {e0 : va_E} {awo : xA} {L : xC} {Fd : Nat → Option (Nat × Nat)} {Cn : Nat → Option Value} {Cw : Nat → Option (Nat × List Value)} {Ck : Nat → xO → List Value → xA → Nat → Nat → (Nat → Nat → List Value → xA → Prop) → Prop}
    (hy : plainName y.cls = true) (hyn : y.name = "<init>") (hE : L.all (xokE cc) = true) (hT : xokT L = true) (hL : ∃ q r, L = q :: r ∧ q.1 = 0) (hPl : xPool y.cls Fd Cn) (hdc : ∀ j ci k, Fd j = some (ci, k) → ∀ C T N, vwCl[ci]? = some (C, T, N) → (T k).2.2.2 = true → (T k).1 = y.cls) (hCw : zClOk y.cls Cw) (hCk : zCkOk l (zRm d mc ms) D cy y.cls cc L Fd Cn Ck) (hn : (lg_sl (.ref 0 :: av)).length ≤ n) (hav : av.all nrf = true) (he0 : ∀ ad : Nat → Nat, xe ad cy e0 = e0)
    (body : ∀ ZC : Nat → Nat → xC → xO → List Value → xA → Prop, zSys mc ms L Fd Cn Cw Ck (fun c9 s9 vs aw => c9 ≤ mc ∧ s9 ≤ ms ∧ vs = [] ∧ aw = awo) ZC → ZC 0 0 L (xent n (.ref 0 :: av)) [] [e0]) : zMet l y cc n d mc ms D cy av e0 awo := by
  intro a0 sz
  refine Met.ofW (cc := cc) (maxL := n) (ret := none) hy rfl ?_
  intro p e s m args below meth c s₁ B hml hv
  obtain ⟨rfl, hsz, hP, hK, hD0, hNs⟩ := hv
  have hx := B.exec
  have hb := B.bytes
  have hr := B.returns
  have hts0 := atoms_spec (ws := xW0 y cc n none) B.pre
  have hts : ∀ w ∈ xG, w.before (Value.ref a0 :: av).toArray s = true := fun w h => hts0 w (List.mem_cons_of_mem _ h)
  have hown : s.vm.findClass y.cls = some m.cls := findClass_of_methodNamed B.named
  have hlocks := B.notSynchronized
  have hin : meth.name = "<init>" := ((name_of_methodNamed B.named B.method).1).trans hyn
  subst hsz
  have hD := hD0.self (sz := s.heap.size)
  have hA : ∀ q : Nat, s.heap.size ≤ q → va_A [(a0, e0)] s.heap.size q := fun q h => Or.inr h
  have hS : va_S (va_A [(a0, e0)] s.heap.size) s.heap s.heap [] := va_S.rf
  have em : ∀ ad : Nat → Nat, ad 0 = a0 → (Value.ref 0 :: av).map (xv ad) = .ref a0 :: av := fun ad h => by
    show Value.ref (ad 0) :: av.map (xv ad) = _
    rw [h, nrf_map hav]
  have ew : ∀ ad : Nat → Nat, ad 0 = a0 → xw ad cy [e0] = [(a0, e0)] := fun ad h => by
    show [(ad 0, xe ad cy e0)] = _
    rw [h, he0]
  have hl := lv_entry (Value.ref a0 :: av) (n := n) (by rw [← em (fun _ => a0) rfl, lg_sl_map]; exact hn)
  have F : xFix p s m (Value.ref a0 :: av).toArray c D cy cc y.cls L Fd Cn := ⟨hx, hb, hts, hown, hK, hE, hT, hPl.1, hPl.2.1, hPl.2.2, hNs⟩
  rw [lg_entry_eq]
  generalize (lg_sl (Value.ref a0 :: av) ++ List.replicate (n - (lg_sl (Value.ref a0 :: av)).length) Slot.unset).toArray = ls at hl ⊢
  obtain ⟨q0, r0, hL1, hq0⟩ := hL
  have hRt : ∀ (ad : Nat → Nat), ad 0 = a0 → ∀ c9 s9 n' q lv vs aw', L[n']? = some q → xret q.2.1 vs → (fun c9 s9 vs aw => c9 ≤ mc ∧ s9 ≤ ms ∧ vs = [] ∧ aw = awo) c9 s9 vs aw' → xWc p l e (zRm d mc ms) s m (Value.ref a0 :: av).toArray below meth c (MQ below (zQc D cy a0 e0 awo s.heap.size) (Value.ref a0 :: av).toArray s mc ms (va_A [(a0, e0)] s.heap.size)) (va_A [(a0, e0)] s.heap.size) D ad cy c9 s9 (L.drop n') lv vs aw' := by
    intro ad h0 c9 s9 n' q lv vs aw' hq hv hp
    obtain ⟨hc, hs, rfl, rfl⟩ := hp
    refine lhead hq (fun r9 hdr => ?_)
    have hdq := xdec hE hq
    have hN := xlenq hT hq
    rw [hdr]
    intro hml2 H locs ls' hP' hD' hS' hl'
    obtain ⟨pc, i, len, t⟩ := q
    rcases hv with ⟨hi, x, hx9⟩ | ⟨hi, x, hx9⟩ | ⟨hi, x, hx9⟩ | ⟨hi, -⟩
    · cases hx9
    · cases hx9
    · cases hx9
    · have hi : i = .return_ := hi
      subst hi
      have hlen : len = 1 := of_decide_eq_true hN
      subst hlen
      refine W.widen hc hs (W.vret hx hb hr (fun t ht hW => ?_) hS'.2.2 hdq)
      exact ⟨⟨rfl, ad, h0, by rw [ht]; exact hP', va_K.moved hW.alike hK, hD'⟩, hS'.F ht⟩
  have hC := hCk p e s m (Value.ref a0 :: av).toArray below meth c (MQ below (zQc D cy a0 e0 awo s.heap.size) (Value.ref a0 :: av).toArray s mc ms (va_A [(a0, e0)] s.heap.size)) (va_A [(a0, e0)] s.heap.size) a0 hA F
  have hfin := body (zWc p l e (zRm d mc ms) s m (Value.ref a0 :: av).toArray below meth c (MQ below (zQc D cy a0 e0 awo s.heap.size) (Value.ref a0 :: av).toArray s mc ms (va_A [(a0, e0)] s.heap.size)) (va_A [(a0, e0)] s.heap.size) D cy a0) ⟨fun cu M c9 s9 k lv st aw h => zxp_ok (R := zRm d mc ms) F hA hin hdc hCw hC hRt cu M c9 s9 k lv st aw h, fun c9 s9 k lv lv' st aw h1 h2 h3 ad h0 => xforget h1 h2 (h3 ad h0)⟩
  have h8 := hfin (fun _ => a0) rfl
  rw [hL1] at h8
  have h9 := h8 (by rw [xent_len _ n hn, hml]) s.heap [] ls (by rw [ew (fun _ => a0) rfl]; exact hP) (by rw [ew (fun _ => a0) rfl]; exact hD) hS (by
    rw [xent_len _ n hn]
    refine ⟨hl.1, hl.2.1, fun q hq => hl.2.2 q ?_⟩
    have h7 := xent_in (ad := fun _ => a0) (.ref 0 :: av) n 0 q (xa_in _ 0 q hq)
    rw [em (fun _ => a0) rfl] at h7
    exact h7)
  rw [hq0] at h9
  exact h9
