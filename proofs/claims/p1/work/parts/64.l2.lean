/-! calls on a piece of the world; bodies that catch -/
section LC
variable {p : Program} {l : Launch} {e : Env} {R : Room} {s : State} {m : MethodId} {args : Array Value} {below : List Frame} {meth : Method} {c : Code} {Q : State → Prop} {A : Nat → Prop} {D : va_G} {ad : Nat → Nat} {cy : Nat → ClassId} {cells slots : Nat}
theorem lfree {w1 w2 w3 : va_W} {H : Heap} {locs : List Loc} (hA : ∀ q, s.heap.size ≤ q → A q) (hD : va_D A (w1 ++ (w2 ++ w3))) (hS : va_S A s.heap H locs) : ∀ q, va_A w2 H.size q → A q := by
  intro q h
  rcases h with ⟨k, e, h⟩ | h
  · obtain ⟨-, s2, -⟩ := va_D_split hD
    obtain ⟨s4, -, -⟩ := va_D_split s2
    exact s4.2 k (q, e) h
  · exact hA q (Nat.le_trans hS.1 h)
theorem lcallR {mc ms pc : Nat} {ls : Array Slot} {st0 rest : List Value} {a : Array Value} {ad2 : Nat → Nat} {sub : xA} {w1 w3 : va_W} {post : List Value → xA → Prop} {H : Heap} {locs : List Loc} (hA : ∀ q, s.heap.size ≤ q → A q)
    (hP : va_P D vwCl (w1 ++ (xw ad2 cy sub ++ w3)) H) (hD : va_D A (w1 ++ (xw ad2 cy sub ++ w3))) (hS : va_S A s.heap H locs) (hr : va_Run p l e R s m args below meth c H locs cells slots mc ms (F0 m pc ls st0) rest (xQ D ad2 cy sub H.size post a) (va_A (xw ad2 cy sub) H.size))
    (hlen : ∀ vs sub', post vs sub' → sub'.length = sub.length)
    (kk : ∀ (vs : List Value) (sub' : xA) (H1 : Heap) (locs1 : List Loc), post vs sub' → va_P D vwCl (w1 ++ (xw ad2 cy sub' ++ w3)) H1 → va_D A (w1 ++ (xw ad2 cy sub' ++ w3)) → va_S A s.heap H1 locs1 → W p l e R s m args below meth c H1 locs1 (cells + mc) (slots + ms) Q (F0 m (pc + 3) ls (vs.map (xv ad2) ++ rest))) : W p l e R s m args below meth c H locs cells slots Q (F0 m pc ls st0) := by
  have hFA := lfree hA hD hS
  intro T hT X
  obtain ⟨v, st₀, t, T', L, h0, X', hL, e1, e2, ⟨⟨vs, aw', hv, hvl, hp, hP1, hK1, hD1⟩, hz, hk⟩, st⟩ := hr T hT X
  have hv : v = (vs.map (xv ad2)).head? := by cases hv; rfl
  rw [h0] at hz hk
  rw [← e1] at hP1 hk hz
  obtain ⟨hP2, hD2⟩ := lframe hP hD hk hP1 (xwf_fst ad2 cy aw' sub 0 (hlen vs aw' hp))
  obtain ⟨t2, a1, b1⟩ := kk vs aw' T'.heap (locs ++ L) hp hP2 hD2
    ⟨Nat.le_trans hS.1 hz, fun q h1 h2 => by rw [hk q (Nat.lt_of_lt_of_le h1 hS.1) (fun z => h2 (hFA q z))]; exact hS.2.1 q h1 h2, fun q hq => by
      rcases List.mem_append.mp hq with h | h
      · exact hS.2.2 q h
      · exact hFA _ (hL q h)⟩ T' rfl X'
  refine ⟨t2, st t2 ?_, b1⟩
  have e3 : v.toList ++ rest = vs.map (xv ad2) ++ rest := by
    rw [hv]
    match vs, hvl with
    | [], _ => rfl
    | [w], _ => rfl
  have e4 : ({ F0 m pc ls st0 with pc := (F0 m pc ls st0).pc + 3, stack := v.toList ++ rest } : JFrame) = F0 m (pc + 3) ls (vs.map (xv ad2) ++ rest) := by rw [e3]
  rw [e4]
  exact a1
theorem lcallX {mc ms pc : Nat} {ls : Array Slot} {st0 rest : List Value} {a : Array Value} {ad2 : Nat → Nat} {sub : xA} {w1 w3 : va_W} {post : List Value → xA → Prop} {px : String → xA → Prop} {H : Heap} {locs : List Loc} (hA : ∀ q, s.heap.size ≤ q → A q)
    (hP : va_P D vwCl (w1 ++ (xw ad2 cy sub ++ w3)) H) (hD : va_D A (w1 ++ (xw ad2 cy sub ++ w3))) (hS : va_S A s.heap H locs) (hr : vx_Run p l e R s m args below meth c H locs cells slots mc ms (F0 m pc ls st0) rest (xQ D ad2 cy sub H.size post a) (yX D ad2 cy sub H.size px) (va_A (xw ad2 cy sub) H.size))
    (hlen : ∀ vs sub', post vs sub' → sub'.length = sub.length) (hlenX : ∀ E sub', px E sub' → sub'.length = sub.length)
    (kx : ∀ (E : String) (ce : Cell) (q9 : Addr) (sub' : xA) (H1 : Heap) (locs1 : List Loc), px E sub' → va_P D vwCl (w1 ++ (xw ad2 cy sub' ++ w3)) H1 → va_D A (w1 ++ (xw ad2 cy sub' ++ w3)) → va_S A s.heap H1 locs1 → H1[q9]? = some ce → ce.vm = .none → s.vm.findClass E = some ce.cls → vx_W p l e R s m args below meth c H1 locs1 (cells + mc) (slots + ms) Q (F0 m pc ls rest) q9)
    (kk : ∀ (vs : List Value) (sub' : xA) (H1 : Heap) (locs1 : List Loc), post vs sub' → va_P D vwCl (w1 ++ (xw ad2 cy sub' ++ w3)) H1 → va_D A (w1 ++ (xw ad2 cy sub' ++ w3)) → va_S A s.heap H1 locs1 → W p l e R s m args below meth c H1 locs1 (cells + mc) (slots + ms) Q (F0 m (pc + 3) ls (vs.map (xv ad2) ++ rest))) : W p l e R s m args below meth c H locs cells slots Q (F0 m pc ls st0) := by
  have hFA := lfree hA hD hS
  intro T hT X
  rcases hr T hT X with ⟨v, st₀, t, T', L, h0, X', hL, e1, e2, ⟨⟨vs, aw', hv, hvl, hp, hP1, hK1, hD1⟩, hz, hk⟩, st⟩ | ⟨q9, st₀, t, T', L, E, ce, h0, X', hL, e1, e2, ⟨aw', hp, hP1, hK1, hD1, hz, hk⟩, hce, hcv, hcl, st⟩
  · have hv : v = (vs.map (xv ad2)).head? := by cases hv; rfl
    rw [h0] at hz hk
    rw [← e1] at hP1 hk hz
    obtain ⟨hP2, hD2⟩ := lframe hP hD hk hP1 (xwf_fst ad2 cy aw' sub 0 (hlen vs aw' hp))
    obtain ⟨t2, a1, b1⟩ := kk vs aw' T'.heap (locs ++ L) hp hP2 hD2
      ⟨Nat.le_trans hS.1 hz, fun q h1 h2 => by rw [hk q (Nat.lt_of_lt_of_le h1 hS.1) (fun z => h2 (hFA q z))]; exact hS.2.1 q h1 h2, fun q hq => by
        rcases List.mem_append.mp hq with h | h
        · exact hS.2.2 q h
        · exact hFA _ (hL q h)⟩ T' rfl X'
    refine ⟨t2, st t2 ?_, b1⟩
    have e3 : v.toList ++ rest = vs.map (xv ad2) ++ rest := by
      rw [hv]
      match vs, hvl with
      | [], _ => rfl
      | [w], _ => rfl
    have e4 : ({ F0 m pc ls st0 with pc := (F0 m pc ls st0).pc + 3, stack := v.toList ++ rest } : JFrame) = F0 m (pc + 3) ls (vs.map (xv ad2) ++ rest) := by rw [e3]
    rw [e4]
    exact a1
  · rw [h0] at hz hk
    rw [← e1] at hP1 hk hz hce
    obtain ⟨hP2, hD2⟩ := lframe hP hD hk hP1 (xwf_fst ad2 cy aw' sub 0 (hlenX E aw' hp))
    obtain ⟨t2, a1, b1⟩ := kx E ce q9 aw' T'.heap (locs ++ L) hp hP2 hD2
      ⟨Nat.le_trans hS.1 hz, fun q h1 h2 => by rw [hk q (Nat.lt_of_lt_of_le h1 hS.1) (fun z => h2 (hFA q z))]; exact hS.2.1 q h1 h2, fun q hq => by
        rcases List.mem_append.mp hq with h | h
        · exact hS.2.2 q h
        · exact hFA _ (hL q h)⟩ hce hcv hcl T' rfl X'
    exact ⟨t2, st.trans a1, b1⟩
/-- a handler: store, a number, return -/
def wHok (cc : ByteArray) (h n : Nat) (k : Nat) : Prop := (∃ i, i < n ∧ decode cc h = .ok (.astore i, 2) ∧ decode cc (h + 2) = .ok (.iconst (Int.ofNat k), 1) ∧ decode cc (h + 3) = .ok (.ireturn, 1)) ∨ (∃ i : Fin 4, i.val < n ∧ decode cc h = .ok (.astore_n i, 1) ∧ decode cc (h + 1) = .ok (.iconst (Int.ofNat k), 1) ∧ decode cc (h + 2) = .ok (.ireturn, 1))
theorem wHand {cc : ByteArray} {h n k : Nat} {ls : Array Slot} {lw : List (Nat × Value)} {q : Nat} {H : Heap} {locs : List Loc} (hx : p.tables.exec = Jvm.exec) (hb : c.code = cc) (hk : wHok cc h n k) (hl : lv_has ls n lw) (next : ∀ (ls' : Array Slot) (pc : Nat), decode cc pc = .ok (.ireturn, 1) → W p l e R s m args below meth c H locs cells slots Q (F0 m pc ls' [.int (nI k)])) : W p l e R s m args below meth c H locs cells slots Q (F0 m h ls [.ref q]) := by
  rcases hk with ⟨i, hi, d0, d1, d2⟩ | ⟨i, hi, d0, d1, d2⟩
  · refine lv_astore hx hb d0 hl hi rfl (fun ls' _ => ?_)
    exact lv_iconst hx hb d1 rfl (next ls' _ d2)
  · refine lv_astore_n hx hb d0 rfl hl hi rfl (fun ls' _ => ?_)
    exact lv_iconst hx hb d1 rfl (next ls' _ d2)
end LC
theorem vx_toMet {l : Launch} {y : MethodName} {ws : List Cond} {rm : Room} {Pc : Array Value → State → Prop} {Qc : Array Value → State → Outcome → State → Prop} {mc ms : Nat} {free : Addr → Prop} (h : vx_Met l y ws rm Pc Qc (fun _ _ _ => False) mc ms free) : Met l y ws rm Pc Qc mc ms free := by
  intro p e h1 h2 h3 s m args below h4 h5 h6 h7
  obtain ⟨n, o, k1, k2, k3, k4⟩ := h p e h1 h2 h3 s m args below h4 h5 h6 h7
  refine ⟨n, o, k1, k2, k3, ?_⟩
  rcases k4 with k | ⟨q, -, E, ce, L, hF, -⟩
  · exact k
  · exact hF.elim
/-- the exceptions that a handler must let pass -/
def yNc (U : State) : Prop := va_Nc xIS xIO U ∧ va_Nc xIS xIA U
def wRm : Room := { frames := 7, cells := 1, slots := 6, locals := 270 }
def wPc (D : va_G) (ad : Nat → Nat) (cy : Nat → ClassId) (av : List Value) (aw : xA) (sz : Nat) : Array Value → State → Prop := va_Pc (av.map (xv ad)) (fun U => U.heap.size = sz ∧ va_P D vwCl (xw ad cy aw) U.heap ∧ va_K D vwCl (xty cy) U ∧ va_D (fun _ => True) (xw ad cy aw) ∧ xNs U ∧ yNs U ∧ ySR U ∧ yZ (va_A (xw ad cy aw) sz) U U.heap ∧ yNc U)
/-- a static method of the law that calls the class and catches -/
def wMet (l : Launch) (y : MethodName) (cc : ByteArray) (n : Nat) (hh : List (Nat × Nat × Nat × Nat)) (D : va_G) (ad : Nat → Nat) (cy : Nat → ClassId) (av : List Value) (aw : xA) (post : List Value → xA → Prop) : Prop :=
  ∀ sz : Nat, Met l y (.codeWith y cc n (some .int) hh :: xG) wRm (wPc D ad cy av aw sz) (xQ D ad cy aw sz post) 1 6 (va_A (xw ad cy aw) sz)
theorem yblind {D : va_G} {ad : Nat → Nat} {cy : Nat → ClassId} {av : List Value} {aw : xA} {sz : Nat} : FrameBlind (yPc D ad cy av aw sz) := fun a U g mk q => by
  obtain ⟨q0, q1, qP, qK, qD, qN, q2, q3, q4⟩ := q
  exact ⟨q0, q1, qP, va_K.moved (u := U) (U := U.calling g mk a) (Vm.Alike.refl U.vm) qK, qD, xNs.same (u := U) (U := U.calling g mk a) rfl qN, yNs.same (u := U) (U := U.calling g mk a) rfl q2, ySR.same (u := U) (U := U.calling g mk a) rfl q3, yZ.moved (u := U) (U := U.calling g mk a) (Vm.Alike.refl U.vm) q4⟩
theorem wblind {D : va_G} {ad : Nat → Nat} {cy : Nat → ClassId} {av : List Value} {aw : xA} {sz : Nat} : FrameBlind (wPc D ad cy av aw sz) := fun a U g mk q => by
  obtain ⟨q0, q1, qP, qK, qD, qN, q2, q3, q4, q5⟩ := q
  exact ⟨q0, q1, qP, va_K.moved (u := U) (U := U.calling g mk a) (Vm.Alike.refl U.vm) qK, qD, xNs.same (u := U) (U := U.calling g mk a) rfl qN, yNs.same (u := U) (U := U.calling g mk a) rfl q2, ySR.same (u := U) (U := U.calling g mk a) rfl q3, yZ.moved (u := U) (U := U.calling g mk a) (Vm.Alike.refl U.vm) q4, va_Nc.moved (u := U) (U := U.calling g mk a) (Vm.Alike.refl U.vm) q5.1, va_Nc.moved (u := U) (U := U.calling g mk a) (Vm.Alike.refl U.vm) q5.2⟩
theorem xw_pre (ad : Nat → Nat) (cy : Nat → ClassId) (a b : xA) : xw ad cy (a ++ b) = [] ++ (xw ad cy a ++ xwf ad cy a.length b) := by
  have h := xwf_app ad cy a b 0
  rw [Nat.zero_add] at h
  exact h
set_option maxHeartbeats 4000000 in
theorem wmet {l : Launch} {y : MethodName} {cc : ByteArray} {n : Nat} {hh : List (Nat × Nat × Nat × Nat)} {D : va_G} {ad : Nat → Nat} {cy : Nat → ClassId} {av : List Value} {ext : xA} {post : List Value → xA → Prop} {L : xC} {Fd : Nat → Option (Nat × Nat)} {Cn : Nat → Option Value} {S : cS} {r : cR} {E1 E2 : String} {y' : MethodName} {cc' : ByteArray} {n' j na : Nat} {ret' : Option FieldType} {as : List Value}
    (hy : plainName y.cls = true) (hyL : y.cls = RL) (hE : L.all (xokE cc) = true) (hT : xokT L = true) (hL : ∃ q r, L = q :: r ∧ q.1 = 0) (hPl : xPool RL Fd Cn) (hn : (lg_sl av).length ≤ n)
    (hM : yMet l y' cc' n' ret' 6 D ad cy (.ref 0 :: as) (cW S) (yPost r) (yPx E1 E2 r)) (hws : ∀ w ∈ ([.methodLink RL j y', .instanceMethod y', .selects y'.cls y' y', .initialized y'.cls, .code y' cc' n' ret'] : List Cond), w ∈ xG) (hy' : y'.cls = RX4)
    (hd : y'.cls ≠ "java/lang/invoke/MethodHandle" ∧ y'.cls ≠ "java/lang/invoke/VarHandle" ∧ (parseMethodDescriptor y'.desc).map (fun d => d.parameters.length) = some na) (hna : as.length = na) (hn' : n' ≤ 6)
    (k pk t9 : Nat) (hk : L[k]? = some (pk, .invokevirtual j, 3, t9))
    (x1 : ExceptionTableEntry) (suf : List ExceptionTableEntry) (htab : tableOf hh = x1 :: suf) (hc1 : covers x1 pk = true) (h10 : x1.catchType ≠ 0) (hl1 : Cond.classLink RL x1.catchType E1 ∈ xG) (hca1 : Cond.castable E1 E1 ∈ yE) (hd1 : wHok cc x1.handlerPc n 1)
    (h2 : r.1 = 2 → ∃ x2 suf2, suf = x2 :: suf2 ∧ covers x2 pk = true ∧ x2.catchType ≠ 0 ∧ Cond.classLink RL x2.catchType E2 ∈ xG ∧ Cond.castable E2 E2 ∈ yE ∧ wHok cc x2.handlerPc n 2 ∧ ∀ U, yNc U → va_Nc E2 E1 U)
    (hp1 : r.1 = 1 → post [.int (nI 1)] (cW r.2.2 ++ ext)) (hp2 : r.1 = 2 → post [.int (nI 2)] (cW r.2.2 ++ ext))
    (body : ∀ WC0 WC1 : xC → xO → List Value → xA → Prop, lSys none L Fd Cn (fun _ _ _ _ => False) (fun _ _ => False) WC0 → lSys none L Fd Cn (fun _ _ _ _ => False) (xRt (some .int) post) WC1 → (∀ (lv : xO) (rest : List Value), xsm rest = true → (r.1 = 0 → WC1 (L.drop (k + 1)) lv (r.2.1 ++ rest) (cW r.2.2 ++ ext)) → WC0 (L.drop k) lv (as.reverse ++ .ref 0 :: rest) (cW S ++ ext)) → WC0 L (xent n av) [] (cW S ++ ext)) : wMet l y cc n hh D ad cy av (cW S ++ ext) post := by
  intro sz
  refine vx_toMet (vx_ofWH (cc := cc) (maxL := n) (ret := some .int) (hh := hh) hy rfl ?_)
  intro p e s m args below meth c s₁ B hml hv
  obtain ⟨rfl, hsz, hP, hK, hD0, hNs, hyN, hyS, hyZ, hyC⟩ := hv
  have hx := B.exec
  have hb := B.bytes
  have hr := B.returns
  have hts0 := atoms_spec (ws := .codeWith y cc n (some .int) hh :: xG) B.pre
  have hts : ∀ w ∈ xG, w.before (av.map (xv ad)).toArray s = true := fun w h => hts0 w (List.mem_cons_of_mem _ h)
  have hct : c.exceptionTable.toList = x1 :: suf := (vx_table (x := y) B (hts0 _ List.mem_cons_self)).trans htab
  have hown : s.vm.findClass RL = some m.cls := by rw [← hyL]; exact findClass_of_methodNamed B.named
  have hlocks := B.notSynchronized
  subst hsz
  have hD := hD0.self (sz := s.heap.size)
  generalize hAe : va_A (xw ad cy (cW S ++ ext)) s.heap.size = A at hD hyZ ⊢
  have hA : ∀ q : Nat, s.heap.size ≤ q → A q := fun q h => by rw [← hAe]; exact Or.inr h
  have hS : va_S A s.heap s.heap [] := va_S.rf
  have hl := lv_entry (av.map (xv ad)) (n := n) (by rw [lg_sl_map]; exact hn)
  have F : xFix p s m (av.map (xv ad)).toArray c D cy cc RL L Fd Cn := ⟨hx, hb, hts, hown, hK, hE, hT, hPl.1, hPl.2.1, hPl.2.2, hNs⟩
  rw [lg_entry_eq]
  generalize (lg_sl (av.map (xv ad)) ++ List.replicate (n - (lg_sl (av.map (xv ad))).length) Slot.unset).toArray = ls at hl ⊢
  obtain ⟨q0, r0, hL1, hq0⟩ := hL
  have hend : ∀ (v : Int32) (aw' : xA) (H : Heap) (locs : List Loc) (ls' : Array Slot) (pc : Nat), decode cc pc = .ok (.ireturn, 1) → post [.int v] aw' → va_P D vwCl (xw ad cy aw') H → va_D A (xw ad cy aw') → va_S A s.heap H locs → W p l e wRm s m (av.map (xv ad)).toArray below meth c H locs 1 6 (vx_MQ below (xQ D ad cy (cW S ++ ext) s.heap.size post) (fun _ _ _ => False) (av.map (xv ad)).toArray s 1 6 A) (F0 m pc ls' [.int v]) := by
    intro v aw' H locs ls' pc hdq hpo hP' hD' hS'
    refine vx_ret (W.iret hx hb hr (fun t ht hW => ?_) hS'.2.2 hdq)
    exact ⟨⟨[.int v], aw', rfl, Nat.le_refl 1, hpo, by rw [ht]; exact hP', va_K.moved hW.alike hK, by rw [hAe]; exact hD'⟩, by rw [hAe]; exact hS'.F ht⟩
  have hRt1 : ∀ n' q lv vs aw', L[n']? = some q → xret q.2.1 vs → xRt (some .int) post vs aw' → xWc p l e wRm s m (av.map (xv ad)).toArray below meth c (vx_MQ below (xQ D ad cy (cW S ++ ext) s.heap.size post) (fun _ _ _ => False) (av.map (xv ad)).toArray s 1 6 A) A D ad cy 1 6 (L.drop n') lv vs aw' := by
    intro n' q lv vs aw' hq hv hp
    cases hdr : L.drop n' with
    | nil =>
      have h1 : (L.drop n').head? = some q := by rw [List.head?_drop]; exact hq
      rw [hdr] at h1
      cases h1
    | cons q' r =>
      have h1 := (xdrop hdr).1
      rw [hq] at h1
      cases h1
      intro hml2 H locs ls' hP' hD' hS' hl'
      have hdq := xdec hE hq
      have hN := xlenq hT hq
      obtain ⟨pc, i, len, t⟩ := q
      rcases hv with ⟨hi, x, rfl⟩ | ⟨hi, x, rfl⟩ | ⟨hi, x, rfl⟩ | ⟨hi, rfl⟩
      · have hi : i = .ireturn := hi
        subst hi
        have hlen : len = 1 := of_decide_eq_true hN
        subst hlen
        exact hend x aw' H locs ls' pc hdq hp hP' hD' hS'
      · exact hp.elim
      · exact hp.elim
      · exact hp.elim
  have hRt0 : ∀ n' q lv vs aw', L[n']? = some q → xret q.2.1 vs → (fun _ _ => False : List Value → xA → Prop) vs aw' → xWc p l e wRm s m (av.map (xv ad)).toArray below meth c (vx_MQ below (xQ D ad cy (cW S ++ ext) s.heap.size post) (fun _ _ _ => False) (av.map (xv ad)).toArray s 1 6 A) A D ad cy 0 0 (L.drop n') lv vs aw' := fun _ _ _ _ _ _ _ h => h.elim
  have hfin := body (xWc p l e wRm s m (av.map (xv ad)).toArray below meth c (vx_MQ below (xQ D ad cy (cW S ++ ext) s.heap.size post) (fun _ _ _ => False) (av.map (xv ad)).toArray s 1 6 A) A D ad cy 0 0) (xWc p l e wRm s m (av.map (xv ad)).toArray below meth c (vx_MQ below (xQ D ad cy (cW S ++ ext) s.heap.size post) (fun _ _ _ => False) (av.map (xv ad)).toArray s 1 6 A) A D ad cy 1 6)
    ⟨fun cu N k lv st aw2 h => lxp_ok F (fun _ _ h => by cases h) (fun _ _ _ _ _ _ _ _ _ h => h.elim) hRt0 cu N k lv st aw2 h, fun k lv lv' st aw2 h1 h2 h3 => xforget h1 h2 h3⟩
    ⟨fun cu N k lv st aw2 h => lxp_ok F (fun _ _ h => by cases h) (fun _ _ _ _ _ _ _ _ _ h => h.elim) hRt1 cu N k lv st aw2 h, fun k lv lv' st aw2 h1 h2 h3 => xforget h1 h2 h3⟩
    (fun lv rest hsm hret => by
      have hdq := xdec hE hk
      cases hdr : L.drop k with
      | nil =>
        have h1 : (L.drop k).head? = some (pk, .invokevirtual j, 3, t9) := by rw [List.head?_drop]; exact hk
        rw [hdr] at h1
        cases h1
      | cons q' r' =>
        have h1 := (xdrop hdr).1
        rw [hk] at h1
        cases h1
        intro hml2 H locs ls' hP' hD' hS' hl'
        have hP9 := hP'
        have hD9 := hD'
        rw [xw_pre] at hP9 hD9
        have hgood : GoodIn xG (wsV RL j y'.cls y' (xW0 y' cc' n' ret')) := by
          intro w hw
          have hm : w ∈ xG := by
            unfold wsV xW0 at hw
            rcases List.mem_append.mp hw with h | h
            · exact hws w (by
                simp only [List.mem_cons, List.not_mem_nil, or_false] at h ⊢
                rcases h with h | h | h | h
                · exact Or.inl h
                · exact Or.inr (Or.inl h)
                · exact Or.inr (Or.inr (Or.inl h))
                · exact Or.inr (Or.inr (Or.inr (Or.inl h))))
            · rcases List.mem_cons.mp h with h | h
              · exact hws w (by simp [h])
              · exact h
          exact ⟨hm, good_of_word (xG_good w hm)⟩
        have hPs : va_P D vwCl (xw ad cy (cW S)) H := va_P_mem.mpr (fun q hq => va_P_mem.mp hP9 q (List.mem_append_right _ (List.mem_append_left _ hq)))
        have hDs : va_D A (xw ad cy (cW S)) := (va_D_split (va_D_split hD9).2.1).1
        have hrecv := va_recv (ci := 4) hK hPs rfl (xw_get (aw := cW S) (a := 0) rfl)
        have hfr := lfree hA hD9 hS'
        have hZ9 : yZ A s H := hyZ.kept (fun a h1 h2 => hS'.2.1 a h1 h2)
        have hpre : PreV s H y'.cls (ad 0) (yPc D ad cy (.ref 0 :: as) (cW S) H.size) (as.map (xv ad)) := ⟨yblind, by rw [hy']; exact hrecv, fun U hU hW => ⟨rfl, by rw [hU], by rw [hU]; exact hPs, va_K.moved hW.alike hK, hDs.weaken (fun _ _ _ _ => trivial), hNs.warm hW, hyN.warm hW, hyS.warm hW, by rw [hU]; exact (yZ.moved hW.alike hZ9).narrow hfr⟩⟩
        have hrun := vx_runV (g := F0 m pk ls' ((as.reverse ++ .ref 0 :: rest).map (xv ad))) (As := as.map (xv ad)) (rest := rest.map (xv ad)) (locs := locs) (cells := 0) (slots := 0) (e := e) (below := below) (meth := meth) (nL := lv.length) (R := wRm) ⟨hx, hb, hml2.symm, hown, hts⟩ (hM H.size) (cwV as.length hts hgood rfl rfl rfl ⟨rfl, by rw [hna]; exact hd⟩ ⟨Nat.le_refl 7, by show 8 + (n' + 11) + 40 * 6 ≤ 270; omega⟩) hpre rfl (by rw [List.length_map]) hl'.1 (by
          show (as.reverse ++ .ref 0 :: rest).map (xv ad) = _
          rw [List.map_append, List.map_reverse]
          rfl) (lv_room (xsm_ok hsm)) hdq ⟨Nat.le_refl 1, Nat.le_refl 6⟩
        have hw3 : ∀ a : cS, xw ad cy (cW a ++ ext) = [] ++ (xw ad cy (cW a) ++ xwf ad cy (cW S).length ext) := fun a => xw_pre ad cy (cW a) ext
        refine lcallX hA hP9 hD9 hS' hrun (fun vs sub' h => by obtain ⟨-, -, rfl⟩ := h; rfl) (fun E sub' h => by obtain ⟨-, rfl⟩ := h; rfl) (fun E ce q9 sub' H1 locs1 hpx hP1 hD1 hS1 hce hcv hcl => ?_) (fun vs sub' H1 locs1 hpo hP1 hD1 hS1 => ?_)
        · obtain ⟨hr12, rfl⟩ := hpx
          rw [← hw3] at hP1 hD1
          rcases hr12 with ⟨hr1, rfl⟩ | ⟨hr1, rfl⟩
          · refine vx_catch hown [] x1 suf hct (fun z hz => by cases hz) hc1 h10 (hts _ hl1) (hyN.use _ hca1) hce hcv hcl ?_
            exact wHand hx hb hd1 (by rw [hml2, hml] at hl'; exact hl') (fun ls2 pc hdq2 => hend _ _ _ _ _ _ hdq2 (hp1 hr1) hP1 hD1 hS1)
          · obtain ⟨x2, suf2, rfl, hc2, h20, hl2, hca2, hd2, hnc⟩ := h2 hr1
            refine vx_catch hown [x1] x2 suf2 hct (fun z hz => ?_) hc2 h20 (hts _ hl2) (hyN.use _ hca2) hce hcv hcl ?_
            · rw [List.mem_singleton.mp hz]
              exact Or.inr ⟨h10, E1, hts _ hl1, hnc s hyC⟩
            · exact wHand hx hb hd2 (by rw [hml2, hml] at hl'; exact hl') (fun ls2 pc hdq2 => hend _ _ _ _ _ _ hdq2 (hp2 hr1) hP1 hD1 hS1)
        · obtain ⟨hr0, rfl, rfl⟩ := hpo
          rw [← hw3] at hP1 hD1
          have h5 := hret hr0
          cases hdr2 : L.drop (k + 1) with
          | nil => rw [hdr2] at h5; exact h5.elim
          | cons q2 r2 =>
            rw [hdr2] at h5
            have h3 := h5 hml2 H1 locs1 ls' hP1 hD1 hS1 hl'
            rw [xnext hT hk hdr2] at h3
            rw [List.map_append] at h3
            exact h3)
  rw [hL1] at hfin
  have h9 := hfin (by rw [xent_len av n hn, hml]) s.heap [] ls hP hD hS (by
    rw [xent_len av n hn]
    refine ⟨hl.1, hl.2.1, fun q hq => hl.2.2 q ?_⟩
    exact xent_in av n 0 q (xa_in _ 0 q hq))
  rw [hq0] at h9
  exact h9
