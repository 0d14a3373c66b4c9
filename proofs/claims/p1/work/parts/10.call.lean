/-! calls of methods that have contracts -/
theorem xblind {D : va_G} {ad : Nat → Nat} {cy : Nat → ClassId} {av : List Value} {aw : xA} {sz : Nat} : FrameBlind (xPc D ad cy av aw sz) := fun a U g mk q => by
  obtain ⟨q0, q1, qP, qK, qD, qN⟩ := q
  exact ⟨q0, q1, qP, va_K.moved (u := U) (U := U.calling g mk a) (Vm.Alike.refl U.vm) qK, qD, xNs.same (u := U) (U := U.calling g mk a) rfl qN⟩
section XCA
variable {p : Program} {l : Launch} {e : Env} {s : State} {m : MethodId} {args : Array Value} {below : List Frame} {meth : Method} {c : Code} {Q : State → Prop} {A : Nat → Prop} {D : va_G} {ad : Nat → Nat} {cy : Nat → ClassId}
theorem xcallV {cc cc' : ByteArray} {own : String} {L : xC} {Fd : Nat → Option (Nat × Nat)} {Cn : Nat → Option Value} {d d' n n' j r ci : Nat} {y' : MethodName} {ret' : Option FieldType} {as rest : List Value} {aw : xA} {fs : List Value} {post : List Value → xA → Prop} {q : xI} {lv : xO}
    (F : xFix p s m args c D cy cc own L Fd Cn) (hA : ∀ q, s.heap.size ≤ q → A q) (hq : L[n]? = some q) (hi : q.2.1 = .invokevirtual j) (hM : xMet l y' cc' n' ret' d' D ad cy (.ref r :: as) aw post)
    (hr : xn aw r = some (.inr (ci, fs))) (hci : ∃ z, vwCl[ci]? = some z ∧ z.1 = y'.cls) (hws : ∀ w ∈ ([.methodLink own j y', .instanceMethod y', .selects y'.cls y' y', .initialized y'.cls, .code y' cc' n' ret'] : List Cond), w ∈ xG)
    (hd : y'.cls ≠ "java/lang/invoke/MethodHandle" ∧ y'.cls ≠ "java/lang/invoke/VarHandle" ∧ (parseMethodDescriptor y'.desc).map (fun d => d.parameters.length) = some as.length) (hR : d' + 1 ≤ d ∧ 8 + (n' + 11) + 40 * d' ≤ 40 * d) (hsm : xsm rest = true)
    (kk : ∀ vs aw', post vs aw' → xWc p l e (xRm d) s m args below meth c Q A D ad cy 0 0 (L.drop (n + 1)) lv (vs ++ rest) aw') : xWc p l e (xRm d) s m args below meth c Q A D ad cy 0 0 (L.drop n) lv (as.reverse ++ .ref r :: rest) aw := by
  obtain ⟨hx, hb, hts, hown, hK, hE, hT, -, -, -, hNs⟩ := id F
  have hdq := xdec hE hq
  have hN := xlenq hT hq
  cases hdr : L.drop n with
  | nil =>
    have h1 : (L.drop n).head? = some q := by rw [List.head?_drop]; exact hq
    rw [hdr] at h1
    cases h1
  | cons q' r' =>
    have h1 := (xdrop hdr).1
    rw [hq] at h1
    cases h1
    intro hml H locs ls hP hD hS hl
    obtain ⟨pc, i, len, t⟩ := q
    have hi : i = .invokevirtual j := hi
    subst hi
    have hlen : len = 3 := of_decide_eq_true hN
    subst hlen
    have hgood : GoodIn xG (wsV own j y'.cls y' (xW0 y' cc' n' ret')) := by
      intro w hw
      have hm : w ∈ xG := by
        unfold wsV xW0 at hw
        rcases List.mem_append.mp hw with h | h
        · exact hws w (by
            simp only [List.mem_cons, List.not_mem_nil, or_false] at h ⊢
            rcases h with h | h | h | h
            · exact Or.inl h
            · exact Or.inr (Or.inl h)
            · exact Or.inr (Or.inr (Or.inl h))
            · exact Or.inr (Or.inr (Or.inr (Or.inl h))))
        · rcases List.mem_cons.mp h with h | h
          · exact hws w (by simp [h])
          · exact h
      exact ⟨hm, good_of_word (xG_good w hm)⟩
    obtain ⟨z, hz1, hz2⟩ := hci
    have hrecv := va_recv hK hP hz1 (xw_get hr)
    rw [hz2] at hrecv
    have hpre : PreV s H y'.cls (ad r) (xPc D ad cy (.ref r :: as) aw H.size) (as.map (xv ad)) := ⟨xblind, hrecv, fun U hU hW => ⟨rfl, by rw [hU], by rw [hU]; exact hP, va_K.moved hW.alike hK, hD.weaken (fun _ _ _ _ => trivial), hNs.warm hW⟩⟩
    have hrun := va_runV (g := F0 m pc ls ((as.reverse ++ .ref r :: rest).map (xv ad))) (As := as.map (xv ad)) (rest := rest.map (xv ad)) (locs := locs) (cells := 0) (slots := 0) (e := e) (below := below) (meth := meth) (nL := lv.length) (R := xRm d) ⟨hx, hb, hml.symm, hown, hts⟩ (hM H.size) (cwV as.length hts hgood rfl rfl rfl ⟨rfl, hd⟩ hR) hpre rfl (by rw [List.length_map]) hl.1 (by
      show (as.reverse ++ .ref r :: rest).map (xv ad) = _
      rw [List.map_append, List.map_reverse]
      rfl) (lv_room (xsm_ok hsm)) hdq ⟨Nat.le_refl _, Nat.le_refl _⟩
    refine xcallR hA hD hS hrun (fun vs aw' H1 locs1 hp hP1 hD1 hS1 => ?_)
    have h2 := kk vs aw' hp
    cases hdr2 : L.drop (n + 1) with
    | nil => rw [hdr2] at h2; exact h2.elim
    | cons q2 r2 =>
      rw [hdr2] at h2
      have h3 := h2 hml H1 locs1 ls hP1 hD1 hS1 hl
      rw [xnext hT hq hdr2] at h3
      exact h3
theorem xcallS {cc cc' : ByteArray} {own : String} {L : xC} {Fd : Nat → Option (Nat × Nat)} {Cn : Nat → Option Value} {d d' n n' j : Nat} {y' : MethodName} {ret' : Option FieldType} {as rest : List Value} {aw : xA} {post : List Value → xA → Prop} {q : xI} {lv : xO}
    (F : xFix p s m args c D cy cc own L Fd Cn) (hA : ∀ q, s.heap.size ≤ q → A q) (hq : L[n]? = some q) (hi : q.2.1 = .invokestatic j) (hM : xMet l y' cc' n' ret' d' D ad cy as aw post)
    (hws : ∀ w ∈ ([.methodLink own j y', .static y', .initialized y'.cls, .code y' cc' n' ret'] : List Cond), w ∈ xG)
    (hd : y'.cls ≠ "java/lang/invoke/MethodHandle" ∧ y'.cls ≠ "java/lang/invoke/VarHandle" ∧ (parseMethodDescriptor y'.desc).map (fun d => d.parameters.length) = some as.length) (hR : d' + 1 ≤ d ∧ 8 + (n' + 11) + 40 * d' ≤ 40 * d) (hsm : xsm rest = true)
    (kk : ∀ vs aw', post vs aw' → xWc p l e (xRm d) s m args below meth c Q A D ad cy 0 0 (L.drop (n + 1)) lv (vs ++ rest) aw') : xWc p l e (xRm d) s m args below meth c Q A D ad cy 0 0 (L.drop n) lv (as.reverse ++ rest) aw := by
  obtain ⟨hx, hb, hts, hown, hK, hE, hT, -, -, -, hNs⟩ := id F
  have hdq := xdec hE hq
  have hN := xlenq hT hq
  cases hdr : L.drop n with
  | nil =>
    have h1 : (L.drop n).head? = some q := by rw [List.head?_drop]; exact hq
    rw [hdr] at h1
    cases h1
  | cons q' r' =>
    have h1 := (xdrop hdr).1
    rw [hq] at h1
    cases h1
    intro hml H locs ls hP hD hS hl
    obtain ⟨pc, i, len, t⟩ := q
    have hi : i = .invokestatic j := hi
    subst hi
    have hlen : len = 3 := of_decide_eq_true hN
    subst hlen
    have hgood : GoodIn xG (xW0 y' cc' n' ret') := by
      intro w hw
      have hm : w ∈ xG := by
        unfold xW0 at hw
        rcases List.mem_cons.mp hw with h | h
        · exact hws w (by simp [h])
        · exact h
      exact ⟨hm, good_of_word (xG_good w hm)⟩
    have hcb : CallB (xRm d) s args own j y' cc' n' ret' (xW0 y' cc' n' ret') (xRm d') 0 0 as.length := callB_of as.length hts hgood rfl rfl rfl (hts _ (hws _ (by simp))) (hts _ (hws _ (by simp))) hd hR
    have hpre : PreS s H (xPc D ad cy as aw H.size) (as.map (xv ad)) := ⟨xblind, fun U hU hW => ⟨rfl, by rw [hU], by rw [hU]; exact hP, va_K.moved hW.alike hK, hD.weaken (fun _ _ _ _ => trivial), hNs.warm hW⟩⟩
    have hrun := va_runS (g := F0 m pc ls ((as.reverse ++ rest).map (xv ad))) (As := as.map (xv ad)) (rest := rest.map (xv ad)) (locs := locs) (cells := 0) (slots := 0) (e := e) (below := below) (meth := meth) (nL := lv.length) (R := xRm d) ⟨hx, hb, hml.symm, hown, hts⟩ (hM H.size) ⟨hcb, hts _ (hws _ (by simp))⟩ hpre rfl (by rw [List.length_map]) hl.1 (by
      show (as.reverse ++ rest).map (xv ad) = _
      rw [List.map_append, List.map_reverse]) (lv_room (xsm_ok hsm)) hdq ⟨Nat.le_refl _, Nat.le_refl _⟩
    refine xcallR hA hD hS hrun (fun vs aw' H1 locs1 hp hP1 hD1 hS1 => ?_)
    have h2 := kk vs aw' hp
    cases hdr2 : L.drop (n + 1) with
    | nil => rw [hdr2] at h2; exact h2.elim
    | cons q2 r2 =>
      rw [hdr2] at h2
      have h3 := h2 hml H1 locs1 ls hP1 hD1 hS1 hl
      rw [xnext hT hq hdr2] at h3
      exact h3
end XCA
