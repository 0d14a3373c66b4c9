/-! the law's runs: each call, and the end -/
section LW
variable {p : Program} {l : Launch} {e : Env} {R : Room} {s : State} {m : MethodId} {args : Array Value} {below : List Frame} {meth : Method} {c : Code} {Q : State → Prop} {A : Nat → Prop} {D : va_G} {ad : Nat → Nat} {cy : Nat → ClassId}
abbrev lwC (p : Program) (l : Launch) (e : Env) (R : Room) (s : State) (m : MethodId) (args : Array Value) (below : List Frame) (meth : Method) (c : Code) (Q : State → Prop) (A : Nat → Prop) (D : va_G) (ad : Nat → Nat) (cy : Nat → ClassId) (n : Nat) : xC → xO → List Value → xA → Prop := xWc p l e R s m args below meth c Q A D ad cy (60 + n) (1975 + 6 * n)
set_option maxHeartbeats 4000000 in
theorem lw_mod {N : Nat} (hx : p.tables.exec = Jvm.exec) (hb : c.code = code) (hts : ∀ w ∈ xG, w.before args s = true) (hown : s.vm.findClass RL = some m.cls) (hK : va_K D vwCl (xty cy) s) (hNs : xNs s) (hRf : 10 ≤ R.frames) (hRl : 352 ≤ R.locals) (hRc : 60 + N ≤ R.cells) (hRs : 1975 + 6 * N ≤ R.slots) (hA : ∀ q, s.heap.size ≤ q → A q) : lwMod l D ad cy N (lwC p l e R s m args below meth c Q A D ad cy) := by
  intro n k pk j t9 na d' n' y' cc' ret' as rest vs0 S T T' o od lv hn hk hM hws hy hd hna hR hsm hnr hnv next
  refine lhead hk (fun r9 hdr => ?_)
  have hdq := xdec xk_L_law hk
  rw [hdr]
  intro hml H locs ls hP hD hS hl
  rw [lwW_m] at hP hD
  have hrun := lrunV (p := p) (l := l) (e := e) (R := R) (m := m) (below := below) (meth := meth) (A := A) (locs := locs) (cells := 60 + n) (slots := 1975 + 6 * n) (rs := rest.map (xv ad)) (st := (as.reverse ++ .ref 38 :: rest).map (xv ad)) (ls := ls) (nL := lv.length) (pk := pk) hx hb hts hown hK hNs hRf hRl ⟨by omega, by omega⟩ hM hws hd hna hR (ci := 5) rfl ⟨_, rfl, hy.symm⟩ hP hD hml.symm hl.1 (by
    rw [List.map_append, List.map_reverse, map_nrf (ad := ad) (ad2 := ad38 ad) hnr]
    rfl) (xsm_ok hsm) hdq
  refine lcallR hA hP hD hS hrun (fun vs sub' h => by obtain ⟨-, rfl⟩ := h; rfl) (fun vs sub' H1 locs1 hpo hP1 hD1 hS1 => ?_)
  obtain ⟨rfl, rfl⟩ := hpo
  rw [← lwW_m] at hP1 hD1
  cases hdr2 : xL_L_law.drop (k + 1) with
  | nil => rw [hdr2] at next; exact next.elim
  | cons q2 r2 =>
    rw [hdr2] at next
    have h3 := next hml H1 locs1 ls hP1 hD1 hS1 hl
    rw [xnext xt_L_law hk hdr2, List.map_append, map_nrf (ad := ad) (ad2 := ad38 ad) hnv] at h3
    exact h3
set_option maxHeartbeats 4000000 in
theorem lw_cls {N : Nat} (hx : p.tables.exec = Jvm.exec) (hb : c.code = code) (hts : ∀ w ∈ xG, w.before args s = true) (hown : s.vm.findClass RL = some m.cls) (hK : va_K D vwCl (xty cy) s) (hNs : xNs s) (hRf : 10 ≤ R.frames) (hRl : 352 ≤ R.locals) (hRc : 60 + N ≤ R.cells) (hRs : 1975 + 6 * N ≤ R.slots) (hA : ∀ q, s.heap.size ≤ q → A q) : lwCls l D ad cy N (lwC p l e R s m args below meth c Q A D ad cy) := by
  intro n k pk j t9 na d' n' y' cc' ret' as rest vs0 S S' T o od lv hn hk hM hws hy hd hna hR hsm next
  refine lhead hk (fun r9 hdr => ?_)
  have hdq := xdec xk_L_law hk
  rw [hdr]
  intro hml H locs ls hP hD hS hl
  rw [lwW_c] at hP hD
  have hrun := lrunV (p := p) (l := l) (e := e) (R := R) (m := m) (below := below) (meth := meth) (A := A) (locs := locs) (cells := 60 + n) (slots := 1975 + 6 * n) (rs := rest.map (xv ad)) (st := (as.reverse ++ .ref 0 :: rest).map (xv ad)) (ls := ls) (nL := lv.length) (pk := pk) hx hb hts hown hK hNs hRf hRl ⟨by omega, by omega⟩ hM hws hd hna hR (ci := 4) rfl ⟨_, rfl, hy.symm⟩ hP hD hml.symm hl.1 (by
    rw [List.map_append, List.map_reverse]
    rfl) (xsm_ok hsm) hdq
  refine lcallR hA hP hD hS hrun (fun vs sub' h => by obtain ⟨-, rfl⟩ := h; rfl) (fun vs sub' H1 locs1 hpo hP1 hD1 hS1 => ?_)
  obtain ⟨rfl, rfl⟩ := hpo
  rw [← lwW_c] at hP1 hD1
  cases hdr2 : xL_L_law.drop (k + 1) with
  | nil => rw [hdr2] at next; exact next.elim
  | cons q2 r2 =>
    rw [hdr2] at next
    have h3 := next hml H1 locs1 ls hP1 hD1 hS1 hl
    rw [xnext xt_L_law hk hdr2, List.map_append] at h3
    exact h3
set_option maxHeartbeats 4000000 in
theorem lw_wrp {N : Nat} (hx : p.tables.exec = Jvm.exec) (hb : c.code = code) (hts : ∀ w ∈ xG, w.before args s = true) (hown : s.vm.findClass RL = some m.cls) (hK : va_K D vwCl (xty cy) s) (hNs : xNs s) (hyN : yNs s) (hyS : ySR s) (hyZ : yZ A s s.heap) (hyC : yNc s) (hRf : 10 ≤ R.frames) (hRl : 352 ≤ R.locals) (hRc : 60 + N ≤ R.cells) (hRs : 1975 + 6 * N ≤ R.slots) (hA : ∀ q, s.heap.size ≤ q → A q) : lwWrp l D ad cy N (lwC p l e R s m args below meth c Q A D ad cy) := by
  intro n k pk j t9 na nl y' cc' hh as rest r S T o o' od od' lv hn hk hM hws hd hna hnl hsm next
  refine lhead hk (fun r9 hdr => ?_)
  have hdq := xdec xk_L_law hk
  rw [hdr]
  intro hml H locs ls hP hD hS hl
  rw [lwW_w] at hP hD
  generalize hsub : cW S ++ [aL 1 o, aD 1 od] = sub at hP hD hM
  have hPs : va_P D vwCl (xw ad cy sub) H := va_P_mem.mpr (fun q hq => va_P_mem.mp hP q (List.mem_append_right _ (List.mem_append_left _ hq)))
  have hDs : va_D A (xw ad cy sub) := (va_D_split (va_D_split hD).2.1).1
  have hfr := lfree hA hD hS
  have hZ9 : yZ A s H := hyZ.kept (fun a h1 h2 => hS.2.1 a h1 h2)
  have hpre : PreS s H (wPc D ad cy as sub H.size) (as.map (xv ad)) := ⟨wblind, fun U hU hW => ⟨rfl, by rw [hU], by rw [hU]; exact hPs, va_K.moved hW.alike hK, hDs.weaken (fun _ _ _ _ => trivial), hNs.warm hW, hyN.warm hW, hyS.warm hW, by rw [hU]; exact (yZ.moved hW.alike hZ9).narrow hfr, va_Nc.moved hW.alike hyC.1, va_Nc.moved hW.alike hyC.2⟩⟩
  have hgood : GoodIn xG (va_wsS RL j y' (.codeWith y' cc' nl (some .int) hh :: xG)) := by
    intro w hw
    have hm : w ∈ xG := by
      unfold va_wsS at hw
      rcases List.mem_append.mp hw with h | h
      · exact hws w (by
          simp only [List.mem_cons, List.not_mem_nil, or_false] at h ⊢
          rcases h with h | h | h
          · exact Or.inl h
          · exact Or.inr (Or.inl h)
          · exact Or.inr (Or.inr (Or.inl h)))
      · rcases List.mem_cons.mp h with h | h
        · exact hws w (by simp [h])
        · exact h
    exact ⟨hm, good_of_word (xG_good w hm)⟩
  have hrun := vx_runSW (p := p) (l := l) (e := e) (R := R) (m := m) (below := below) (meth := meth) (H := H) (locs := locs) (cells := 60 + n) (slots := 1975 + 6 * n) (g := F0 m pk ls ((as.reverse ++ rest).map (xv ad))) (As := as.map (xv ad)) (rest := rest.map (xv ad)) (nL := lv.length) ⟨hx, hb, hml.symm, hown, hts⟩ (hM H.size) (vx_cwSW as.length hts hgood rfl rfl rfl (by rw [hna]; exact hd) ⟨by show 7 + 1 ≤ _; omega, by show 8 + (nl + 11) + 270 ≤ _; omega⟩) hpre rfl (by rw [List.length_map]) hl.1 (by
    show (as.reverse ++ rest).map (xv ad) = _
    rw [List.map_append, List.map_reverse]) (lv_room (xsm_ok hsm)) hdq ⟨by omega, by omega⟩
  refine lcallR hA hP hD hS hrun (fun vs sub' h => by obtain ⟨-, rfl⟩ := h; rw [← hsub]; rfl) (fun vs sub' H1 locs1 hpo hP1 hD1 hS1 => ?_)
  obtain ⟨rfl, rfl⟩ := hpo
  rw [← lwW_w] at hP1 hD1
  cases hdr2 : xL_L_law.drop (k + 1) with
  | nil => rw [hdr2] at next; exact next.elim
  | cons q2 r2 =>
    rw [hdr2] at next
    have h3 := next hml H1 locs1 ls hP1 hD1 hS1 hl
    rw [xnext xt_L_law hk hdr2] at h3
    exact h3
theorem lw_sys {N Ln : Nat} {xs : Nat → Int32} (hx : p.tables.exec = Jvm.exec) (hb : c.code = code) (hts : ∀ w ∈ xG, w.before args s = true) (hown : s.vm.findClass RL = some m.cls) (hK : va_K D vwCl (xty cy) s) (hNs : xNs s) (hyN : yNs s) (hyS : ySR s) (hyZ : yZ A s s.heap) (hyC : yNc s) (hRf : 10 ≤ R.frames) (hRl : 352 ≤ R.locals) (hRc : 60 + N ≤ R.cells) (hRs : 1975 + 6 * N ≤ R.slots) (hA : ∀ q, s.heap.size ≤ q → A q) (hX : xScr Ln xs ad A s)
    (hret : ∀ n, n ≤ N → ∀ (H : Heap) (locs : List Loc) (ls : Array Slot) (pc : Nat), decode code pc = .ok (.ireturn, 1) → va_S A s.heap H locs → W p l e R s m args below meth c H locs (60 + n) (1975 + 6 * n) Q (F0 m pc ls [.int 1])) :
    lwSys l D ad cy (some (Ln, xs)) N (lwC p l e R s m args below meth c Q A D ad cy) := by
  have F : xFix p s m args c D cy code RL xL_L_law (xlk []) (xlk xclL) := ⟨hx, hb, hts, hown, hK, xk_L_law, xt_L_law, xplL.1, xplL.2.1, xplL.2.2, hNs⟩
  refine ⟨fun n hn => ⟨fun cu M k lv st aw h => lxp_ok F (fun Ln' xs' h => by cases h; exact hX) (fun _ _ _ _ _ _ _ _ _ h => h.elim) ?_ cu M k lv st aw h, fun k lv lv' st aw h1 h2 h3 => xforget h1 h2 h3⟩, ?_, lw_mod hx hb hts hown hK hNs hRf hRl hRc hRs hA, lw_cls hx hb hts hown hK hNs hRf hRl hRc hRs hA, lw_wrp hx hb hts hown hK hNs hyN hyS hyZ hyC hRf hRl hRc hRs hA⟩
  · intro n' q lv vs aw' hq hv hp
    refine lhead hq (fun r9 hdr => ?_)
    have hdq := xdec xk_L_law hq
    have hN := xlenq xt_L_law hq
    rw [hdr]
    intro hml H locs ls hP hD hS hl
    obtain ⟨pc, i, len, t⟩ := q
    rcases hv with ⟨hi, x, rfl⟩ | ⟨hi, x, rfl⟩ | ⟨hi, x, rfl⟩ | ⟨hi, rfl⟩
    · have hi : i = .ireturn := hi
      subst hi
      have hlen : len = 1 := of_decide_eq_true hN
      subst hlen
      have hp : [Value.int x] = [.int (nI 1)] := hp
      cases hp
      exact hret n hn H locs ls pc hdq hS
    · cases hp
    · cases hp
    · cases hp
  · intro n k lv st aw h
    cases hdr : xL_L_law.drop k with
    | nil => rw [hdr] at h; exact h
    | cons q r =>
      rw [hdr] at h
      intro hml H locs ls hP hD hS hl
      exact W.widen (by omega) (by omega) (h hml H locs ls hP hD hS hl)
end LW
