/-! the law's start: a new box, a new reference, two rows -/
def S00 : cS := (fun i => match i with
  | 0 => nI 20
  | 2 => nI 20
  | _ => nI 0, fun i => match i with
  | 0 => 13830554455654793216
  | 1 => 4593671619917905920
  | 2 => 13830554455654793216
  | 3 => 4593671619917905920
  | _ => FP.dconst0, fun _ => 1056964608, fun _ _ => 0, fun _ _ => 0, fun _ _ => 0)
def piL : List Nat := [0, 1, 7, 13, 15, 17, 19, 21, 30, 31, 33, 2, 3, 4, 5, 6, 8, 9, 10, 11, 12, 14, 16, 18, 20, 32, 34, 22, 23, 24, 25, 26, 27, 28, 29, 35]
def piF (k : Nat) : Nat := piL.getD k 0
/-- the places of the law's world -/
def adL (ad1 ad2 : Nat → Nat) (q3 q4 b : Nat) : Nat → Nat := fun k => if k < 36 then ad1 (piF k) else if k = 36 then q3 else if k = 37 then q4 else if k = 1000 then b else ad2 (k - 38)
theorem xw_agr {n : Nat} {ad ad2 : Nat → Nat} {cy : Nat → ClassId} {aw : xA} (h : agr n ad ad2) (hn : aw.length ≤ n) (hs : aw.all (esc n) = true) : xw ad2 cy aw = xw ad cy aw := by
  apply List.ext_getElem?
  intro k
  rw [xw_at, xw_at]
  cases h1 : aw[k]? with
  | none => rfl
  | some e =>
    have hk := (List.getElem?_eq_some_iff.mp h1).1
    show some (_, _) = some (_, _)
    rw [h k (by omega), esc_xe h (List.all_eq_true.mp hs e (List.mem_of_getElem? h1))]
theorem va_D_app {A : Nat → Prop} {a b : va_W} (h1 : va_D A a) (h2 : va_D A b) (hx : ∀ p ∈ a, ∀ q ∈ b, p.1 ≠ q.1) : va_D A (a ++ b) := h1.app h2 (fun _ _ p q hi hj => hx p (List.mem_of_getElem? hi) q (List.mem_of_getElem? hj))
set_option maxRecDepth 100000 in
theorem pi_eq (ad1 ad2 : Nat → Nat) (cy : Nat → ClassId) (q3 q4 b : Nat) : piL.map (fun i => (xw ad1 cy zoB)[i]?) = (xw (adL ad1 ad2 q3 q4 b) cy (cW S00)).map some := rfl
theorem mp_mem {is : List Nat} {ws ws' : va_W} (h : is.map (fun i => ws[i]?) = ws'.map some) {q : Nat × va_E} (hq : q ∈ ws') : q ∈ ws := by
  have h1 : some q ∈ ws'.map some := List.mem_map.mpr ⟨q, hq, rfl⟩
  rw [← h] at h1
  obtain ⟨i, -, hi⟩ := List.mem_map.mp h1
  exact List.mem_of_getElem? hi
section LZ
variable {p : Program} {l : Launch} {e : Env} {R : Room} {s : State} {m : MethodId} {args : Array Value} {below : List Frame} {meth : Method} {c : Code} {Q : State → Prop} {A : Nat → Prop} {D : va_G} {cy : Nat → ClassId}
/-- behind a constructor's call: the object was the last thing of the world -/
theorem lw_con {H : Heap} {locs : List Loc} {cells slots mc ms pc q : Nat} {ls : Array Slot} {st0 rest : List Value} {wr : va_W} {e0 : va_E} {awo : xA} {aa : Array Value} (hA : ∀ q, s.heap.size ≤ q → A q) (hP : va_P D vwCl (wr ++ [(q, e0)]) H) (hD : va_D A (wr ++ [(q, e0)])) (hS : va_S A s.heap H locs)
    (hr : va_Run p l e R s m args below meth c H locs cells slots mc ms (F0 m pc ls st0) rest (zQc D cy q e0 awo H.size aa) (va_A [(q, e0)] H.size))
    (kk : ∀ (ad' : Nat → Nat) (H1 : Heap) (locs1 : List Loc), ad' 0 = q → va_P D vwCl (wr ++ xw ad' cy awo) H1 → va_D A (wr ++ xw ad' cy awo) → va_S A s.heap H1 locs1 → W p l e R s m args below meth c H1 locs1 (cells + mc) (slots + ms) Q (F0 m (pc + 3) ls rest)) : W p l e R s m args below meth c H locs cells slots Q (F0 m pc ls st0) := by
  obtain ⟨d1, d2, d3⟩ := va_D_split hD
  have hAq : A q := d2.2 0 (q, e0) rfl
  have hFA : ∀ z, va_A [(q, e0)] H.size z → A z := by
    rintro z (⟨k, e9, h⟩ | h)
    · have h2 := List.mem_of_getElem? h
      rw [List.mem_singleton] at h2
      cases h2
      exact hAq
    · exact hA z (Nat.le_trans hS.1 h)
  intro T hT X
  obtain ⟨v, st₀, t, T', Lc, g0, X', hL, e1, e2, ⟨⟨hv, ad', hd0, hP1, hK1, hD1⟩, hz, hk⟩, st⟩ := hr T hT X
  cases hv
  rw [g0] at hz hk
  rw [← e1] at hP1 hk hz
  have hPm := va_P_mem.mp hP
  have hlt : ∀ z ∈ wr, z.1 < H.size := fun z hz => (hPm z (List.mem_append_left _ hz)).lt
  have hap : ∀ z ∈ wr, ¬ va_A [(q, e0)] H.size z.1 := by
    rintro z hz (⟨k, e9, h⟩ | h)
    · have h2 := List.mem_of_getElem? h
      rw [List.mem_singleton] at h2
      exact d3 z hz (q, e0) (List.mem_singleton.mpr rfl) (show z.1 = q from congrArg Prod.fst h2)
    · have := hlt z hz
      omega
  have hP2 : va_P D vwCl (wr ++ xw ad' cy awo) T'.heap := va_P_mem.mpr (fun z hz9 => by
    rcases List.mem_append.mp hz9 with h | h
    · exact (hPm z (List.mem_append_left _ h)).kept (hk _ (hlt z h) (hap z h))
    · exact va_P_mem.mp hP1 z h)
  have hD2 : va_D A (wr ++ xw ad' cy awo) := va_D_app d1 ⟨hD1.1, fun k z h => hFA _ (hD1.2 k z h)⟩ (fun z hz9 y hy h => hap z hz9 (by
    rw [h]
    obtain ⟨k, hk9⟩ := List.mem_iff_getElem?.mp hy
    exact hD1.2 k y hk9))
  obtain ⟨t2, a1, b1⟩ := kk ad' T'.heap (locs ++ Lc) hd0 hP2 hD2 ⟨Nat.le_trans hS.1 hz, fun z h1 h2 => by rw [hk z (Nat.lt_of_lt_of_le h1 hS.1) (fun y => h2 (hFA z y))]; exact hS.2.1 z h1 h2, fun z hz9 => by
      rcases List.mem_append.mp hz9 with h | h
      · exact hS.2.2 z h
      · exact hFA _ (hL z h)⟩ T' rfl X'
  exact ⟨t2, st t2 a1, b1⟩
theorem lw_cpre {H : Heap} {wr : va_W} {e0 : va_E} {q : Nat} (hK : va_K D vwCl (xty cy) s) (hNs : xNs s) (hP : va_P D vwCl (wr ++ [(q, e0)]) H) : PreS s H (zPc D cy q [] e0 H.size) [.ref q] := by
  refine ⟨zblind, fun U hU hW => ⟨rfl, by rw [hU], ?_, va_K.moved hW.alike hK, ?_, hNs.warm hW⟩⟩
  · rw [hU]
    exact va_P_mem.mpr (fun z hz => va_P_mem.mp hP z (List.mem_append_right _ hz))
  · refine ⟨fun i j p q hi hj _ => ?_, fun _ _ _ => trivial⟩
    have hi2 := (List.getElem?_eq_some_iff.mp hi).1
    have hj2 := (List.getElem?_eq_some_iff.mp hj).1
    simp only [List.length_cons, List.length_nil] at hi2 hj2
    omega
theorem lw_d0 : decode code 0 = .ok (.new 8, 3) := xdec xk_L_law (n := 0) (q := (0, .new 8, 3, 0)) rfl
theorem lw_d1 : decode code 3 = .ok (.dup, 1) := xdec xk_L_law (n := 1) (q := (3, .dup, 1, 0)) rfl
theorem lw_d2 : decode code 4 = .ok (.invokespecial 50, 3) := xdec xk_L_law (n := 2) (q := (4, .invokespecial 50, 3, 0)) rfl
theorem lw_d3 : decode code 7 = .ok (.astore_n 1, 1) := xdec xk_L_law (n := 3) (q := (7, .astore_n 1, 1, 0)) rfl
theorem lw_d4 : decode code 8 = .ok (.new 51, 3) := xdec xk_L_law (n := 4) (q := (8, .new 51, 3, 0)) rfl
theorem lw_d5 : decode code 11 = .ok (.dup, 1) := xdec xk_L_law (n := 5) (q := (11, .dup, 1, 0)) rfl
theorem lw_d6 : decode code 12 = .ok (.invokespecial 53, 3) := xdec xk_L_law (n := 6) (q := (12, .invokespecial 53, 3, 0)) rfl
theorem lw_d7 : decode code 15 = .ok (.astore_n 2, 1) := xdec xk_L_law (n := 7) (q := (15, .astore_n 2, 1, 0)) rfl
theorem lw_d8 : decode code 16 = .ok (.iconst 1, 1) := xdec xk_L_law (n := 8) (q := (16, .iconst 1, 1, 0)) rfl
theorem lw_d9 : decode code 17 = .ok (.newarray .long, 2) := xdec xk_L_law (n := 9) (q := (17, .newarray .long, 2, 0)) rfl
theorem lw_d10 : decode code 19 = .ok (.astore_n 3, 1) := xdec xk_L_law (n := 10) (q := (19, .astore_n 3, 1, 0)) rfl
theorem lw_d11 : decode code 20 = .ok (.iconst 1, 1) := xdec xk_L_law (n := 11) (q := (20, .iconst 1, 1, 0)) rfl
theorem lw_d12 : decode code 21 = .ok (.newarray .double, 2) := xdec xk_L_law (n := 12) (q := (21, .newarray .double, 2, 0)) rfl
theorem lw_d13 : decode code 23 = .ok (.astore 4, 2) := xdec xk_L_law (n := 13) (q := (23, .astore 4, 2, 0)) rfl
theorem lw_d14 : decode code 25 = .ok (.iconst 0, 1) := xdec xk_L_law (n := 14) (q := (25, .iconst 0, 1, 0)) rfl
theorem lw_d15 : decode code 26 = .ok (.istore 5, 2) := xdec xk_L_law (n := 15) (q := (26, .istore 5, 2, 0)) rfl
abbrev LV0 : xO := [some (.ref 1000), some (.ref 0), some (.ref 38), some (.ref 36), some (.ref 37), some (.int (nI 0)), none, none, none, none]
set_option maxHeartbeats 2000000 in
set_option maxRecDepth 100000 in
theorem ls_1 {b : Nat} {ls : Array Slot} (hx : p.tables.exec = Jvm.exec) (hb : c.code = code) (hml : c.maxLocals = 10) (hts : ∀ w ∈ xG, w.before args s = true) (hown : s.vm.findClass RL = some m.cls) (hK : va_K D vwCl (xty cy) s) (hNs : xNs s) (hRf : 10 ≤ R.frames) (hRl : 352 ≤ R.locals) (hRc : 60 ≤ R.cells) (hRs : 1975 ≤ R.slots) (hA : ∀ q, s.heap.size ≤ q → A q) (hl : lv_has ls 10 [(0, .ref b)]) (hP : va_P D vwCl [] s.heap) (hD : va_D A []) (hS : va_S A s.heap s.heap [])
    (next : ∀ (q1 : Nat) (ad1 : Nat → Nat) (H : Heap) (locs : List Loc) (ls : Array Slot), ad1 0 = q1 → va_P D vwCl (xw ad1 cy zoB) H → va_D A (xw ad1 cy zoB) → va_S A s.heap H locs → lv_has ls 10 [(1, .ref q1), (0, .ref b)] → W p l e R s m args below meth c H locs 36 966 Q (F0 m 8 ls [])) : W p l e R s m args below meth c s.heap [] 0 0 Q (F0 m 0 ls []) := by
  obtain ⟨i1, i2, i3⟩ := xcls 4 RX4 TX4 10 rfl
  refine va_new (ci := 4) (C := RX4) (T := TX4) (N := 10) (fs := zdB) hx hb hts i1 (xtyp 4) i2 hown (hts (.classLink RL 8 RX4) (by decide +kernel)) (hts (.instantiable RX4 10) (by decide +kernel)) (hts (.initialized RX4) (by decide +kernel)) hK hP hD hS hA rfl zddB (by omega) (by omega) lw_d0 (fun q1 H hP hD hS => ?_)
  refine lv_dup hx hb lw_d1 rfl ?_
  have hp1 := lw_cpre (D := D) (cy := cy) (s := s) hK hNs hP
  refine lw_con hA hP hD hS (va_runI (g := F0 m 4 ls [.ref q1, .ref q1]) (b := q1) (As := []) (rest := [.ref q1]) (nL := 10) ⟨hx, hb, hml, hown, hts⟩ (z_Box q1 H.size) (cwI 0 hts (zgood (by decide +kernel)) rfl rfl rfl (hts (.initialized RX4) (by decide +kernel)) (hts (.methodLink RL 50 yX4_init) (by decide +kernel)) (hts (.instanceMethod yX4_init) (by decide +kernel)) rfl (by decide +kernel) ⟨by show 3 + 1 ≤ _; omega, by show 8 + (1 + 11) + 40 * 3 ≤ _; omega⟩) hp1 rfl rfl hl.1 rfl (lv_room (Nat.le_of_ble_eq_true rfl)) lw_d2 ⟨by omega, by omega⟩) (fun ad1 H locs e1 hP hD hS => ?_)
  refine lv_astore_n (lv' := [(1, .ref q1), (0, .ref b)]) hx hb lw_d3 rfl hl (by decide) rfl (fun ls hl => ?_)
  exact next q1 ad1 H locs ls e1 hP hD hS hl
set_option maxHeartbeats 2000000 in
set_option maxRecDepth 100000 in
theorem ls_2 {w1 : va_W} {b q1 : Nat} {ls : Array Slot} {H : Heap} {locs : List Loc} (hx : p.tables.exec = Jvm.exec) (hb : c.code = code) (hml : c.maxLocals = 10) (hts : ∀ w ∈ xG, w.before args s = true) (hown : s.vm.findClass RL = some m.cls) (hK : va_K D vwCl (xty cy) s) (hNs : xNs s) (hRf : 10 ≤ R.frames) (hRl : 352 ≤ R.locals) (hRc : 60 ≤ R.cells) (hRs : 1975 ≤ R.slots) (hA : ∀ q, s.heap.size ≤ q → A q) (hl : lv_has ls 10 [(1, .ref q1), (0, .ref b)]) (hP : va_P D vwCl w1 H) (hD : va_D A w1) (hS : va_S A s.heap H locs)
    (next : ∀ (q2 : Nat) (ad2 : Nat → Nat) (H : Heap) (locs : List Loc) (ls : Array Slot), ad2 0 = q2 → va_P D vwCl (w1 ++ xw ad2 cy (mW T00)) H → va_D A (w1 ++ xw ad2 cy (mW T00)) → va_S A s.heap H locs → lv_has ls 10 [(2, .ref q2), (1, .ref q1), (0, .ref b)] → W p l e R s m args below meth c H locs 58 1973 Q (F0 m 16 ls [])) : W p l e R s m args below meth c H locs 36 966 Q (F0 m 8 ls []) := by
  obtain ⟨i1, i2, i3⟩ := xcls 5 RX5 TX5 25 rfl
  refine va_new (ci := 5) (C := RX5) (T := TX5) (N := 25) (fs := zdM) hx hb hts i1 (xtyp 5) i2 hown (hts (.classLink RL 51 RX5) (by decide +kernel)) (hts (.instantiable RX5 25) (by decide +kernel)) (hts (.initialized RX5) (by decide +kernel)) hK hP hD hS hA rfl zddM (by omega) (by omega) lw_d4 (fun q2 H hP hD hS => ?_)
  refine lv_dup hx hb lw_d5 rfl ?_
  have hp2 := lw_cpre (D := D) (cy := cy) (s := s) hK hNs hP
  refine lw_con hA hP hD hS (va_runI (g := F0 m 12 ls [.ref q2, .ref q2]) (b := q2) (As := []) (rest := [.ref q2]) (nL := 10) ⟨hx, hb, hml, hown, hts⟩ (z_Model q2 H.size) (cwI 0 hts (zgood (by decide +kernel)) rfl rfl rfl (hts (.initialized RX5) (by decide +kernel)) (hts (.methodLink RL 53 yX5_init) (by decide +kernel)) (hts (.instanceMethod yX5_init) (by decide +kernel)) rfl (by decide +kernel) ⟨by show 1 + 1 ≤ _; omega, by show 8 + (2 + 11) + 40 * 1 ≤ _; omega⟩) hp2 rfl rfl hl.1 rfl (lv_room (Nat.le_of_ble_eq_true rfl)) lw_d6 ⟨by omega, by omega⟩) (fun ad2 H locs e2 hP hD hS => ?_)
  refine lv_astore_n (lv' := [(2, .ref q2), (1, .ref q1), (0, .ref b)]) hx hb lw_d7 rfl hl (by decide) rfl (fun ls hl => ?_)
  exact next q2 ad2 H locs ls e2 hP hD hS hl
set_option maxHeartbeats 2000000 in
set_option maxRecDepth 100000 in
theorem ls_3 {w1 : va_W} {b q1 q2 : Nat} {ls : Array Slot} {H : Heap} {locs : List Loc} (hx : p.tables.exec = Jvm.exec) (hb : c.code = code) (hml : c.maxLocals = 10) (hts : ∀ w ∈ xG, w.before args s = true) (hown : s.vm.findClass RL = some m.cls) (hK : va_K D vwCl (xty cy) s) (hNs : xNs s) (hRf : 10 ≤ R.frames) (hRl : 352 ≤ R.locals) (hRc : 60 ≤ R.cells) (hRs : 1975 ≤ R.slots) (hA : ∀ q, s.heap.size ≤ q → A q) (hl : lv_has ls 10 [(2, .ref q2), (1, .ref q1), (0, .ref b)]) (hP : va_P D vwCl w1 H) (hD : va_D A w1) (hS : va_S A s.heap H locs)
    (next : ∀ (q3 q4 : Nat) (H : Heap) (ls : Array Slot), va_P D vwCl ((w1 ++ [(q3, .inl (cy 4, 1, .inr (.inl (fun _ => 0))))]) ++ [(q4, .inl (cy 0, 1, .inr (.inr (.inr (.inl (fun _ => 0))))))]) H → va_D A ((w1 ++ [(q3, .inl (cy 4, 1, .inr (.inl (fun _ => 0))))]) ++ [(q4, .inl (cy 0, 1, .inr (.inr (.inr (.inl (fun _ => 0))))))]) → va_S A s.heap H locs → lv_has ls 10 [(5, .int (nI 0)), (4, .ref q4), (3, .ref q3), (2, .ref q2), (1, .ref q1), (0, .ref b)] → W p l e R s m args below meth c H locs 60 1975 Q (F0 m 28 ls [])) : W p l e R s m args below meth c H locs 58 1973 Q (F0 m 16 ls []) := by
  refine lv_iconst (v := nI 1) hx hb lw_d8 rfl ?_
  refine znewa (kd := 4) (ad := fun _ => 0) (ty := .long) (N := 1) (a1 := .inr (.inl (fun _ => 0))) hx hb hts rfl (zarr_ok _ (by decide)) hK rfl (fun _ _ => ra_uq (by decide)) (fun _ => rfl) hP hD hS hA (by decide) (by decide) (by omega) (by omega) lw_d9 (fun q3 H hP hD hS => ?_)
  refine lv_astore_n (lv' := [(3, .ref q3), (2, .ref q2), (1, .ref q1), (0, .ref b)]) hx hb lw_d10 rfl hl (by decide) rfl (fun ls hl => ?_)
  refine lv_iconst (v := nI 1) hx hb lw_d11 rfl ?_
  refine znewa (kd := 0) (ad := fun _ => 0) (ty := .double) (N := 1) (a1 := .inr (.inr (.inr (.inl (fun _ => 0))))) hx hb hts rfl (zarr_ok _ (by decide)) hK rfl (fun _ _ => ra_uq (by decide)) (fun _ => rfl) hP hD hS hA (by decide) (by decide) (by omega) (by omega) lw_d12 (fun q4 H hP hD hS => ?_)
  refine lv_astore (lv' := [(4, .ref q4), (3, .ref q3), (2, .ref q2), (1, .ref q1), (0, .ref b)]) hx hb lw_d13 hl (by decide) rfl (fun ls hl => ?_)
  refine lv_iconst (v := nI 0) hx hb lw_d14 rfl ?_
  refine lv_istore (lv' := [(5, .int (nI 0)), (4, .ref q4), (3, .ref q3), (2, .ref q2), (1, .ref q1), (0, .ref b)]) hx hb lw_d15 hl (by decide) rfl (fun ls hl => ?_)
  exact next q3 q4 H ls hP hD hS hl
set_option maxHeartbeats 2000000 in
set_option maxRecDepth 100000 in
theorem ls_4 {ad1 ad2 : Nat → Nat} {q3 q4 b : Nat} {H : Heap} (hP : va_P D vwCl (((xw ad1 cy zoB ++ xw ad2 cy (mW T00)) ++ [(q3, .inl (cy 4, 1, .inr (.inl (fun _ => 0))))]) ++ [(q4, .inl (cy 0, 1, .inr (.inr (.inr (.inl (fun _ => 0))))))]) H) (hD : va_D A (((xw ad1 cy zoB ++ xw ad2 cy (mW T00)) ++ [(q3, .inl (cy 4, 1, .inr (.inl (fun _ => 0))))]) ++ [(q4, .inl (cy 0, 1, .inr (.inr (.inr (.inl (fun _ => 0))))))])) : va_P D vwCl (xw (adL ad1 ad2 q3 q4 b) cy (lwW S00 T00 (fun _ => 0) (fun _ => 0))) H ∧ va_D A (xw (adL ad1 ad2 q3 q4 b) cy (lwW S00 T00 (fun _ => 0) (fun _ => 0))) := by
  obtain ⟨ad, had⟩ : ∃ f : Nat → Nat, f = adL ad1 ad2 q3 q4 b := ⟨_, rfl⟩
  have hpi := pi_eq ad1 ad2 cy q3 q4 b
  rw [← had] at hpi
  have h38 : xw (ad38 ad) cy (mW T00) = xw ad2 cy (mW T00) := by
    refine xw_agr (n := 22) (fun k hk => ?_) (Nat.le_refl 22) rfl
    rw [had]
    show (if 38 + k < 36 then _ else if 38 + k = 36 then _ else if 38 + k = 37 then _ else if 38 + k = 1000 then _ else ad2 (38 + k - 38)) = _
    rw [if_neg (by omega), if_neg (by omega), if_neg (by omega), if_neg (by omega), Nat.add_sub_cancel_left]
  have hmid : xwf ad cy 36 [aL 1 (fun _ => 0), aD 1 (fun _ => 0)] = [(q3, .inl (cy 4, 1, .inr (.inl (fun _ => 0)))), (q4, .inl (cy 0, 1, .inr (.inr (.inr (.inl (fun _ => 0))))))] := by
    rw [had]
    rfl
  have hww := lwW_m ad cy S00 T00 (fun _ => 0) (fun _ => 0)
  rw [h38, hmid] at hww
  obtain ⟨d1, d2, d3⟩ := va_D_split hD
  obtain ⟨d4, d5, d6⟩ := va_D_split d1
  obtain ⟨d7, d8, d9⟩ := va_D_split d4
  have hPm := va_P_mem.mp hP
  have hPf : va_P D vwCl (xw ad cy (lwW S00 T00 (fun _ => 0) (fun _ => 0))) H := by
    rw [hww]
    refine va_P_mem.mpr (fun z hz => hPm z ?_)
    rcases List.mem_append.mp hz with h | h
    · rcases List.mem_append.mp h with h | h
      · exact List.mem_append_left _ (List.mem_append_left _ (List.mem_append_left _ (mp_mem hpi h)))
      · rcases List.mem_cons.mp h with h | h
        · rw [h]; exact List.mem_append_left _ (List.mem_append_right _ (List.mem_singleton.mpr rfl))
        · rw [List.mem_singleton.mp h]; exact List.mem_append_right _ (List.mem_singleton.mpr rfl)
    · rcases List.mem_append.mp h with h | h
      · exact List.mem_append_left _ (List.mem_append_left _ (List.mem_append_right _ h))
      · cases h
  have hDf : va_D A (xw ad cy (lwW S00 T00 (fun _ => 0) (fun _ => 0))) := by
    rw [hww]
    rw [List.append_nil]
    refine va_D_app (va_D_app (d7.sub piL (by decide) hpi) (va_D_app (a := [_]) (b := [_]) d5 d2 ?_) ?_) d8 ?_
    · intro z hz y hy
      exact d3 z (List.mem_append_right _ hz) y hy
    · intro z hz y hy
      have hz := mp_mem hpi hz
      rcases List.mem_cons.mp hy with h | h
      · exact d6 z (List.mem_append_left _ hz) y (by rw [h]; exact List.mem_singleton.mpr rfl)
      · exact d3 z (List.mem_append_left _ (List.mem_append_left _ hz)) y h
    · intro z hz y hy
      rcases List.mem_append.mp hz with h | h
      · exact d9 z (mp_mem hpi h) y hy
      · rcases List.mem_cons.mp h with h | h
        · exact fun z9 => d6 y (List.mem_append_right _ hy) z (by rw [h]; exact List.mem_singleton.mpr rfl) z9.symm
        · exact fun z9 => d3 y (List.mem_append_left _ (List.mem_append_right _ hy)) z h z9.symm
  rw [← had]
  exact ⟨hPf, hDf⟩
set_option maxHeartbeats 2000000 in
set_option maxRecDepth 100000 in
theorem law_start {b : Nat} {ls : Array Slot} (hx : p.tables.exec = Jvm.exec) (hb : c.code = code) (hml : c.maxLocals = 10) (hts : ∀ w ∈ xG, w.before args s = true) (hown : s.vm.findClass RL = some m.cls) (hK : va_K D vwCl (xty cy) s) (hNs : xNs s) (hRf : 10 ≤ R.frames) (hRl : 352 ≤ R.locals) (hRc : 60 ≤ R.cells) (hRs : 1975 ≤ R.slots) (hA : ∀ q, s.heap.size ≤ q → A q) (hl : lv_has ls 10 [(0, .ref b)])
    (next : ∀ ad : Nat → Nat, ad 1000 = b → xWc p l e R s m args below meth c Q A D ad cy 60 1975 (xL_L_law.drop 16) LV0 [] (lwW S00 T00 (fun _ => 0) (fun _ => 0))) : W p l e R s m args below meth c s.heap [] 0 0 Q (F0 m 0 ls []) := by
  refine ls_1 hx hb hml hts hown hK hNs hRf hRl hRc hRs hA hl (fun k q h => by simp at h) ⟨fun i j p q h => by simp at h, fun k q h => by simp at h⟩ va_S.rf (fun q1 ad1 H locs ls e1 hP hD hS hl => ?_)
  refine ls_2 hx hb hml hts hown hK hNs hRf hRl hRc hRs hA hl hP hD hS (fun q2 ad2 H locs ls e2 hP hD hS hl => ?_)
  refine ls_3 hx hb hml hts hown hK hNs hRf hRl hRc hRs hA hl hP hD hS (fun q3 q4 H ls hP hD hS hl => ?_)
  obtain ⟨hPf, hDf⟩ := ls_4 (b := b) hP hD
  obtain ⟨ad, had⟩ : ∃ f : Nat → Nat, f = adL ad1 ad2 q3 q4 b := ⟨_, rfl⟩
  rw [← had] at hPf hDf
  have h9 := next ad (by rw [had]; rfl)
  have q1e : ad 0 = q1 := by rw [had]; exact e1
  have q2e : ad 38 = q2 := by rw [had]; exact e2
  have q3e : ad 36 = q3 := by rw [had]; rfl
  have q4e : ad 37 = q4 := by rw [had]; rfl
  have qbe : ad 1000 = b := by rw [had]; rfl
  generalize lwW S00 T00 (fun _ => 0) (fun _ => 0) = w9 at h9 hPf hDf
  refine h9 hml.symm H locs ls hPf hDf hS ?_
  refine ⟨hl.1, hl.2.1, fun q hq => hl.2.2 q ?_⟩
  have hq : q ∈ ([(0, .ref (ad 1000)), (1, .ref (ad 0)), (2, .ref (ad 38)), (3, .ref (ad 36)), (4, .ref (ad 37)), (5, .int (nI 0))] : List (Nat × Value)) := hq
  rw [q1e, q2e, qbe, q3e, q4e] at hq
  simp only [List.mem_cons, List.not_mem_nil, or_false] at hq ⊢
  rcases hq with h | h | h | h | h | h
  · exact Or.inr (Or.inr (Or.inr (Or.inr (Or.inr h))))
  · exact Or.inr (Or.inr (Or.inr (Or.inr (Or.inl h))))
  · exact Or.inr (Or.inr (Or.inr (Or.inl h)))
  · exact Or.inr (Or.inr (Or.inl h))
  · exact Or.inr (Or.inl h)
  · exact Or.inl h
end LZ
