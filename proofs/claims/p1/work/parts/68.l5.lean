/-! the law's world, and its calls -/
def lwW (S : cS) (T : mS) (o : Nat → Int64) (od : Nat → UInt64) : xA := cW S ++ ([aL 1 o, aD 1 od] ++ (mW T).map (xshE 38))
def nrf (v : Value) : Bool := match v with
  | .ref _ => false
  | _ => true
theorem xv_nrf {ad : Nat → Nat} {v : Value} (h : nrf v = true) : xv ad v = v := by cases v <;> first | rfl | cases h
theorem map_nrf {ad ad2 : Nat → Nat} : ∀ {vs : List Value}, vs.all nrf = true → vs.map (xv ad) = vs.map (xv ad2)
  | [], _ => rfl
  | v :: r, h => by
    rw [List.all_cons, Bool.and_eq_true] at h
    show xv ad v :: r.map (xv ad) = xv ad2 v :: r.map (xv ad2)
    rw [xv_nrf h.1, xv_nrf h.1, map_nrf (ad := ad) (ad2 := ad2) h.2]
abbrev ad38 (ad : Nat → Nat) : Nat → Nat := fun i => ad (38 + i)
theorem lwW_m (ad : Nat → Nat) (cy : Nat → ClassId) (S : cS) (T : mS) (o : Nat → Int64) (od : Nat → UInt64) : xw ad cy (lwW S T o od) = (xwf ad cy 0 (cW S) ++ xwf ad cy 36 [aL 1 o, aD 1 od]) ++ (xw (ad38 ad) cy (mW T) ++ []) := by
  rw [xw_xwf, lwW, xwf_app, xwf_app, List.append_nil, List.append_assoc]
  have h := xwf_sh ad cy 38 (mW T) 0
  have h : xwf ad cy 38 ((mW T).map (xshE 38)) = xw (ad38 ad) cy (mW T) := h
  rw [← h]
  rfl
theorem lwW_c (ad : Nat → Nat) (cy : Nat → ClassId) (S : cS) (T : mS) (o : Nat → Int64) (od : Nat → UInt64) : xw ad cy (lwW S T o od) = [] ++ (xw ad cy (cW S) ++ xwf ad cy 36 ([aL 1 o, aD 1 od] ++ (mW T).map (xshE 38))) := xw_pre ad cy (cW S) _
theorem lwW_w (ad : Nat → Nat) (cy : Nat → ClassId) (S : cS) (T : mS) (o : Nat → Int64) (od : Nat → UInt64) : xw ad cy (lwW S T o od) = [] ++ (xw ad cy (cW S ++ [aL 1 o, aD 1 od]) ++ xwf ad cy 38 ((mW T).map (xshE 38))) := by
  rw [lwW, ← List.append_assoc]
  exact xw_pre ad cy (cW S ++ [aL 1 o, aD 1 od]) _
def lwMod (l : Launch) (D : va_G) (ad : Nat → Nat) (cy : Nat → ClassId) (N : Nat) (WC : Nat → xC → xO → List Value → xA → Prop) : Prop :=
  ∀ (n k pk j t9 na d' n' : Nat) (y' : MethodName) (cc' : ByteArray) (ret' : Option FieldType) (as rest vs0 : List Value) (S : cS) (T T' : mS) (o : Nat → Int64) (od : Nat → UInt64) (lv : xO), n ≤ N → xL_L_law[k]? = some (pk, .invokevirtual j, 3, t9) →
    xMet l y' cc' n' ret' d' D (ad38 ad) cy (.ref 0 :: as) (mW T) (fun vs aw' => vs = vs0 ∧ aw' = mW T') → (∀ w ∈ ([.methodLink RL j y', .instanceMethod y', .selects y'.cls y' y', .initialized y'.cls, .code y' cc' n' ret'] : List Cond), w ∈ xG) → y'.cls = RX5 →
    (y'.cls ≠ "java/lang/invoke/MethodHandle" ∧ y'.cls ≠ "java/lang/invoke/VarHandle" ∧ (parseMethodDescriptor y'.desc).map (fun d => d.parameters.length) = some na) → as.length = na → d' ≤ 8 ∧ 8 + (n' + 11) + 40 * d' ≤ 352 → xsm rest = true → as.all nrf = true → vs0.all nrf = true →
    WC n (xL_L_law.drop (k + 1)) lv (vs0 ++ rest) (lwW S T' o od) → WC n (xL_L_law.drop k) lv (as.reverse ++ .ref 38 :: rest) (lwW S T o od)
def lwCls (l : Launch) (D : va_G) (ad : Nat → Nat) (cy : Nat → ClassId) (N : Nat) (WC : Nat → xC → xO → List Value → xA → Prop) : Prop :=
  ∀ (n k pk j t9 na d' n' : Nat) (y' : MethodName) (cc' : ByteArray) (ret' : Option FieldType) (as rest vs0 : List Value) (S S' : cS) (T : mS) (o : Nat → Int64) (od : Nat → UInt64) (lv : xO), n ≤ N → xL_L_law[k]? = some (pk, .invokevirtual j, 3, t9) →
    xMet l y' cc' n' ret' d' D ad cy (.ref 0 :: as) (cW S) (fun vs aw' => vs = vs0 ∧ aw' = cW S') → (∀ w ∈ ([.methodLink RL j y', .instanceMethod y', .selects y'.cls y' y', .initialized y'.cls, .code y' cc' n' ret'] : List Cond), w ∈ xG) → y'.cls = RX4 →
    (y'.cls ≠ "java/lang/invoke/MethodHandle" ∧ y'.cls ≠ "java/lang/invoke/VarHandle" ∧ (parseMethodDescriptor y'.desc).map (fun d => d.parameters.length) = some na) → as.length = na → d' ≤ 8 ∧ 8 + (n' + 11) + 40 * d' ≤ 352 → xsm rest = true →
    WC n (xL_L_law.drop (k + 1)) lv (vs0 ++ rest) (lwW S' T o od) → WC n (xL_L_law.drop k) lv (as.reverse ++ .ref 0 :: rest) (lwW S T o od)
def lwWrp (l : Launch) (D : va_G) (ad : Nat → Nat) (cy : Nat → ClassId) (N : Nat) (WC : Nat → xC → xO → List Value → xA → Prop) : Prop :=
  ∀ (n k pk j t9 na nl : Nat) (y' : MethodName) (cc' : ByteArray) (hh : List (Nat × Nat × Nat × Nat)) (as rest : List Value) (r : cR) (S : cS) (T : mS) (o o' : Nat → Int64) (od od' : Nat → UInt64) (lv : xO), n < N → xL_L_law[k]? = some (pk, .invokestatic j, 3, t9) →
    wMet l y' cc' nl hh D ad cy as (cW S ++ [aL 1 o, aD 1 od]) (wPo r o' od') → (∀ w ∈ ([.methodLink RL j y', .static y', .initialized y'.cls, .codeWith y' cc' nl (some .int) hh] : List Cond), w ∈ xG) →
    (y'.cls ≠ "java/lang/invoke/MethodHandle" ∧ y'.cls ≠ "java/lang/invoke/VarHandle" ∧ (parseMethodDescriptor y'.desc).map (fun d => d.parameters.length) = some na) → as.length = na → nl ≤ 8 → xsm rest = true →
    WC (n + 1) (xL_L_law.drop (k + 1)) lv (.int (nI r.1) :: rest) (lwW r.2.2 T o' od') → WC n (xL_L_law.drop k) lv (as.reverse ++ rest) (lwW S T o od)
def lwSys (l : Launch) (D : va_G) (ad : Nat → Nat) (cy : Nat → ClassId) (sc : Option (Nat × (Nat → Int32))) (N : Nat) (WC : Nat → xC → xO → List Value → xA → Prop) : Prop :=
  (∀ n, n ≤ N → lSys sc xL_L_law (xlk []) (xlk xclL) (fun _ _ _ _ => False) (fun vs _ => vs = [.int (nI 1)]) (WC n)) ∧
  (∀ (n k : Nat) (lv : xO) (st : List Value) (aw : xA), WC (n + 1) (xL_L_law.drop k) lv st aw → WC n (xL_L_law.drop k) lv st aw) ∧ lwMod l D ad cy N WC ∧ lwCls l D ad cy N WC ∧ lwWrp l D ad cy N WC
section LW
variable {p : Program} {l : Launch} {e : Env} {R : Room} {s : State} {m : MethodId} {args : Array Value} {below : List Frame} {meth : Method} {c : Code} {Q : State → Prop} {A : Nat → Prop} {D : va_G} {ad : Nat → Nat} {cy : Nat → ClassId}
theorem lhead {L : xC} {k : Nat} {q : xI} {P : Prop} (hq : L[k]? = some q) (h : ∀ r, L.drop k = q :: r → P) : P := by
  cases hd : L.drop k with
  | nil =>
    have h1 : (L.drop k).head? = some q := by rw [List.head?_drop]; exact hq
    rw [hd] at h1
    cases h1
  | cons q' r =>
    have h1 := (xdrop hd).1
    rw [hq] at h1
    cases h1
    exact h r hd
theorem lgood {j : Nat} {y' : MethodName} {cc' : ByteArray} {n' : Nat} {ret' : Option FieldType} (hws : ∀ w ∈ ([.methodLink RL j y', .instanceMethod y', .selects y'.cls y' y', .initialized y'.cls, .code y' cc' n' ret'] : List Cond), w ∈ xG) : GoodIn xG (wsV RL j y'.cls y' (xW0 y' cc' n' ret')) := by
  intro w hw
  have hm : w ∈ xG := by
    unfold wsV xW0 at hw
    rcases List.mem_append.mp hw with h | h
    · exact hws w (by
        simp only [List.mem_cons, List.not_mem_nil, or_false] at h ⊢
        rcases h with h | h | h | h
        · exact Or.inl h
        · exact Or.inr (Or.inl h)
        · exact Or.inr (Or.inr (Or.inl h))
        · exact Or.inr (Or.inr (Or.inr (Or.inl h))))
    · rcases List.mem_cons.mp h with h | h
      · exact hws w (by simp [h])
      · exact h
  exact ⟨hm, good_of_word (xG_good w hm)⟩
/-- a call of a method that returns, on a piece of the world -/
theorem lrunV {H : Heap} {locs : List Loc} {cells slots pk j na d' n' nL : Nat} {y' : MethodName} {cc' : ByteArray} {ret' : Option FieldType} {as : List Value} {rs : List Value} {ad2 : Nat → Nat} {sub : xA} {w1 w3 : va_W} {post : List Value → xA → Prop} {ls : Array Slot} {st : List Value} {ci : Nat} {fs : List Value}
    (hx : p.tables.exec = Jvm.exec) (hb : c.code = code) (hts : ∀ w ∈ xG, w.before args s = true) (hown : s.vm.findClass RL = some m.cls) (hK : va_K D vwCl (xty cy) s) (hNs : xNs s) (hRf : 10 ≤ R.frames) (hRl : 352 ≤ R.locals) (hcl : cells ≤ R.cells ∧ slots ≤ R.slots)
    (hM : xMet l y' cc' n' ret' d' D ad2 cy (.ref 0 :: as) sub post) (hws : ∀ w ∈ ([.methodLink RL j y', .instanceMethod y', .selects y'.cls y' y', .initialized y'.cls, .code y' cc' n' ret'] : List Cond), w ∈ xG)
    (hd : y'.cls ≠ "java/lang/invoke/MethodHandle" ∧ y'.cls ≠ "java/lang/invoke/VarHandle" ∧ (parseMethodDescriptor y'.desc).map (fun d => d.parameters.length) = some na) (hna : as.length = na) (hR : d' ≤ 8 ∧ 8 + (n' + 11) + 40 * d' ≤ 352)
    (hr : xn sub 0 = some (.inr (ci, fs))) (hci : ∃ z, vwCl[ci]? = some z ∧ z.1 = y'.cls)
    (hP : va_P D vwCl (w1 ++ (xw ad2 cy sub ++ w3)) H) (hD : va_D A (w1 ++ (xw ad2 cy sub ++ w3))) (hml : c.maxLocals = nL) (hsize : ls.size = nL) (hst : st = (as.map (xv ad2)).reverse ++ .ref (ad2 0) :: rs) (hrs : (rs.map fun v => v.category).sum ≤ 8) (hdq : decode code pk = .ok (.invokevirtual j, 3)) :
    va_Run p l e R s m args below meth c H locs cells slots 0 0 (F0 m pk ls st) rs (xQ D ad2 cy sub H.size post (Value.ref (ad2 0) :: as.map (xv ad2)).toArray) (va_A (xw ad2 cy sub) H.size) := by
  have hPs : va_P D vwCl (xw ad2 cy sub) H := va_P_mem.mpr (fun q hq => va_P_mem.mp hP q (List.mem_append_right _ (List.mem_append_left _ hq)))
  have hDs : va_D A (xw ad2 cy sub) := (va_D_split (va_D_split hD).2.1).1
  obtain ⟨z, hz1, hz2⟩ := hci
  have hrecv := va_recv hK hPs hz1 (xw_get hr)
  rw [hz2] at hrecv
  have hpre : PreV s H y'.cls (ad2 0) (xPc D ad2 cy (.ref 0 :: as) sub H.size) (as.map (xv ad2)) := ⟨xblind, hrecv, fun U hU hW => ⟨rfl, by rw [hU], by rw [hU]; exact hPs, va_K.moved hW.alike hK, hDs.weaken (fun _ _ _ _ => trivial), hNs.warm hW⟩⟩
  exact va_runV (g := F0 m pk ls st) (As := as.map (xv ad2)) (rest := rs) (nL := nL) ⟨hx, hb, hml, hown, hts⟩ (hM H.size) (cwV as.length hts (lgood hws) rfl rfl rfl ⟨rfl, by rw [hna]; exact hd⟩ ⟨by show d' + 1 ≤ _; omega, by show 8 + (n' + 11) + 40 * d' ≤ _; omega⟩) hpre rfl (by rw [List.length_map]) hsize hst (lv_room hrs) hdq ⟨hcl.1, hcl.2⟩
end LW
