/-! the class: setUp -/
def zrS (S : cS) (c : Nat) : cS := cD' (cD' (cD' (cD' (cD' (cD' (cD' (cA' S 27 (filR (fun _ => xb false) (cA S 27) c)) 28 (filR (fun _ => FP.dconst0) (cD S 28) c)) 29 (filR (fun _ => FP.dconst0) (cD S 29) c)) 30 (filR (fun _ => FP.dconst0) (cD S 30) c)) 31 (filR (fun _ => FP.dconst0) (cD S 31) c)) 32 (filR (fun _ => FP.dconst0) (cD S 32) c)) 33 (filR (fun _ => FP.dconst0) (cD S 33) c)) 34 (filR (fun _ => FP.dconst0) (cD S 34) c)
theorem zrS_s (S : cS) (c : Nat) : zrS S (c + 1) = cD' (cD' (cD' (cD' (cD' (cD' (cD' (cA' S 27 (upd (filR (fun _ => xb false) (cA S 27) c) c (xb false))) 28 (vf_upd (filR (fun _ => FP.dconst0) (cD S 28) c) c FP.dconst0)) 29 (vf_upd (filR (fun _ => FP.dconst0) (cD S 29) c) c FP.dconst0)) 30 (vf_upd (filR (fun _ => FP.dconst0) (cD S 30) c) c FP.dconst0)) 31 (vf_upd (filR (fun _ => FP.dconst0) (cD S 31) c) c FP.dconst0)) 32 (vf_upd (filR (fun _ => FP.dconst0) (cD S 32) c) c FP.dconst0)) 33 (vf_upd (filR (fun _ => FP.dconst0) (cD S 33) c) c FP.dconst0)) 34 (vf_upd (filR (fun _ => FP.dconst0) (cD S 34) c) c FP.dconst0) := by
  unfold zrS
  rw [filR_i, filR_s, filR_s, filR_s, filR_s, filR_s, filR_s, filR_s]
theorem zrS_0 (S : cS) : cW (zrS S 0) = cW S := by
  unfold zrS
  rw [filR_0, filR_0, filR_0, filR_0, filR_0, filR_0, filR_0, filR_0]
  rfl
def suR (S : cS) (np : Nat) : Nat → cS
  | 0 => S
  | c + 1 => suF (suR S np c) np (c % 6) (c / 6)
theorem suF_I (S : cS) (np i j : Nat) : cI (suF S np i j) 1 = cI S 1 := by
  unfold suF
  split
  · rfl
  · rfl
theorem suR_I (S : cS) (np : Nat) : ∀ c, cI (suR S np c) 1 = cI S 1
  | 0 => rfl
  | c + 1 => by rw [suR, suF_I, suR_I]
def suOkF (S : cS) (np : Nat) : Prop := ∀ c, c < 36 → suOk (suR (zrS S 36) np c) np (c % 6) (c / 6)
section C10
variable {l : Launch} {D : va_G} {ad : Nat → Nat} {cy : Nat → ClassId}
set_option maxRecDepth 100000 in
set_option maxHeartbeats 4000000 in
theorem su_z (Q S : cS) (WC : xC → xO → List Value → xA → Prop) (hW : xSys xL_X2_setUp (xlk xfl2) (xlk xcl2) (xCt [(90, t_setUpCell)]) (xRt none (fun vs aw' => vs = [] ∧ aw' = cW Q)) WC) (c : Nat) (hc : c < 36) (next : WC (xL_X2_setUp.drop 2) [some (.ref 7), some (.ref 1), some (.ref 5), some (.ref 6), some (.int (nI c + nI 1)), none] [] (cW (zrS S (c + 1)))) : WC (xL_X2_setUp.drop 2) [some (.ref 7), some (.ref 1), some (.ref 5), some (.ref 6), some (.int (nI c)), none] [] (cW (zrS S c)) := by
  rw [zrS_s] at next
  unfold zrS
  refine hW.1 (fun pc => Nat.beq pc 3) 200 2 _ _ _ ?_
  refine And.intro (fun h1 => absurd h1 (nI_ge (b := 36) hc (by decide))) (fun h1 => ?_)
  refine ⟨c, false, rfl, rfl, by omega, by decide, ?_⟩
  refine ⟨c, rfl, by omega, by decide, ?_⟩
  refine ⟨c, rfl, by omega, by decide, ?_⟩
  refine ⟨c, rfl, by omega, by decide, ?_⟩
  refine ⟨c, rfl, by omega, by decide, ?_⟩
  refine ⟨c, rfl, by omega, by decide, ?_⟩
  refine ⟨c, rfl, by omega, by decide, ?_⟩
  refine ⟨c, rfl, by omega, by decide, ?_⟩
  exact next
set_option maxRecDepth 100000 in
set_option maxHeartbeats 4000000 in
theorem su_ze (Q S : cS) (WC : xC → xO → List Value → xA → Prop) (hW : xSys xL_X2_setUp (xlk xfl2) (xlk xcl2) (xCt [(90, t_setUpCell)]) (xRt none (fun vs aw' => vs = [] ∧ aw' = cW Q)) WC) (next : WC (xL_X2_setUp.drop 49) [some (.ref 7), some (.ref 1), some (.ref 5), some (.ref 6), some (.int (nI 0)), none] [] (cW S)) : WC (xL_X2_setUp.drop 2) [some (.ref 7), some (.ref 1), some (.ref 5), some (.ref 6), some (.int (nI 36)), none] [] (cW S) := by
  refine hW.1 (fun pc => Nat.beq pc 3 || Nat.beq pc 83) 200 2 _ _ _ ?_
  exact And.intro (fun h1 => next) (fun h1 => absurd (Int32.le_refl _) h1)
set_option maxRecDepth 100000 in
set_option maxHeartbeats 4000000 in
theorem su_i (Q S : cS) (WC : xC → xO → List Value → xA → Prop) (hW : xSys xL_X2_setUp (xlk xfl2) (xlk xcl2) (xCt [(90, t_setUpCell)]) (xRt none (fun vs aw' => vs = [] ∧ aw' = cW Q)) WC) (np : Nat) (hnp : cI S 1 = nI np) (h24 : np ≤ 24) (i j : Nat) (hi : i < 6) (hj : j < 6) (ok : suOk S np i j) (next : WC (xL_X2_setUp.drop 54) [some (.ref 7), some (.ref 1), some (.ref 5), some (.ref 6), some (.int (nI j)), some (.int (nI i + nI 1))] [] (cW (suF S np i j))) : WC (xL_X2_setUp.drop 54) [some (.ref 7), some (.ref 1), some (.ref 5), some (.ref 6), some (.int (nI j)), some (.int (nI i))] [] (cW S) := by
  refine hW.1 (fun pc => Nat.beq pc 93) 200 54 _ _ _ ?_
  refine And.intro (fun h1 => absurd h1 (nI_ge (b := 6) hi (by decide))) (fun h1 => ?_)
  exact ⟨S, np, i, j, rfl, rfl, rfl, hnp, h24, hi, hj, ok, next⟩
set_option maxRecDepth 100000 in
set_option maxHeartbeats 4000000 in
theorem su_e (Q S : cS) (WC : xC → xO → List Value → xA → Prop) (hW : xSys xL_X2_setUp (xlk xfl2) (xlk xcl2) (xCt [(90, t_setUpCell)]) (xRt none (fun vs aw' => vs = [] ∧ aw' = cW Q)) WC) (j : Nat) (next : WC (xL_X2_setUp.drop 49) [some (.ref 7), some (.ref 1), some (.ref 5), some (.ref 6), some (.int (nI j + nI 1)), none] [] (cW S)) : WC (xL_X2_setUp.drop 54) [some (.ref 7), some (.ref 1), some (.ref 5), some (.ref 6), some (.int (nI j)), some (.int (nI 6))] [] (cW S) := by
  refine hW.1 (fun pc => Nat.beq pc 83 || Nat.beq pc 93) 200 54 _ _ _ ?_
  refine And.intro (fun h1 => ?_) (fun h1 => absurd (Int32.le_refl _) h1)
  refine hW.2 49 _ _ _ _ ?_ ?_ next
  · exact And.intro rfl (And.intro rfl (And.intro rfl (And.intro rfl (And.intro rfl (trivial)))))
  · rfl
set_option maxRecDepth 100000 in
set_option maxHeartbeats 4000000 in
theorem su_o (Q S : cS) (WC : xC → xO → List Value → xA → Prop) (hW : xSys xL_X2_setUp (xlk xfl2) (xlk xcl2) (xCt [(90, t_setUpCell)]) (xRt none (fun vs aw' => vs = [] ∧ aw' = cW Q)) WC) (j : Nat) (hj : j < 6) (next : WC (xL_X2_setUp.drop 54) [some (.ref 7), some (.ref 1), some (.ref 5), some (.ref 6), some (.int (nI j)), some (.int (nI 0))] [] (cW S)) : WC (xL_X2_setUp.drop 49) [some (.ref 7), some (.ref 1), some (.ref 5), some (.ref 6), some (.int (nI j)), none] [] (cW S) := by
  refine hW.1 (fun pc => Nat.beq pc 83 || Nat.beq pc 93) 200 49 _ _ _ ?_
  exact And.intro (fun h1 => absurd h1 (nI_ge (b := 6) hj (by decide))) (fun h1 => next)
set_option maxRecDepth 100000 in
set_option maxHeartbeats 4000000 in
theorem su_q (Q S : cS) (WC : xC → xO → List Value → xA → Prop) (hW : xSys xL_X2_setUp (xlk xfl2) (xlk xcl2) (xCt [(90, t_setUpCell)]) (xRt none (fun vs aw' => vs = [] ∧ aw' = cW Q)) WC) (hQ : Q = S) : WC (xL_X2_setUp.drop 49) [some (.ref 7), some (.ref 1), some (.ref 5), some (.ref 6), some (.int (nI 6)), none] [] (cW S) := by
  refine hW.1 (fun pc => Nat.beq pc 83 || Nat.beq pc 93) 200 49 _ _ _ ?_
  exact And.intro (fun h1 => And.intro rfl (by rw [hQ])) (fun h1 => absurd (Int32.le_refl _) h1)
theorem n_setUp (S : cS) (np : Nat) (hnp : cI S 1 = nI np) (h24 : np ≤ 24) (hok : suOkF S np) : xMet l yX2_setUp cX2_setUp 6 none 4 D ad cy [.ref 7, .ref 1, .ref 5, .ref 6] (cW S) (fun vs aw' => vs = [] ∧ aw' = cW (suR (zrS S 36) np 36)) := by
  refine xmet (Fd := xlk xfl2) (Cn := xlk xcl2) (Cl := xCt [(90, t_setUpCell)]) (by decide) xk_X2_setUp xt_X2_setUp ⟨_, _, rfl, rfl⟩ xpl2 (xEnt_ok (List.forall_mem_cons.mpr ⟨f_setUpCell (by omega), fun q h => by cases h⟩)) (Nat.le_of_ble_eq_true rfl) (fun WC hW => ?_)
  have hz : cI (zrS S 36) 1 = nI np := hnp
  have zer : WC (xL_X2_setUp.drop 49) [some (.ref 7), some (.ref 1), some (.ref 5), some (.ref 6), some (.int (nI 0)), none] [] (cW (zrS S 36)) → ∀ (n c : Nat), c + n = 36 → WC (xL_X2_setUp.drop 2) [some (.ref 7), some (.ref 1), some (.ref 5), some (.ref 6), some (.int (nI c)), none] [] (cW (zrS S c)) := by
    intro next n
    induction n with
    | zero =>
      intro c hc
      have : c = 36 := by omega
      subst this
      exact su_ze _ _ WC hW next
    | succ n ih =>
      intro c hc
      have ih' := ih (c + 1) (by omega)
      have e1 : nI c + nI 1 = nI (c + 1) := nI_add c 1
      rw [← e1] at ih'
      exact su_z _ S WC hW c (by omega) ih'
  have hok2 : ∀ c, c < 36 → suOk (suR (zrS S 36) np c) np (c % 6) (c / 6) := hok
  generalize zrS S 36 = T at hz hok2 zer hW
  have inner : ∀ (j : Nat), j < 6 → WC (xL_X2_setUp.drop 49) [some (.ref 7), some (.ref 1), some (.ref 5), some (.ref 6), some (.int (nI j + nI 1)), none] [] (cW (suR T np (6 * j + 6))) → ∀ (n i : Nat), i + n = 6 → WC (xL_X2_setUp.drop 54) [some (.ref 7), some (.ref 1), some (.ref 5), some (.ref 6), some (.int (nI j)), some (.int (nI i))] [] (cW (suR T np (6 * j + i))) := by
    intro j hj next n
    induction n with
    | zero =>
      intro i hi
      have : i = 6 := by omega
      subst this
      exact su_e _ _ WC hW j next
    | succ n ih =>
      intro i hi
      have ih' := ih (i + 1) (by omega)
      have e1 : nI i + nI 1 = nI (i + 1) := nI_add i 1
      rw [← e1] at ih'
      have es : suR T np (6 * j + (i + 1)) = suF (suR T np (6 * j + i)) np i j := by rw [show 6 * j + (i + 1) = 6 * j + i + 1 by omega, suR, show (6 * j + i) % 6 = i by omega, show (6 * j + i) / 6 = j by omega]
      rw [es] at ih'
      have ok := hok2 (6 * j + i) (by omega)
      rw [show (6 * j + i) % 6 = i by omega, show (6 * j + i) / 6 = j by omega] at ok
      exact su_i _ _ WC hW np (by rw [suR_I]; exact hz) h24 i j (by omega) hj ok ih'
  have outer : ∀ (n j : Nat), j + n = 6 → WC (xL_X2_setUp.drop 49) [some (.ref 7), some (.ref 1), some (.ref 5), some (.ref 6), some (.int (nI j)), none] [] (cW (suR T np (6 * j))) := by
    intro n
    induction n with
    | zero =>
      intro j hj
      have : j = 6 := by omega
      subst this
      exact su_q _ _ WC hW rfl
    | succ n ih =>
      intro j hj
      have ih' := ih (j + 1) (by omega)
      have e1 : nI j + nI 1 = nI (j + 1) := nI_add j 1
      rw [← e1, show 6 * (j + 1) = 6 * j + 6 by omega] at ih'
      exact su_o _ _ WC hW j (by omega) (inner j (by omega) ih' 6 0 (by omega))
  have h9 := zer (outer 6 0 (by omega)) 36 0 (by omega)
  rw [zrS_0] at h9
  refine hW.1 (fun pc => Nat.beq pc 3) 200 0 _ _ _ ?_
  exact h9
def t_setUp (st : List Value) (aw : xA) (k : List Value → xA → Prop) : Prop := match st with
  | .ref 6 :: .ref 5 :: .ref 1 :: .ref 7 :: st => match xsm st with
    | true => ∃ (S : cS) (np : Nat), aw = cW S ∧ cI S 1 = nI np ∧ np ≤ 24 ∧ suOkF S np ∧ k st (cW (suR (zrS S 36) np 36))
    | false => False
  | _ => False
theorem f_setUp {d : Nat} (hd : 5 ≤ d) : xEnt l d D ad cy RX4 304 t_setUp := xEnt_V (y' := yX2_setUp) (cc' := cX2_setUp) (n' := 6) (ret' := none) (d' := 4) (j := 152) 3 (by decide +kernel) (by decide +kernel) (by omega) (fun st aw k h => by
  match st, h with
  | .ref 6 :: .ref 5 :: .ref 1 :: .ref 7 :: st, h =>
    cases hs : xsm st with
    | false => simp only [t_setUp, hs] at h
    | true =>
      simp only [t_setUp, hs] at h
      obtain ⟨S, np, rfl, hnp, h24, hok, h2⟩ := h
      exact ⟨[.ref 1, .ref 5, .ref 6], st, _, 7, 2, _, rfl, rfl, hs, rfl, ⟨_, rfl, rfl⟩, n_setUp S np hnp h24 hok, fun vs aw' h9 => by obtain ⟨rfl, rfl⟩ := h9; exact h2⟩)
end C10
