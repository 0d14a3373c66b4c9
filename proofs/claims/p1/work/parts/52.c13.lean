/-! the class: addToAll, closeFaces, applyPressure, keep -/
section C13
variable {l : Launch} {D : va_G} {ad : Nat → Nat} {cy : Nat → ClassId}
def t_fTake (st : List Value) (aw : xA) (k : List Value → xA → Prop) : Prop := match st with
  | .ref o :: .ref r :: st => match xsm st with
    | true => ∃ S : cS, aw = cW S ∧ ((r = 5 ∧ o = 3 ∧ k st (cW (cD' S 23 (va_cpy (cD S 21) (cD S 23) 0 0 49)))) ∨ (r = 6 ∧ o = 4 ∧ k st (cW (cD' S 24 (va_cpy (cD S 22) (cD S 24) 0 0 49)))) ∨ (r = 9 ∧ o = 5 ∧ k st (cW (cD' S 25 (va_cpy (cD S 23) (cD S 25) 0 0 49)))) ∨ (r = 10 ∧ o = 6 ∧ k st (cW (cD' S 26 (va_cpy (cD S 24) (cD S 26) 0 0 49)))))
    | false => False
  | _ => False
theorem f_fTake4 {d : Nat} (hd : 2 ≤ d) : xEnt l d D ad cy RX4 442 t_fTake := xEnt_V (y' := yX0_takeFrom) (cc' := cX0_takeFrom) (n' := 2) (ret' := none) (d' := 1) (j := 221) 1 (by decide +kernel) (by decide +kernel) (by omega) (fun st aw k h => by
  match st, h with
  | .ref o :: .ref r :: st, h =>
    cases hs : xsm st with
    | false => simp only [t_fTake, hs] at h
    | true =>
      simp only [t_fTake, hs] at h
      obtain ⟨S, rfl, h2⟩ := h
      rcases h2 with ⟨rfl, rfl, h2⟩ | ⟨rfl, rfl, h2⟩ | ⟨rfl, rfl, h2⟩ | ⟨rfl, rfl, h2⟩
      · exact ⟨[.ref 3], st, _, 5, 0, _, rfl, rfl, hs, rfl, ⟨_, rfl, rfl⟩, n_fTake5 S, fun vs aw' h9 => by obtain ⟨rfl, rfl⟩ := h9; exact h2⟩
      · exact ⟨[.ref 4], st, _, 6, 0, _, rfl, rfl, hs, rfl, ⟨_, rfl, rfl⟩, n_fTake6 S, fun vs aw' h9 => by obtain ⟨rfl, rfl⟩ := h9; exact h2⟩
      · exact ⟨[.ref 5], st, _, 9, 0, _, rfl, rfl, hs, rfl, ⟨_, rfl, rfl⟩, n_fTake9 S, fun vs aw' h9 => by obtain ⟨rfl, rfl⟩ := h9; exact h2⟩
      · exact ⟨[.ref 6], st, _, 10, 0, _, rfl, rfl, hs, rfl, ⟨_, rfl, rfl⟩, n_fTake10 S, fun vs aw' h9 => by obtain ⟨rfl, rfl⟩ := h9; exact h2⟩)
theorem f_fTake1 {d : Nat} (hd : 2 ≤ d) : xEnt l d D ad cy RX1 62 t_fTake := xEnt_V (y' := yX0_takeFrom) (cc' := cX0_takeFrom) (n' := 2) (ret' := none) (d' := 1) (j := 31) 1 (by decide +kernel) (by decide +kernel) (by omega) (fun st aw k h => by
  match st, h with
  | .ref o :: .ref r :: st, h =>
    cases hs : xsm st with
    | false => simp only [t_fTake, hs] at h
    | true =>
      simp only [t_fTake, hs] at h
      obtain ⟨S, rfl, h2⟩ := h
      rcases h2 with ⟨rfl, rfl, h2⟩ | ⟨rfl, rfl, h2⟩ | ⟨rfl, rfl, h2⟩ | ⟨rfl, rfl, h2⟩
      · exact ⟨[.ref 3], st, _, 5, 0, _, rfl, rfl, hs, rfl, ⟨_, rfl, rfl⟩, n_fTake5 S, fun vs aw' h9 => by obtain ⟨rfl, rfl⟩ := h9; exact h2⟩
      · exact ⟨[.ref 4], st, _, 6, 0, _, rfl, rfl, hs, rfl, ⟨_, rfl, rfl⟩, n_fTake6 S, fun vs aw' h9 => by obtain ⟨rfl, rfl⟩ := h9; exact h2⟩
      · exact ⟨[.ref 5], st, _, 9, 0, _, rfl, rfl, hs, rfl, ⟨_, rfl, rfl⟩, n_fTake9 S, fun vs aw' h9 => by obtain ⟨rfl, rfl⟩ := h9; exact h2⟩
      · exact ⟨[.ref 6], st, _, 10, 0, _, rfl, rfl, hs, rfl, ⟨_, rfl, rfl⟩, n_fTake10 S, fun vs aw' h9 => by obtain ⟨rfl, rfl⟩ := h9; exact h2⟩)
set_option maxRecDepth 100000 in
set_option maxHeartbeats 4000000 in
theorem n_addToAll (S : cS) (x : UInt64) (hok : ∀ j i, j ≤ 6 → i ≤ 5 → vf_n64 (FP.dadd (cD S 24 (7 * j + i)) x)) : xMet l yX0_addToAll cX0_addToAll 6 none 1 D ad cy [.ref 6, .double x] (cW S) (fun vs aw' => vs = [] ∧ aw' = cW (cD' S 24 (rwF 5 (fun i j => FP.dadd (cD S 24 (7 * j + i)) x) (cD S 24) (7) (0)))) := by
  refine xmet (Fd := xlk xfl0) (Cn := xlk xcl0) (Cl := xCt [(87, t_faceIndex)]) (by decide) xk_X0_addToAll xt_X0_addToAll ⟨_, _, rfl, rfl⟩ xpl0 (xEnt_ok (List.forall_mem_cons.mpr ⟨f_faceIndex0 (by omega), fun q h => by cases h⟩)) (Nat.le_of_ble_eq_true rfl) (fun WC hW => ?_)
  have h9 := loop2 5 6 (fun j i => WC (xL_X0_addToAll.drop 8) [some (.ref 6), some (.double x), none, some (.int (nI j)), some (.int (nI i)), none] [] (cW (cD' S 24 (rwF 5 (fun i j => FP.dadd (cD S 24 (7 * j + i)) x) (cD S 24) (j) (i))))) (fun j => WC (xL_X0_addToAll.drop 2) [some (.ref 6), some (.double x), none, some (.int (nI j)), none, none] [] (cW (cD' S 24 (rwF 5 (fun i j => FP.dadd (cD S 24 (7 * j + i)) x) (cD S 24) (j) (0)))))
    (fun j i hj hi next => by
      rw [rwF_s _ _ hi (by decide), ← nI_add i 1] at next
      have ok := hok j i hj hi
      have eF := rwF_at (fun i j => FP.dadd (cD S 24 (7 * j + i)) x) (cD S 24) (j := j) (i := i) (a := 5) hi (by decide)
      have ei : nI j * nI 7 + nI i = nI (7 * j + i) := by rw [pk_mul, nI_add, Nat.mul_comm]
      generalize rwF 5 (fun i j => FP.dadd (cD S 24 (7 * j + i)) x) (cD S 24) j i = F at next eF ⊢
      rw [← eF] at ok
      refine hW.1 (fun pc => Nat.beq pc 13) 200 8 _ _ _ ?_
      refine And.intro (fun h1 => absurd h1 (nI_nlt hi (by decide))) (fun h1 => ?_)
      refine ⟨7 * j + i, ei, by omega, by decide, ?_⟩
      refine And.intro ok ?_
      refine ⟨7 * j + i, ei, by omega, by decide, ?_⟩
      rw [← eF] at next
      refine hW.2 8 _ _ _ _ ?_ ?_ next
      · exact And.intro rfl (And.intro rfl (And.intro rfl (And.intro rfl (trivial))))
      · rfl)
    (fun j hj next => by
      rw [rwF_n _ _ (by decide)]
      rw [← nI_add j 1] at next
      refine hW.1 (fun pc => Nat.beq pc 2 || Nat.beq pc 13) 200 8 _ _ _ ?_
      refine And.intro (fun h1 => ?_) (fun h1 => absurd (nI_lt (by decide) (by decide)) h1)
      refine hW.2 2 _ _ _ _ ?_ ?_ next
      · exact And.intro rfl (And.intro rfl (And.intro rfl (trivial)))
      · rfl)
    (fun j hj next => by
      refine hW.1 (fun pc => Nat.beq pc 2 || Nat.beq pc 13) 200 2 _ _ _ ?_
      exact And.intro (fun h1 => absurd h1 (nI_nlt hj (by decide))) (fun h1 => next))
    (by
      refine hW.1 (fun pc => Nat.beq pc 2 || Nat.beq pc 13) 200 2 _ _ _ ?_
      exact And.intro (fun h1 => And.intro rfl rfl) (fun h1 => absurd (nI_lt (by decide) (by decide)) h1))
  rw [rwF_00] at h9
  exact hW.1 (fun pc => Nat.beq pc 2) 200 0 _ _ _ h9
def t_addToAll (st : List Value) (aw : xA) (k : List Value → xA → Prop) : Prop := match st with
  | .double x :: .ref 6 :: st => match xsm st with
    | true => ∃ S : cS, aw = cW S ∧ (∀ j i, j ≤ 6 → i ≤ 5 → vf_n64 (FP.dadd (cD S 24 (7 * j + i)) x)) ∧ k st (cW (cD' S 24 (rwF 5 (fun i j => FP.dadd (cD S 24 (7 * j + i)) x) (cD S 24) 7 0)))
    | false => False
  | _ => False
theorem f_addToAll {d : Nat} (hd : 2 ≤ d) : xEnt l d D ad cy RX4 448 t_addToAll := xEnt_V (y' := yX0_addToAll) (cc' := cX0_addToAll) (n' := 6) (ret' := none) (d' := 1) (j := 224) 1 (by decide +kernel) (by decide +kernel) (by omega) (fun st aw k h => by
  match st, h with
  | .double x :: .ref 6 :: st, h =>
    cases hs : xsm st with
    | false => simp only [t_addToAll, hs] at h
    | true =>
      simp only [t_addToAll, hs] at h
      obtain ⟨S, rfl, hok, h2⟩ := h
      exact ⟨[.double x], st, _, 6, 0, _, rfl, rfl, hs, rfl, ⟨_, rfl, rfl⟩, n_addToAll S x hok, fun vs aw' h9 => by obtain ⟨rfl, rfl⟩ := h9; exact h2⟩)
def clG (S : cS) (q : Nat) (bi bj : Int32) (i j : Nat) : UInt64 := if icB (cA S 11) bi bj (nI i) (nI j) then FP.dconst0 else cD S q (7 * j + i)
set_option maxRecDepth 100000 in
set_option maxHeartbeats 4000000 in
theorem n_closeFaces5 (S : cS) : xMet l yX0_closeFaces cX0_closeFaces 4 none 3 D ad cy [.ref 5, .ref 1] (cW S) (fun vs aw' => vs = [] ∧ aw' = cW (cD' S 23 (rwF 6 (clG S 23 (nI 1) (nI 0)) (cD S 23) (6) (0)))) := by
  refine xmet (Fd := xlk xfl0) (Cn := xlk xcl0) (Cl := xCt [(138, t_isClosed), (87, t_faceIndex)]) (by decide) xk_X0_closeFaces xt_X0_closeFaces ⟨_, _, rfl, rfl⟩ xpl0 (xEnt_ok (List.forall_mem_cons.mpr ⟨f_isClosed (by omega), List.forall_mem_cons.mpr ⟨f_faceIndex0 (by omega), fun q h => by cases h⟩⟩)) (Nat.le_of_ble_eq_true rfl) (fun WC hW => ?_)
  have h9 := loop2 6 5 (fun j i => WC (xL_X0_closeFaces.drop 8) [some (.ref 5), some (.ref 1), some (.int (nI j)), some (.int (nI i))] [] (cW (cD' S 23 (rwF 6 (clG S 23 (nI 1) (nI 0)) (cD S 23) (j) (i))))) (fun j => WC (xL_X0_closeFaces.drop 2) [some (.ref 5), some (.ref 1), some (.int (nI j)), none] [] (cW (cD' S 23 (rwF 6 (clG S 23 (nI 1) (nI 0)) (cD S 23) (j) (0)))))
    (fun j i hj hi next => by
      rw [← nI_add i 1] at next
      have ei : nI j * nI 7 + nI i = nI (7 * j + i) := by rw [pk_mul, nI_add, Nat.mul_comm]
      have e1 := rwF_s (clG S 23 (nI 1) (nI 0)) (cD S 23) (j := j) (i := i) (a := 6) hi (by decide)
      have e2 := fun h => rwF_k (clG S 23 (nI 1) (nI 0)) (cD S 23) (j := j) (i := i) (a := 6) hi (by decide) h
      generalize rwF 6 (clG S 23 (nI 1) (nI 0)) (cD S 23) j (i + 1) = F2 at next e1 e2
      generalize rwF 6 (clG S 23 (nI 1) (nI 0)) (cD S 23) j i = F at e1 e2 ⊢
      refine hW.1 (fun pc => Nat.beq pc 12) 200 8 _ _ _ ?_
      refine And.intro (fun h1 => absurd h1 (nI_nlt hi (by decide))) (fun h1 => ?_)
      refine ⟨cD' S 23 F, true, rfl, rfl, ?_⟩
      refine And.intro (fun h2 => ?_) (fun h2 => ?_)
      · have h2 := xb_eq h2
        have h2 : icB (cA S 11) (nI 1) (nI 0) (nI i) (nI j) = false := h2
        have hG : (clG S 23 (nI 1) (nI 0)) i j = cD S 23 (7 * j + i) := by unfold clG; rw [h2]; rfl
        rw [e2 hG] at next
        exact next
      · have h2 := xb_ne h2
        have h2 : icB (cA S 11) (nI 1) (nI 0) (nI i) (nI j) = true := h2
        have hG : (clG S 23 (nI 1) (nI 0)) i j = FP.dconst0 := by unfold clG; rw [h2]; rfl
        refine ⟨7 * j + i, ei, by omega, by decide, ?_⟩
        rw [e1, hG] at next
        exact next)
    (fun j hj next => by
      rw [rwF_n _ _ (by decide)]
      rw [← nI_add j 1] at next
      refine hW.1 (fun pc => Nat.beq pc 2 || Nat.beq pc 12) 200 8 _ _ _ ?_
      refine And.intro (fun h1 => ?_) (fun h1 => absurd (nI_lt (by decide) (by decide)) h1)
      refine hW.2 2 _ _ _ _ ?_ ?_ next
      · exact And.intro rfl (And.intro rfl (And.intro rfl (trivial)))
      · rfl)
    (fun j hj next => by
      refine hW.1 (fun pc => Nat.beq pc 2 || Nat.beq pc 12) 200 2 _ _ _ ?_
      exact And.intro (fun h1 => absurd h1 (nI_nlt hj (by decide))) (fun h1 => next))
    (by
      refine hW.1 (fun pc => Nat.beq pc 2 || Nat.beq pc 12) 200 2 _ _ _ ?_
      exact And.intro (fun h1 => And.intro rfl rfl) (fun h1 => absurd (nI_lt (by decide) (by decide)) h1))
  rw [rwF_00] at h9
  exact hW.1 (fun pc => Nat.beq pc 2) 200 0 _ _ _ h9
set_option maxRecDepth 100000 in
set_option maxHeartbeats 4000000 in
theorem n_closeFaces6 (S : cS) : xMet l yX0_closeFaces cX0_closeFaces 4 none 3 D ad cy [.ref 6, .ref 1] (cW S) (fun vs aw' => vs = [] ∧ aw' = cW (cD' S 24 (rwF 5 (clG S 24 (nI 0) (nI 1)) (cD S 24) (7) (0)))) := by
  refine xmet (Fd := xlk xfl0) (Cn := xlk xcl0) (Cl := xCt [(138, t_isClosed), (87, t_faceIndex)]) (by decide) xk_X0_closeFaces xt_X0_closeFaces ⟨_, _, rfl, rfl⟩ xpl0 (xEnt_ok (List.forall_mem_cons.mpr ⟨f_isClosed (by omega), List.forall_mem_cons.mpr ⟨f_faceIndex0 (by omega), fun q h => by cases h⟩⟩)) (Nat.le_of_ble_eq_true rfl) (fun WC hW => ?_)
  have h9 := loop2 5 6 (fun j i => WC (xL_X0_closeFaces.drop 8) [some (.ref 6), some (.ref 1), some (.int (nI j)), some (.int (nI i))] [] (cW (cD' S 24 (rwF 5 (clG S 24 (nI 0) (nI 1)) (cD S 24) (j) (i))))) (fun j => WC (xL_X0_closeFaces.drop 2) [some (.ref 6), some (.ref 1), some (.int (nI j)), none] [] (cW (cD' S 24 (rwF 5 (clG S 24 (nI 0) (nI 1)) (cD S 24) (j) (0)))))
    (fun j i hj hi next => by
      rw [← nI_add i 1] at next
      have ei : nI j * nI 7 + nI i = nI (7 * j + i) := by rw [pk_mul, nI_add, Nat.mul_comm]
      have e1 := rwF_s (clG S 24 (nI 0) (nI 1)) (cD S 24) (j := j) (i := i) (a := 5) hi (by decide)
      have e2 := fun h => rwF_k (clG S 24 (nI 0) (nI 1)) (cD S 24) (j := j) (i := i) (a := 5) hi (by decide) h
      generalize rwF 5 (clG S 24 (nI 0) (nI 1)) (cD S 24) j (i + 1) = F2 at next e1 e2
      generalize rwF 5 (clG S 24 (nI 0) (nI 1)) (cD S 24) j i = F at e1 e2 ⊢
      refine hW.1 (fun pc => Nat.beq pc 12) 200 8 _ _ _ ?_
      refine And.intro (fun h1 => absurd h1 (nI_nlt hi (by decide))) (fun h1 => ?_)
      refine ⟨cD' S 24 F, false, rfl, rfl, ?_⟩
      refine And.intro (fun h2 => ?_) (fun h2 => ?_)
      · have h2 := xb_eq h2
        have h2 : icB (cA S 11) (nI 0) (nI 1) (nI i) (nI j) = false := h2
        have hG : (clG S 24 (nI 0) (nI 1)) i j = cD S 24 (7 * j + i) := by unfold clG; rw [h2]; rfl
        rw [e2 hG] at next
        exact next
      · have h2 := xb_ne h2
        have h2 : icB (cA S 11) (nI 0) (nI 1) (nI i) (nI j) = true := h2
        have hG : (clG S 24 (nI 0) (nI 1)) i j = FP.dconst0 := by unfold clG; rw [h2]; rfl
        refine ⟨7 * j + i, ei, by omega, by decide, ?_⟩
        rw [e1, hG] at next
        exact next)
    (fun j hj next => by
      rw [rwF_n _ _ (by decide)]
      rw [← nI_add j 1] at next
      refine hW.1 (fun pc => Nat.beq pc 2 || Nat.beq pc 12) 200 8 _ _ _ ?_
      refine And.intro (fun h1 => ?_) (fun h1 => absurd (nI_lt (by decide) (by decide)) h1)
      refine hW.2 2 _ _ _ _ ?_ ?_ next
      · exact And.intro rfl (And.intro rfl (And.intro rfl (trivial)))
      · rfl)
    (fun j hj next => by
      refine hW.1 (fun pc => Nat.beq pc 2 || Nat.beq pc 12) 200 2 _ _ _ ?_
      exact And.intro (fun h1 => absurd h1 (nI_nlt hj (by decide))) (fun h1 => next))
    (by
      refine hW.1 (fun pc => Nat.beq pc 2 || Nat.beq pc 12) 200 2 _ _ _ ?_
      exact And.intro (fun h1 => And.intro rfl rfl) (fun h1 => absurd (nI_lt (by decide) (by decide)) h1))
  rw [rwF_00] at h9
  exact hW.1 (fun pc => Nat.beq pc 2) 200 0 _ _ _ h9
def t_closeFaces (st : List Value) (aw : xA) (k : List Value → xA → Prop) : Prop := match st with
  | .ref 1 :: .ref r :: st => match xsm st with
    | true => ∃ S : cS, aw = cW S ∧ ((r = 5 ∧ k st (cW (cD' S 23 (rwF 6 (clG S 23 (nI 1) (nI 0)) (cD S 23) 6 0)))) ∨ (r = 6 ∧ k st (cW (cD' S 24 (rwF 5 (clG S 24 (nI 0) (nI 1)) (cD S 24) 7 0)))))
    | false => False
  | _ => False
theorem f_closeFaces {d : Nat} (hd : 4 ≤ d) : xEnt l d D ad cy RX4 454 t_closeFaces := xEnt_V (y' := yX0_closeFaces) (cc' := cX0_closeFaces) (n' := 4) (ret' := none) (d' := 3) (j := 227) 1 (by decide +kernel) (by decide +kernel) (by omega) (fun st aw k h => by
  match st, h with
  | .ref 1 :: .ref r :: st, h =>
    cases hs : xsm st with
    | false => simp only [t_closeFaces, hs] at h
    | true =>
      simp only [t_closeFaces, hs] at h
      obtain ⟨S, rfl, h2⟩ := h
      rcases h2 with ⟨rfl, h2⟩ | ⟨rfl, h2⟩
      · exact ⟨[.ref 1], st, _, 5, 0, _, rfl, rfl, hs, rfl, ⟨_, rfl, rfl⟩, n_closeFaces5 S, fun vs aw' h9 => by obtain ⟨rfl, rfl⟩ := h9; exact h2⟩
      · exact ⟨[.ref 1], st, _, 6, 0, _, rfl, rfl, hs, rfl, ⟨_, rfl, rfl⟩, n_closeFaces6 S, fun vs aw' h9 => by obtain ⟨rfl, rfl⟩ := h9; exact h2⟩)
/-- the pressure's step at a face -/
def apW (tk sol : Nat → Int32) (bi bj x y : Int32) : Bool := (ptB tk x y || ptB tk (x - bi) (y - bj)) && !icB sol bi bj x y
def apD (p : Nat → UInt64) (bi bj x y : Int32) : UInt64 := FP.dsub (pAt p x y) (pAt p (x - bi) (y - bj))
def apG (S : cS) (q : Nat) (bi bj : Int32) (i j : Nat) : UInt64 := if apW (cA S 27) (cA S 11) bi bj (nI i) (nI j) then FP.dsub (cD S q (7 * j + i)) (apD (cD S 30) bi bj (nI i) (nI j)) else cD S q (7 * j + i)
def apOk (S : cS) (q : Nat) (bi bj : Int32) (i j : Nat) : Prop := apW (cA S 27) (cA S 11) bi bj (nI i) (nI j) = true → vf_n64 (apD (cD S 30) bi bj (nI i) (nI j)) ∧ vf_n64 (apG S q bi bj i j)
set_option maxRecDepth 100000 in
set_option maxHeartbeats 4000000 in
theorem ap5_c (Q V : cS) (WC : xC → xO → List Value → xA → Prop) (hW : xSys xL_X0_applyPressure (xlk xfl0) (xlk xcl0) (xCt [(154, t_isPart), (138, t_isClosed), (164, t_pressureAt), (87, t_faceIndex)]) (xRt none (fun vs aw' => vs = [] ∧ aw' = cW Q)) WC) (i j : Nat) (hi : i ≤ 6) (hj : j ≤ 5) (w : Bool) (y : UInt64) (hy : y = cD V 23 (7 * j + i)) (ok : (w && !icB (cA V 11) (nI 1) (nI 0) (nI i) (nI j)) = true → vf_n64 (apD (cD V 30) (nI 1) (nI 0) (nI i) (nI j)) ∧ vf_n64 (FP.dsub y (apD (cD V 30) (nI 1) (nI 0) (nI i) (nI j)))) (no : (w && !icB (cA V 11) (nI 1) (nI 0) (nI i) (nI j)) = false → WC (xL_X0_applyPressure.drop 8) [some (.ref 5), some (.ref 1), some (.ref 7), some (.int (nI j)), some (.int (nI i + nI 1)), none, none, none, none] [] (cW V)) (yes : (w && !icB (cA V 11) (nI 1) (nI 0) (nI i) (nI j)) = true → WC (xL_X0_applyPressure.drop 8) [some (.ref 5), some (.ref 1), some (.ref 7), some (.int (nI j)), some (.int (nI i + nI 1)), none, none, none, none] [] (cW (cD' V 23 (vf_upd (cD V 23) (7 * j + i) (FP.dsub y (apD (cD V 30) (nI 1) (nI 0) (nI i) (nI j))))))) : WC (xL_X0_applyPressure.drop 31) [some (.ref 5), some (.ref 1), some (.ref 7), some (.int (nI j)), some (.int (nI i)), none, none, none, none] [.int (xb w)] (cW V) := by
  have ei : nI j * nI 7 + nI i = nI (7 * j + i) := by rw [pk_mul, nI_add, Nat.mul_comm]
  refine hW.1 (fun pc => Nat.beq pc 13) 200 31 _ _ _ ?_
  refine And.intro (fun h1 => ?_) (fun h1 => ?_)
  · have h1 := xb_eq h1
    refine hW.2 8 _ _ _ _ ?_ ?_ (no (by rw [h1]; rfl))
    · exact And.intro rfl (And.intro rfl (And.intro rfl (And.intro rfl (And.intro rfl (trivial)))))
    · rfl
  have h1 := xb_ne h1
  subst h1
  refine ⟨V, true, rfl, rfl, ?_⟩
  refine And.intro (fun h2 => ?_) (fun h2 => ?_)
  · have h2 := xb_ne h2
    have h2 : icB (cA V 11) (nI 1) (nI 0) (nI i) (nI j) = true := h2
    refine hW.2 8 _ _ _ _ ?_ ?_ (no (by rw [h2]; rfl))
    · exact And.intro rfl (And.intro rfl (And.intro rfl (And.intro rfl (And.intro rfl (trivial)))))
    · rfl
  have h2 := xb_eq h2
  have h2 : icB (cA V 11) (nI 1) (nI 0) (nI i) (nI j) = false := h2
  obtain ⟨k1, k2⟩ := ok (by rw [h2]; rfl)
  have nx := yes (by rw [h2]; rfl)
  refine ⟨V, rfl, ?_⟩
  refine ⟨7 * j + i, ei, by omega, by decide, ?_⟩
  refine ⟨V, rfl, ?_⟩
  refine And.intro k1 ?_
  rw [hy] at k2 nx
  refine And.intro k2 ?_
  refine ⟨7 * j + i, ei, by omega, by decide, ?_⟩
  refine hW.2 8 _ _ _ _ ?_ ?_ nx
  · exact And.intro rfl (And.intro rfl (And.intro rfl (And.intro rfl (And.intro rfl (trivial)))))
  · rfl
set_option maxRecDepth 100000 in
set_option maxHeartbeats 4000000 in
theorem ap5_b (Q V : cS) (WC : xC → xO → List Value → xA → Prop) (hW : xSys xL_X0_applyPressure (xlk xfl0) (xlk xcl0) (xCt [(154, t_isPart), (138, t_isClosed), (164, t_pressureAt), (87, t_faceIndex)]) (xRt none (fun vs aw' => vs = [] ∧ aw' = cW Q)) WC) (i j : Nat) (hi : i ≤ 6) (next : WC (xL_X0_applyPressure.drop 31) [some (.ref 5), some (.ref 1), some (.ref 7), some (.int (nI j)), some (.int (nI i)), none, none, none, none] [.int (xb (ptB (cA V 27) (nI i) (nI j) || ptB (cA V 27) (nI i - nI 1) (nI j - nI 0)))] (cW V)) : WC (xL_X0_applyPressure.drop 8) [some (.ref 5), some (.ref 1), some (.ref 7), some (.int (nI j)), some (.int (nI i)), none, none, none, none] [] (cW V) := by
  refine hW.1 (fun pc => Nat.beq pc 57) 200 8 _ _ _ ?_
  refine And.intro (fun h1 => absurd h1 (nI_nlt hi (by decide))) (fun h1 => ?_)
  refine ⟨V, rfl, ?_⟩
  refine And.intro (fun h2 => ?_) (fun h2 => ?_)
  · rw [xb_ne h2] at next
    exact next
  rw [xb_eq h2] at next
  refine ⟨V, rfl, ?_⟩
  refine And.intro (fun h3 => ?_) (fun h3 => ?_)
  · have h3 : ptB (cA V 27) (nI i - nI 1) (nI j - nI 0) = false := xb_eq h3
    rw [h3] at next
    exact next
  · have h3 : ptB (cA V 27) (nI i - nI 1) (nI j - nI 0) = true := xb_ne h3
    rw [h3] at next
    exact next
theorem n_apply5 (S : cS) (hok : ∀ j i, j ≤ 5 → i ≤ 6 → apOk S 23 (nI 1) (nI 0) i j) : xMet l yX0_applyPressure cX0_applyPressure 9 none 3 D ad cy [.ref 5, .ref 1, .ref 7] (cW S) (fun vs aw' => vs = [] ∧ aw' = cW (cD' S 23 (rwF 6 (apG S 23 (nI 1) (nI 0)) (cD S 23) (6) (0)))) := by
  refine xmet (Fd := xlk xfl0) (Cn := xlk xcl0) (Cl := xCt [(154, t_isPart), (138, t_isClosed), (164, t_pressureAt), (87, t_faceIndex)]) (by decide) xk_X0_applyPressure xt_X0_applyPressure ⟨_, _, rfl, rfl⟩ xpl0 (xEnt_ok (List.forall_mem_cons.mpr ⟨f_isPart0 (by omega), List.forall_mem_cons.mpr ⟨f_isClosed (by omega), List.forall_mem_cons.mpr ⟨f_pressureAt0 (by omega), List.forall_mem_cons.mpr ⟨f_faceIndex0 (by omega), fun q h => by cases h⟩⟩⟩⟩)) (Nat.le_of_ble_eq_true rfl) (fun WC hW => ?_)
  have h9 := loop2 6 5 (fun j i => WC (xL_X0_applyPressure.drop 8) [some (.ref 5), some (.ref 1), some (.ref 7), some (.int (nI j)), some (.int (nI i)), none, none, none, none] [] (cW (cD' S 23 (rwF 6 (apG S 23 (nI 1) (nI 0)) (cD S 23) (j) (i))))) (fun j => WC (xL_X0_applyPressure.drop 2) [some (.ref 5), some (.ref 1), some (.ref 7), some (.int (nI j)), none, none, none, none, none] [] (cW (cD' S 23 (rwF 6 (apG S 23 (nI 1) (nI 0)) (cD S 23) (j) (0)))))
    (fun j i hj hi next => by
      rw [← nI_add i 1] at next
      have ok := hok j i hj hi
      have eF := rwF_at (apG S 23 (nI 1) (nI 0)) (cD S 23) (j := j) (i := i) (a := 6) hi (by decide)
      have e1 := rwF_s (apG S 23 (nI 1) (nI 0)) (cD S 23) (j := j) (i := i) (a := 6) hi (by decide)
      have e2 := fun h => rwF_k (apG S 23 (nI 1) (nI 0)) (cD S 23) (j := j) (i := i) (a := 6) hi (by decide) h
      unfold apOk at ok
      generalize rwF 6 (apG S 23 (nI 1) (nI 0)) (cD S 23) j (i + 1) = F2 at next e1 e2
      generalize rwF 6 (apG S 23 (nI 1) (nI 0)) (cD S 23) j i = F at e1 e2 eF ⊢
      refine ap5_b _ (cD' S 23 F) WC hW i j hi ?_
      refine ap5_c _ (cD' S 23 F) WC hW i j hi hj _ (cD S 23 (7 * j + i)) eF.symm (fun h => ?_) (fun h => ?_) (fun h => ?_)
      · have h : apW (cA S 27) (cA S 11) (nI 1) (nI 0) (nI i) (nI j) = true := h
        obtain ⟨k1, k2⟩ := ok h
        refine ⟨k1, ?_⟩
        unfold apG at k2
        rw [if_pos h] at k2
        exact k2
      · have h : apW (cA S 27) (cA S 11) (nI 1) (nI 0) (nI i) (nI j) = false := h
        have hG : (apG S 23 (nI 1) (nI 0)) i j = cD S 23 (7 * j + i) := by unfold apG; rw [h]; rfl
        rw [e2 hG] at next
        exact next
      · have h : apW (cA S 27) (cA S 11) (nI 1) (nI 0) (nI i) (nI j) = true := h
        have hG : (apG S 23 (nI 1) (nI 0)) i j = FP.dsub (cD S 23 (7 * j + i)) (apD (cD S 30) (nI 1) (nI 0) (nI i) (nI j)) := by unfold apG; rw [if_pos h]
        rw [e1, hG] at next
        exact next)
    (fun j hj next => by
      rw [rwF_n _ _ (by decide)]
      rw [← nI_add j 1] at next
      refine hW.1 (fun pc => Nat.beq pc 2 || Nat.beq pc 13) 200 8 _ _ _ ?_
      refine And.intro (fun h1 => ?_) (fun h1 => absurd (nI_lt (by decide) (by decide)) h1)
      refine hW.2 2 _ _ _ _ ?_ ?_ next
      · exact And.intro rfl (And.intro rfl (And.intro rfl (And.intro rfl (trivial))))
      · rfl)
    (fun j hj next => by
      refine hW.1 (fun pc => Nat.beq pc 2 || Nat.beq pc 13) 200 2 _ _ _ ?_
      exact And.intro (fun h1 => absurd h1 (nI_nlt hj (by decide))) (fun h1 => next))
    (by
      refine hW.1 (fun pc => Nat.beq pc 2 || Nat.beq pc 13) 200 2 _ _ _ ?_
      exact And.intro (fun h1 => And.intro rfl rfl) (fun h1 => absurd (nI_lt (by decide) (by decide)) h1))
  rw [rwF_00] at h9
  exact hW.1 (fun pc => Nat.beq pc 2) 200 0 _ _ _ h9
set_option maxRecDepth 100000 in
set_option maxHeartbeats 4000000 in
theorem ap6_c (Q V : cS) (WC : xC → xO → List Value → xA → Prop) (hW : xSys xL_X0_applyPressure (xlk xfl0) (xlk xcl0) (xCt [(154, t_isPart), (138, t_isClosed), (164, t_pressureAt), (87, t_faceIndex)]) (xRt none (fun vs aw' => vs = [] ∧ aw' = cW Q)) WC) (i j : Nat) (hi : i ≤ 5) (hj : j ≤ 6) (w : Bool) (y : UInt64) (hy : y = cD V 24 (7 * j + i)) (ok : (w && !icB (cA V 11) (nI 0) (nI 1) (nI i) (nI j)) = true → vf_n64 (apD (cD V 30) (nI 0) (nI 1) (nI i) (nI j)) ∧ vf_n64 (FP.dsub y (apD (cD V 30) (nI 0) (nI 1) (nI i) (nI j)))) (no : (w && !icB (cA V 11) (nI 0) (nI 1) (nI i) (nI j)) = false → WC (xL_X0_applyPressure.drop 8) [some (.ref 6), some (.ref 1), some (.ref 7), some (.int (nI j)), some (.int (nI i + nI 1)), none, none, none, none] [] (cW V)) (yes : (w && !icB (cA V 11) (nI 0) (nI 1) (nI i) (nI j)) = true → WC (xL_X0_applyPressure.drop 8) [some (.ref 6), some (.ref 1), some (.ref 7), some (.int (nI j)), some (.int (nI i + nI 1)), none, none, none, none] [] (cW (cD' V 24 (vf_upd (cD V 24) (7 * j + i) (FP.dsub y (apD (cD V 30) (nI 0) (nI 1) (nI i) (nI j))))))) : WC (xL_X0_applyPressure.drop 31) [some (.ref 6), some (.ref 1), some (.ref 7), some (.int (nI j)), some (.int (nI i)), none, none, none, none] [.int (xb w)] (cW V) := by
  have ei : nI j * nI 7 + nI i = nI (7 * j + i) := by rw [pk_mul, nI_add, Nat.mul_comm]
  refine hW.1 (fun pc => Nat.beq pc 13) 200 31 _ _ _ ?_
  refine And.intro (fun h1 => ?_) (fun h1 => ?_)
  · have h1 := xb_eq h1
    refine hW.2 8 _ _ _ _ ?_ ?_ (no (by rw [h1]; rfl))
    · exact And.intro rfl (And.intro rfl (And.intro rfl (And.intro rfl (And.intro rfl (trivial)))))
    · rfl
  have h1 := xb_ne h1
  subst h1
  refine ⟨V, false, rfl, rfl, ?_⟩
  refine And.intro (fun h2 => ?_) (fun h2 => ?_)
  · have h2 := xb_ne h2
    have h2 : icB (cA V 11) (nI 0) (nI 1) (nI i) (nI j) = true := h2
    refine hW.2 8 _ _ _ _ ?_ ?_ (no (by rw [h2]; rfl))
    · exact And.intro rfl (And.intro rfl (And.intro rfl (And.intro rfl (And.intro rfl (trivial)))))
    · rfl
  have h2 := xb_eq h2
  have h2 : icB (cA V 11) (nI 0) (nI 1) (nI i) (nI j) = false := h2
  obtain ⟨k1, k2⟩ := ok (by rw [h2]; rfl)
  have nx := yes (by rw [h2]; rfl)
  refine ⟨V, rfl, ?_⟩
  refine ⟨7 * j + i, ei, by omega, by decide, ?_⟩
  refine ⟨V, rfl, ?_⟩
  refine And.intro k1 ?_
  rw [hy] at k2 nx
  refine And.intro k2 ?_
  refine ⟨7 * j + i, ei, by omega, by decide, ?_⟩
  refine hW.2 8 _ _ _ _ ?_ ?_ nx
  · exact And.intro rfl (And.intro rfl (And.intro rfl (And.intro rfl (And.intro rfl (trivial)))))
  · rfl
set_option maxRecDepth 100000 in
set_option maxHeartbeats 4000000 in
theorem ap6_b (Q V : cS) (WC : xC → xO → List Value → xA → Prop) (hW : xSys xL_X0_applyPressure (xlk xfl0) (xlk xcl0) (xCt [(154, t_isPart), (138, t_isClosed), (164, t_pressureAt), (87, t_faceIndex)]) (xRt none (fun vs aw' => vs = [] ∧ aw' = cW Q)) WC) (i j : Nat) (hi : i ≤ 5) (next : WC (xL_X0_applyPressure.drop 31) [some (.ref 6), some (.ref 1), some (.ref 7), some (.int (nI j)), some (.int (nI i)), none, none, none, none] [.int (xb (ptB (cA V 27) (nI i) (nI j) || ptB (cA V 27) (nI i - nI 0) (nI j - nI 1)))] (cW V)) : WC (xL_X0_applyPressure.drop 8) [some (.ref 6), some (.ref 1), some (.ref 7), some (.int (nI j)), some (.int (nI i)), none, none, none, none] [] (cW V) := by
  refine hW.1 (fun pc => Nat.beq pc 57) 200 8 _ _ _ ?_
  refine And.intro (fun h1 => absurd h1 (nI_nlt hi (by decide))) (fun h1 => ?_)
  refine ⟨V, rfl, ?_⟩
  refine And.intro (fun h2 => ?_) (fun h2 => ?_)
  · rw [xb_ne h2] at next
    exact next
  rw [xb_eq h2] at next
  refine ⟨V, rfl, ?_⟩
  refine And.intro (fun h3 => ?_) (fun h3 => ?_)
  · have h3 : ptB (cA V 27) (nI i - nI 0) (nI j - nI 1) = false := xb_eq h3
    rw [h3] at next
    exact next
  · have h3 : ptB (cA V 27) (nI i - nI 0) (nI j - nI 1) = true := xb_ne h3
    rw [h3] at next
    exact next
theorem n_apply6 (S : cS) (hok : ∀ j i, j ≤ 6 → i ≤ 5 → apOk S 24 (nI 0) (nI 1) i j) : xMet l yX0_applyPressure cX0_applyPressure 9 none 3 D ad cy [.ref 6, .ref 1, .ref 7] (cW S) (fun vs aw' => vs = [] ∧ aw' = cW (cD' S 24 (rwF 5 (apG S 24 (nI 0) (nI 1)) (cD S 24) (7) (0)))) := by
  refine xmet (Fd := xlk xfl0) (Cn := xlk xcl0) (Cl := xCt [(154, t_isPart), (138, t_isClosed), (164, t_pressureAt), (87, t_faceIndex)]) (by decide) xk_X0_applyPressure xt_X0_applyPressure ⟨_, _, rfl, rfl⟩ xpl0 (xEnt_ok (List.forall_mem_cons.mpr ⟨f_isPart0 (by omega), List.forall_mem_cons.mpr ⟨f_isClosed (by omega), List.forall_mem_cons.mpr ⟨f_pressureAt0 (by omega), List.forall_mem_cons.mpr ⟨f_faceIndex0 (by omega), fun q h => by cases h⟩⟩⟩⟩)) (Nat.le_of_ble_eq_true rfl) (fun WC hW => ?_)
  have h9 := loop2 5 6 (fun j i => WC (xL_X0_applyPressure.drop 8) [some (.ref 6), some (.ref 1), some (.ref 7), some (.int (nI j)), some (.int (nI i)), none, none, none, none] [] (cW (cD' S 24 (rwF 5 (apG S 24 (nI 0) (nI 1)) (cD S 24) (j) (i))))) (fun j => WC (xL_X0_applyPressure.drop 2) [some (.ref 6), some (.ref 1), some (.ref 7), some (.int (nI j)), none, none, none, none, none] [] (cW (cD' S 24 (rwF 5 (apG S 24 (nI 0) (nI 1)) (cD S 24) (j) (0)))))
    (fun j i hj hi next => by
      rw [← nI_add i 1] at next
      have ok := hok j i hj hi
      have eF := rwF_at (apG S 24 (nI 0) (nI 1)) (cD S 24) (j := j) (i := i) (a := 5) hi (by decide)
      have e1 := rwF_s (apG S 24 (nI 0) (nI 1)) (cD S 24) (j := j) (i := i) (a := 5) hi (by decide)
      have e2 := fun h => rwF_k (apG S 24 (nI 0) (nI 1)) (cD S 24) (j := j) (i := i) (a := 5) hi (by decide) h
      unfold apOk at ok
      generalize rwF 5 (apG S 24 (nI 0) (nI 1)) (cD S 24) j (i + 1) = F2 at next e1 e2
      generalize rwF 5 (apG S 24 (nI 0) (nI 1)) (cD S 24) j i = F at e1 e2 eF ⊢
      refine ap6_b _ (cD' S 24 F) WC hW i j hi ?_
      refine ap6_c _ (cD' S 24 F) WC hW i j hi hj _ (cD S 24 (7 * j + i)) eF.symm (fun h => ?_) (fun h => ?_) (fun h => ?_)
      · have h : apW (cA S 27) (cA S 11) (nI 0) (nI 1) (nI i) (nI j) = true := h
        obtain ⟨k1, k2⟩ := ok h
        refine ⟨k1, ?_⟩
        unfold apG at k2
        rw [if_pos h] at k2
        exact k2
      · have h : apW (cA S 27) (cA S 11) (nI 0) (nI 1) (nI i) (nI j) = false := h
        have hG : (apG S 24 (nI 0) (nI 1)) i j = cD S 24 (7 * j + i) := by unfold apG; rw [h]; rfl
        rw [e2 hG] at next
        exact next
      · have h : apW (cA S 27) (cA S 11) (nI 0) (nI 1) (nI i) (nI j) = true := h
        have hG : (apG S 24 (nI 0) (nI 1)) i j = FP.dsub (cD S 24 (7 * j + i)) (apD (cD S 30) (nI 0) (nI 1) (nI i) (nI j)) := by unfold apG; rw [if_pos h]
        rw [e1, hG] at next
        exact next)
    (fun j hj next => by
      rw [rwF_n _ _ (by decide)]
      rw [← nI_add j 1] at next
      refine hW.1 (fun pc => Nat.beq pc 2 || Nat.beq pc 13) 200 8 _ _ _ ?_
      refine And.intro (fun h1 => ?_) (fun h1 => absurd (nI_lt (by decide) (by decide)) h1)
      refine hW.2 2 _ _ _ _ ?_ ?_ next
      · exact And.intro rfl (And.intro rfl (And.intro rfl (And.intro rfl (trivial))))
      · rfl)
    (fun j hj next => by
      refine hW.1 (fun pc => Nat.beq pc 2 || Nat.beq pc 13) 200 2 _ _ _ ?_
      exact And.intro (fun h1 => absurd h1 (nI_nlt hj (by decide))) (fun h1 => next))
    (by
      refine hW.1 (fun pc => Nat.beq pc 2 || Nat.beq pc 13) 200 2 _ _ _ ?_
      exact And.intro (fun h1 => And.intro rfl rfl) (fun h1 => absurd (nI_lt (by decide) (by decide)) h1))
  rw [rwF_00] at h9
  exact hW.1 (fun pc => Nat.beq pc 2) 200 0 _ _ _ h9
def t_apply (st : List Value) (aw : xA) (k : List Value → xA → Prop) : Prop := match st with
  | .ref 7 :: .ref 1 :: .ref r :: st => match xsm st with
    | true => ∃ S : cS, aw = cW S ∧ ((r = 5 ∧ (∀ j i, j ≤ 5 → i ≤ 6 → apOk S 23 (nI 1) (nI 0) i j) ∧ k st (cW (cD' S 23 (rwF 6 (apG S 23 (nI 1) (nI 0)) (cD S 23) 6 0)))) ∨ (r = 6 ∧ (∀ j i, j ≤ 6 → i ≤ 5 → apOk S 24 (nI 0) (nI 1) i j) ∧ k st (cW (cD' S 24 (rwF 5 (apG S 24 (nI 0) (nI 1)) (cD S 24) 7 0)))))
    | false => False
  | _ => False
theorem f_apply {d : Nat} (hd : 4 ≤ d) : xEnt l d D ad cy RX4 324 t_apply := xEnt_V (y' := yX0_applyPressure) (cc' := cX0_applyPressure) (n' := 9) (ret' := none) (d' := 3) (j := 162) 2 (by decide +kernel) (by decide +kernel) (by omega) (fun st aw k h => by
  match st, h with
  | .ref 7 :: .ref 1 :: .ref r :: st, h =>
    cases hs : xsm st with
    | false => simp only [t_apply, hs] at h
    | true =>
      simp only [t_apply, hs] at h
      obtain ⟨S, rfl, h2⟩ := h
      rcases h2 with ⟨rfl, hok, h2⟩ | ⟨rfl, hok, h2⟩
      · exact ⟨[.ref 1, .ref 7], st, _, 5, 0, _, rfl, rfl, hs, rfl, ⟨_, rfl, rfl⟩, n_apply5 S hok, fun vs aw' h9 => by obtain ⟨rfl, rfl⟩ := h9; exact h2⟩
      · exact ⟨[.ref 1, .ref 7], st, _, 6, 0, _, rfl, rfl, hs, rfl, ⟨_, rfl, rfl⟩, n_apply6 S hok, fun vs aw' h9 => by obtain ⟨rfl, rfl⟩ := h9; exact h2⟩)
def kpS (S : cS) : cS := cG' (cD' (cD' (cD' S 25 (va_cpy (cD S 23) (cD S 25) 0 0 49)) 26 (va_cpy (cD S 24) (cD S 26) 0 0 49)) 35 (va_cpy (cD S 30) (cD S 35) 0 0 36)) 4 (rsC (cD S 31) 36)
set_option maxRecDepth 100000 in
set_option maxHeartbeats 4000000 in
theorem n_keep (S : cS) : xMet l yX1_keep cX1_keep 4 none 2 D ad cy [.ref 8, .ref 5, .ref 6, .ref 7] (cW S) (fun vs aw' => vs = [] ∧ aw' = cW (kpS S)) := by
  refine xmet (Fd := xlk xfl1) (Cn := xlk xcl1) (Cl := xCt [(62, t_fTake), (81, t_copyD), (92, t_greatestLeft)]) (by decide) xk_X1_keep xt_X1_keep ⟨_, _, rfl, rfl⟩ xpl1 (xEnt_ok (List.forall_mem_cons.mpr ⟨f_fTake1 (by omega), List.forall_mem_cons.mpr ⟨f_copyD (own := RX1) (j := 40) (by decide +kernel) (by omega), List.forall_mem_cons.mpr ⟨f_greatestLeft1 (by omega), fun q h => by cases h⟩⟩⟩)) (Nat.le_of_ble_eq_true rfl) (fun WC hW => ?_)
  refine hW.1 (fun _ => false) 100 0 _ _ _ ?_
  refine ⟨S, rfl, Or.inr (Or.inr (Or.inl ⟨rfl, rfl, ?_⟩))⟩
  refine ⟨_, rfl, Or.inr (Or.inr (Or.inr ⟨rfl, rfl, ?_⟩))⟩
  refine ⟨36, rfl, rfl, rfl, by decide, by decide, by decide, ?_⟩
  refine ⟨cD' (cD' (cD' S 25 (va_cpy (cD S 23) (cD S 25) 0 0 49)) 26 (va_cpy (cD S 24) (cD S 26) 0 0 49)) 35 (va_cpy (cD S 30) (cD S 35) 0 0 36), rfl, ?_⟩
  exact And.intro rfl rfl
def t_keep (st : List Value) (aw : xA) (k : List Value → xA → Prop) : Prop := match st with
  | .ref 7 :: .ref 6 :: .ref 5 :: .ref 8 :: st => match xsm st with
    | true => ∃ S : cS, aw = cW S ∧ k st (cW (kpS S))
    | false => False
  | _ => False
theorem f_keep {d : Nat} (hd : 3 ≤ d) : xEnt l d D ad cy RX4 346 t_keep := xEnt_V (y' := yX1_keep) (cc' := cX1_keep) (n' := 4) (ret' := none) (d' := 2) (j := 173) 3 (by decide +kernel) (by decide +kernel) (by omega) (fun st aw k h => by
  match st, h with
  | .ref 7 :: .ref 6 :: .ref 5 :: .ref 8 :: st, h =>
    cases hs : xsm st with
    | false => simp only [t_keep, hs] at h
    | true =>
      simp only [t_keep, hs] at h
      obtain ⟨S, rfl, h2⟩ := h
      exact ⟨[.ref 5, .ref 6, .ref 7], st, _, 8, 1, _, rfl, rfl, hs, rfl, ⟨_, rfl, rfl⟩, n_keep S, fun vs aw' h9 => by obtain ⟨rfl, rfl⟩ := h9; exact h2⟩)
end C13
