/-! the class: step -/
def rvL (S : cS) : Nat → cS
  | 0 => S
  | k + 1 => rvS (rvL S k) k
def mpL (S : cS) (t : UInt64) : Nat → cS
  | 0 => S
  | k + 1 => mpS (mpL S t k) k t
theorem rvL_I (S : cS) (i : Nat) : ∀ k, cI (rvL S k) i = cI S i
  | 0 => rfl
  | k + 1 => rvL_I S i k
theorem mpA_I (S : cS) (k : Nat) (h w : UInt32) (i : Nat) : cI (mpA S k h w) i = cI S i := by unfold mpA; split <;> rfl
theorem mpB_I (S : cS) (k : Nat) (h w : UInt32) (i : Nat) : cI (mpB S k h w) i = cI S i := by unfold mpB; split <;> rfl
theorem mpE_I (S : cS) (k : Nat) (x y : UInt32) (i : Nat) : cI (mpE S k x y) i = cI S i := by
  unfold mpE
  split
  · rfl
  · show cI (mpB (mpA S k (hoF x) x) k (hoF y) y) i = cI S i
    rw [mpB_I, mpA_I]
theorem mpL_I (S : cS) (t : UInt64) (i : Nat) : ∀ k, cI (mpL S t k) i = cI S i
  | 0 => rfl
  | k + 1 => by rw [mpL, mpS, mpE_I, mpL_I]
def pmS (S : cS) (np : Nat) (t : UInt64) : cS := mpL (rvL S np) t np
def pmOk (S : cS) (np : Nat) (t : UInt64) : Prop := (∀ k, k < np → rvOk (rvL S k) k) ∧ (∀ k, k < np → mpOk (mpL (rvL S np) t k) k t)
def qStepF (S : cS) (np R : Nat) (t : UInt64) : cR := if okC t then qStp (fpF (spA S np t) (cG S 1) R) (fun V => pmS V np t) else (1, [], S)
section Y4
variable {l : Launch} {D : va_G} {ad : Nat → Nat} {cy : Nat → ClassId}
set_option maxRecDepth 100000 in
set_option maxHeartbeats 4000000 in
theorem sq_1 (Q : cR) (S : cS) (WC : xC → xO → List Value → xA → Prop) (hW : xSys xL_X4_step (xlk xfl4) (xlk xcl4) (xCt [(296, t_buildGrids), (304, t_setUp), (312, t_findPressure), (324, t_apply), (332, t_renew), (338, t_moveP), (346, t_keep)]) (xRt (some .int) (yPost Q)) WC) (np : Nat) (hnp : cI S 1 = nI np) (h24 : np ≤ 24) (t : UInt64) (ok : bgOk S np t) (next : WC (xL_X4_step.drop 16) [some (.ref 0), some (.double t), none, none, none] [] (cW (bgS S np t))) : WC (xL_X4_step.drop 13) [some (.ref 0), some (.double t), none, none, none] [] (cW S) := by
  refine hW.1 (fun pc => Nat.beq pc 27) 100 13 _ _ _ ?_
  exact ⟨S, np, rfl, hnp, h24, ok, next⟩
set_option maxRecDepth 100000 in
set_option maxHeartbeats 4000000 in
theorem sq_2 (Q : cR) (S : cS) (WC : xC → xO → List Value → xA → Prop) (hW : xSys xL_X4_step (xlk xfl4) (xlk xcl4) (xCt [(296, t_buildGrids), (304, t_setUp), (312, t_findPressure), (324, t_apply), (332, t_renew), (338, t_moveP), (346, t_keep)]) (xRt (some .int) (yPost Q)) WC) (np : Nat) (hnp : cI S 1 = nI np) (h24 : np ≤ 24) (t : UInt64) (ok : suOkF S np) (next : WC (xL_X4_step.drop 25) [some (.ref 0), some (.double t), none, none, none] [] (cW (suR (zrS S 36) np 36))) : WC (xL_X4_step.drop 16) [some (.ref 0), some (.double t), none, none, none] [] (cW S) := by
  refine hW.1 (fun pc => Nat.beq pc 46) 100 16 _ _ _ ?_
  exact ⟨S, np, rfl, hnp, h24, ok, next⟩
set_option maxRecDepth 100000 in
set_option maxHeartbeats 4000000 in
theorem sq_3 (Q : cR) (S : cS) (WC : xC → xO → List Value → xA → Prop) (hW : xSys xL_X4_step (xlk xfl4) (xlk xcl4) (xCt [(296, t_buildGrids), (304, t_setUp), (312, t_findPressure), (324, t_apply), (332, t_renew), (338, t_moveP), (346, t_keep)]) (xRt (some .int) (yPost Q)) WC) (R : Nat) (hR : cI S 0 = nI R) (h40 : R ≤ 40) (t : UInt64) (ok : fpOkF S (cG S 1) R) (next : WC (xL_X4_step.drop 35) [some (.ref 0), some (.double t), none, some (.int ((fpF S (cG S 1) R).1)), none] [] (cW (fpF S (cG S 1) R).2)) : WC (xL_X4_step.drop 25) [some (.ref 0), some (.double t), none, none, none] [] (cW S) := by
  refine hW.1 (fun pc => Nat.beq pc 68) 100 25 _ _ _ ?_
  refine ⟨S, R, rfl, hR, h40, ok, ?_⟩
  generalize fpF S (cG S 1) R = F at next ⊢
  exact next
set_option maxRecDepth 100000 in
set_option maxHeartbeats 4000000 in
theorem sq_4 (Q : cR) (S : cS) (WC : xC → xO → List Value → xA → Prop) (hW : xSys xL_X4_step (xlk xfl4) (xlk xcl4) (xCt [(296, t_buildGrids), (304, t_setUp), (312, t_findPressure), (324, t_apply), (332, t_renew), (338, t_moveP), (346, t_keep)]) (xRt (some .int) (yPost Q)) WC) (t : UInt64) (n : Int32) (bad : n = -1 → WC (xL_X4_step.drop 44) [some (.ref 0), some (.double t), none, some (.int (n)), none] [] (cW (spN S))) (next : n ≠ -1 → WC (xL_X4_step.drop 49) [some (.ref 0), some (.double t), none, some (.int (n)), none] [] (cW S)) : WC (xL_X4_step.drop 35) [some (.ref 0), some (.double t), none, some (.int (n)), none] [] (cW S) := by
  unfold spN at bad
  refine hW.1 (fun pc => Nat.beq pc 83 || Nat.beq pc 93) 100 35 _ _ _ ?_
  exact And.intro (fun h1 => next h1) (fun h1 => bad h1)
set_option maxRecDepth 100000 in
set_option maxHeartbeats 4000000 in
theorem sq_5 (Q : cR) (S : cS) (WC : xC → xO → List Value → xA → Prop) (hW : xSys xL_X4_step (xlk xfl4) (xlk xcl4) (xCt [(296, t_buildGrids), (304, t_setUp), (312, t_findPressure), (324, t_apply), (332, t_renew), (338, t_moveP), (346, t_keep)]) (xRt (some .int) (yPost Q)) WC) (t : UInt64) (n : Int32) (ok : uOk S) (next : WC (xL_X4_step.drop 56) [some (.ref 0), some (.double t), none, some (.int (n)), none] [] (cW (spU S))) : WC (xL_X4_step.drop 49) [some (.ref 0), some (.double t), none, some (.int (n)), none] [] (cW S) := by
  unfold spU at next
  refine hW.1 (fun pc => Nat.beq pc 108) 100 49 _ _ _ ?_
  exact ⟨S, rfl, Or.inl ⟨rfl, ok, next⟩⟩
set_option maxRecDepth 100000 in
set_option maxHeartbeats 4000000 in
theorem sq_6 (Q : cR) (S : cS) (WC : xC → xO → List Value → xA → Prop) (hW : xSys xL_X4_step (xlk xfl4) (xlk xcl4) (xCt [(296, t_buildGrids), (304, t_setUp), (312, t_findPressure), (324, t_apply), (332, t_renew), (338, t_moveP), (346, t_keep)]) (xRt (some .int) (yPost Q)) WC) (t : UInt64) (n : Int32) (ok : vOk S) (next : WC (xL_X4_step.drop 65) [some (.ref 0), some (.double t), none, some (.int (n)), some (.int (nI 0))] [] (cW (spV S))) : WC (xL_X4_step.drop 56) [some (.ref 0), some (.double t), none, some (.int (n)), none] [] (cW S) := by
  unfold spV at next
  refine hW.1 (fun pc => Nat.beq pc 126) 100 56 _ _ _ ?_
  exact ⟨S, rfl, Or.inr ⟨rfl, ok, next⟩⟩
set_option maxRecDepth 100000 in
set_option maxHeartbeats 4000000 in
theorem sq_7e (Q : cR) (S : cS) (WC : xC → xO → List Value → xA → Prop) (hW : xSys xL_X4_step (xlk xfl4) (xlk xcl4) (xCt [(296, t_buildGrids), (304, t_setUp), (312, t_findPressure), (324, t_apply), (332, t_renew), (338, t_moveP), (346, t_keep)]) (xRt (some .int) (yPost Q)) WC) (t : UInt64) (n : Int32) (np : Nat) (hnp : cI S 1 = nI np) (next : WC (xL_X4_step.drop 77) [some (.ref 0), some (.double t), none, some (.int (n)), some (.int (nI 0))] [] (cW S)) : WC (xL_X4_step.drop 65) [some (.ref 0), some (.double t), none, some (.int (n)), some (.int (nI np))] [] (cW S) := by
  refine hW.1 (fun pc => Nat.beq pc 126 || Nat.beq pc 153) 100 65 _ _ _ ?_
  refine And.intro (fun h1 => next) (fun h1 => absurd ?_ h1)
  show cI S 1 ≤ nI np
  rw [hnp]
  exact Int32.le_refl _
set_option maxRecDepth 100000 in
set_option maxHeartbeats 4000000 in
theorem sq_8e (Q : cR) (S : cS) (WC : xC → xO → List Value → xA → Prop) (hW : xSys xL_X4_step (xlk xfl4) (xlk xcl4) (xCt [(296, t_buildGrids), (304, t_setUp), (312, t_findPressure), (324, t_apply), (332, t_renew), (338, t_moveP), (346, t_keep)]) (xRt (some .int) (yPost Q)) WC) (t : UInt64) (n : Int32) (np : Nat) (hnp : cI S 1 = nI np) (next : WC (xL_X4_step.drop 88) [some (.ref 0), some (.double t), none, some (.int (n)), none] [] (cW S)) : WC (xL_X4_step.drop 77) [some (.ref 0), some (.double t), none, some (.int (n)), some (.int (nI np))] [] (cW S) := by
  refine hW.1 (fun pc => Nat.beq pc 153 || Nat.beq pc 178) 100 77 _ _ _ ?_
  refine And.intro (fun h1 => ?_) (fun h1 => absurd ?_ h1)
  · refine hW.2 88 _ _ _ _ ?_ ?_ next
    · exact And.intro rfl (And.intro rfl (And.intro rfl (trivial)))
    · rfl
  show cI S 1 ≤ nI np
  rw [hnp]
  exact Int32.le_refl _
set_option maxRecDepth 100000 in
set_option maxHeartbeats 4000000 in
theorem sq_9 (Q : cR) (S : cS) (WC : xC → xO → List Value → xA → Prop) (hW : xSys xL_X4_step (xlk xfl4) (xlk xcl4) (xCt [(296, t_buildGrids), (304, t_setUp), (312, t_findPressure), (324, t_apply), (332, t_renew), (338, t_moveP), (346, t_keep)]) (xRt (some .int) (yPost Q)) WC) (t : UInt64) (n : Int32) (next : WC (xL_X4_step.drop 97) [some (.ref 0), some (.double t), none, some (.int (n)), none] [] (cW (kpS S))) : WC (xL_X4_step.drop 88) [some (.ref 0), some (.double t), none, some (.int (n)), none] [] (cW S) := by
  refine hW.1 (fun pc => Nat.beq pc 197) 100 88 _ _ _ ?_
  exact ⟨S, rfl, next⟩
set_option maxRecDepth 100000 in
set_option maxHeartbeats 4000000 in
theorem sq_a (Q : cR) (S : cS) (WC : xC → xO → List Value → xA → Prop) (hW : xSys xL_X4_step (xlk xfl4) (xlk xcl4) (xCt [(296, t_buildGrids), (304, t_setUp), (312, t_findPressure), (324, t_apply), (332, t_renew), (338, t_moveP), (346, t_keep)]) (xRt (some .int) (yPost Q)) WC) (t : UInt64) (n : Int32) (hQ : Q = (0, [.int n], spD S)) : WC (xL_X4_step.drop 97) [some (.ref 0), some (.double t), none, some (.int (n)), none] [] (cW S) := by
  refine hW.1 (fun _ => false) 100 97 _ _ _ ?_
  show yPost _ _ _
  rw [hQ]
  exact ⟨rfl, rfl, rfl⟩
set_option maxRecDepth 100000 in
set_option maxHeartbeats 4000000 in
theorem sq_7 (Q : cR) (S : cS) (WC : xC → xO → List Value → xA → Prop) (hW : xSys xL_X4_step (xlk xfl4) (xlk xcl4) (xCt [(296, t_buildGrids), (304, t_setUp), (312, t_findPressure), (324, t_apply), (332, t_renew), (338, t_moveP), (346, t_keep)]) (xRt (some .int) (yPost Q)) WC) (t : UInt64) (n : Int32) (np k : Nat) (hnp : cI S 1 = nI np) (hk : k < np) (h24 : np ≤ 24) (ok : rvOk S k) (next : WC (xL_X4_step.drop 65) [some (.ref 0), some (.double t), none, some (.int (n)), some (.int (nI (k + 1)))] [] (cW (rvS S k))) : WC (xL_X4_step.drop 65) [some (.ref 0), some (.double t), none, some (.int (n)), some (.int (nI k))] [] (cW S) := by
  rw [← nI_add k 1] at next
  refine hW.1 (fun pc => Nat.beq pc 126 || Nat.beq pc 153) 100 65 _ _ _ ?_
  refine And.intro (fun h1 => absurd (show nI np ≤ nI k by rw [← hnp]; exact h1) (nI_ge (by omega) (by omega))) (fun h1 => ?_)
  exact ⟨S, k, rfl, rfl, by omega, ok, next⟩
set_option maxRecDepth 100000 in
set_option maxHeartbeats 4000000 in
theorem sq_8 (Q : cR) (S : cS) (WC : xC → xO → List Value → xA → Prop) (hW : xSys xL_X4_step (xlk xfl4) (xlk xcl4) (xCt [(296, t_buildGrids), (304, t_setUp), (312, t_findPressure), (324, t_apply), (332, t_renew), (338, t_moveP), (346, t_keep)]) (xRt (some .int) (yPost Q)) WC) (t : UInt64) (n : Int32) (np k : Nat) (hnp : cI S 1 = nI np) (hk : k < np) (h24 : np ≤ 24) (ok : mpOk S k t) (next : WC (xL_X4_step.drop 77) [some (.ref 0), some (.double t), none, some (.int (n)), some (.int (nI (k + 1)))] [] (cW (mpS S k t))) : WC (xL_X4_step.drop 77) [some (.ref 0), some (.double t), none, some (.int (n)), some (.int (nI k))] [] (cW S) := by
  rw [← nI_add k 1] at next
  refine hW.1 (fun pc => Nat.beq pc 153 || Nat.beq pc 178) 100 77 _ _ _ ?_
  refine And.intro (fun h1 => absurd (show nI np ≤ nI k by rw [← hnp]; exact h1) (nI_ge (by omega) (by omega))) (fun h1 => ?_)
  exact ⟨S, k, rfl, rfl, by omega, ok, next⟩
theorem sq_7l (Q : cR) (S : cS) (WC : xC → xO → List Value → xA → Prop) (hW : xSys xL_X4_step (xlk xfl4) (xlk xcl4) (xCt [(296, t_buildGrids), (304, t_setUp), (312, t_findPressure), (324, t_apply), (332, t_renew), (338, t_moveP), (346, t_keep)]) (xRt (some .int) (yPost Q)) WC) (t : UInt64) (n : Int32) (np : Nat) (hnp : cI S 1 = nI np) (h24 : np ≤ 24) (ok : ∀ k, k < np → rvOk (rvL S k) k) (next : WC (xL_X4_step.drop 77) [some (.ref 0), some (.double t), none, some (.int (n)), some (.int (nI 0))] [] (cW (rvL S np))) : WC (xL_X4_step.drop 65) [some (.ref 0), some (.double t), none, some (.int (n)), some (.int (nI 0))] [] (cW S) := by
  have loop : ∀ m k, k + m = np → WC (xL_X4_step.drop 65) [some (.ref 0), some (.double t), none, some (.int (n)), some (.int (nI k))] [] (cW (rvL S k)) := by
    intro m
    induction m with
    | zero =>
      intro k hk
      have : k = np := by omega
      subst this
      exact sq_7e Q (rvL S k) WC hW t n k ((rvL_I S 1 k).trans hnp) next
    | succ m ih =>
      intro k hk
      exact sq_7 Q (rvL S k) WC hW t n np k ((rvL_I S 1 k).trans hnp) (by omega) h24 (ok k (by omega)) (ih (k + 1) (by omega))
  exact loop np 0 (by omega)
theorem sq_8l (Q : cR) (S : cS) (WC : xC → xO → List Value → xA → Prop) (hW : xSys xL_X4_step (xlk xfl4) (xlk xcl4) (xCt [(296, t_buildGrids), (304, t_setUp), (312, t_findPressure), (324, t_apply), (332, t_renew), (338, t_moveP), (346, t_keep)]) (xRt (some .int) (yPost Q)) WC) (t : UInt64) (n : Int32) (np : Nat) (hnp : cI S 1 = nI np) (h24 : np ≤ 24) (ok : ∀ k, k < np → mpOk (mpL S t k) k t) (next : WC (xL_X4_step.drop 88) [some (.ref 0), some (.double t), none, some (.int (n)), none] [] (cW (mpL S t np))) : WC (xL_X4_step.drop 77) [some (.ref 0), some (.double t), none, some (.int (n)), some (.int (nI 0))] [] (cW S) := by
  have loop : ∀ m k, k + m = np → WC (xL_X4_step.drop 77) [some (.ref 0), some (.double t), none, some (.int (n)), some (.int (nI k))] [] (cW (mpL S t k)) := by
    intro m
    induction m with
    | zero =>
      intro k hk
      have : k = np := by omega
      subst this
      exact sq_8e Q (mpL S t k) WC hW t n k ((mpL_I S t 1 k).trans hnp) next
    | succ m ih =>
      intro k hk
      exact sq_8 Q (mpL S t k) WC hW t n np k ((mpL_I S t 1 k).trans hnp) (by omega) h24 (ok k (by omega)) (ih (k + 1) (by omega))
  exact loop np 0 (by omega)
set_option maxRecDepth 100000 in
set_option maxHeartbeats 4000000 in
theorem n_step (hst : l.stackTraces = false) (S : cS) (np : Nat) (hnp : cI S 1 = nI np) (h24 : np ≤ 24) (R : Nat) (hR : cI S 0 = nI R) (h40 : R ≤ 40) (t : UInt64) (ok : okC t = true → spOk S np R t ∧ spOk2 (fpF (spA S np t) (cG S 1) R) ∧ cI (fpF (spA S np t) (cG S 1) R).2 1 = nI np ∧ ((fpF (spA S np t) (cG S 1) R).1 ≠ -1 → pmOk (spV (spU (fpF (spA S np t) (cG S 1) R).2)) np t)) : yMet l yX4_step cX4_step 5 (some .int) 6 D ad cy [.ref 0, .double t] (cW S) (yPost (qStepF S np R t)) (yPx xIA xIS (qStepF S np R t)) := by
  refine ymet (Fd := xlk xfl4) (Cn := xlk xcl4) (Cl := xCt [(296, t_buildGrids), (304, t_setUp), (312, t_findPressure), (324, t_apply), (332, t_renew), (338, t_moveP), (346, t_keep)]) hst (by decide) rfl (by decide) xk_X4_step xt_X4_step ⟨_, _, rfl, rfl⟩ xpl4 (xEnt_ok (List.forall_mem_cons.mpr ⟨f_buildGrids (by omega), List.forall_mem_cons.mpr ⟨f_setUp (by omega), List.forall_mem_cons.mpr ⟨f_findPressure (by omega), List.forall_mem_cons.mpr ⟨f_apply (by omega), List.forall_mem_cons.mpr ⟨f_renew (by omega), List.forall_mem_cons.mpr ⟨f_moveP (by omega), List.forall_mem_cons.mpr ⟨f_keep (by omega), fun q h => by cases h⟩⟩⟩⟩⟩⟩⟩)) (Nat.le_of_ble_eq_true rfl) (fun WC hW hT => ?_)
  have bad : okC t = false → WC (xL_X4_step.drop 8) [some (.ref 0), some (.double t), none, none, none] [] (cW S) := by
    intro h
    have e : qStepF S np R t = (1, [], S) := by unfold qStepF; rw [h]; rfl
    exact hT 8 _ _ _ xIA rfl rfl (by rw [e]; exact ⟨Or.inl ⟨rfl, rfl⟩, rfl⟩)
  have good : okC t = true → WC (xL_X4_step.drop 13) [some (.ref 0), some (.double t), none, none, none] [] (cW S) := by
    intro h
    obtain ⟨⟨o1, o2, o3⟩, o4, o5, o6⟩ := ok h
    have e : qStepF S np R t = qStp (fpF (spA S np t) (cG S 1) R) (fun V => pmS V np t) := by unfold qStepF; rw [if_pos h]
    refine sq_1 _ S WC hW np hnp h24 t o1 ?_
    refine sq_2 _ (bgS S np t) WC hW np hnp h24 t o2 ?_
    have e0 : suR (zrS (bgS S np t) 36) np 36 = spA S np t := by unfold spA; rfl
    rw [e0]
    have eg : cG (spA S np t) 1 = cG S 1 := spA_G S np 1 t
    have ei : cI (spA S np t) 0 = nI R := (spA_J S np 0 t).trans hR
    generalize spA S np t = P at e eg ei o3 o4 o5 o6 ⊢
    refine sq_3 _ P WC hW R ei h40 t (by rw [eg]; exact o3) ?_
    rw [eg]
    rw [e] at hW hT
    generalize fpF P (cG S 1) R = F at o4 o5 o6 hW hT ⊢
    obtain ⟨n, V⟩ := F
    refine sq_4 _ V WC hW t n (fun h1 => ?_) (fun h1 => ?_)
    · have e2 : qStp (n, V) (fun V => pmS V np t) = (2, [], spN V) := by unfold qStp; rw [if_pos h1]
      exact hT 44 _ _ _ xIS rfl rfl (by rw [e2]; exact ⟨Or.inr ⟨rfl, rfl⟩, rfl⟩)
    · obtain ⟨k1, k2⟩ := o4 h1
      obtain ⟨k3, k4⟩ := o6 h1
      have e2 : qStp (n, V) (fun V => pmS V np t) = (0, [.int n], spD (kpS (pmS (spV (spU V)) np t))) := by unfold qStp; rw [if_neg h1]
      refine sq_5 _ V WC hW t n k1 ?_
      refine sq_6 _ (spU V) WC hW t n k2 ?_
      refine sq_7l _ (spV (spU V)) WC hW t n np o5 h24 k3 ?_
      refine sq_8l _ (rvL (spV (spU V)) np) WC hW t n np ((rvL_I _ 1 np).trans o5) h24 k4 ?_
      refine sq_9 _ (pmS (spV (spU V)) np t) WC hW t n ?_
      exact sq_a _ (kpS (pmS (spV (spU V)) np t)) WC hW t n e2
  refine hW.1 (fun pc => Nat.beq pc 12 || Nat.beq pc 22) 100 0 _ _ _ ?_
  refine And.intro (fun h1 => bad (by unfold okC; rw [if_pos h1])) (fun h1 => ?_)
  exact And.intro (fun h2 => good (by unfold okC; rw [if_neg h1, if_pos h2])) (fun h2 => bad (by unfold okC; rw [if_neg h1, if_neg h2]))
end Y4
