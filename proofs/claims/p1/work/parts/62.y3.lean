/-! the class: step, of a box without particles -/
/-- behind the solver's set-up -/
def spA (S : cS) (np : Nat) (t : UInt64) : cS := suR (zrS (bgS S np t) 36) np 36
def spU (S : cS) : cS := cD' S 23 (rwF 6 (apG S 23 (nI 1) (nI 0)) (cD S 23) 6 0)
def spV (S : cS) : cS := cD' S 24 (rwF 5 (apG S 24 (nI 0) (nI 1)) (cD S 24) 7 0)
def spN (S : cS) : cS := cI' S 5 (cI S 5 + nI 1)
def spD (S : cS) : cS := cI' S 4 (cI S 4 + nI 1)
def uOk (S : cS) : Prop := ∀ j i, j ≤ 5 → i ≤ 6 → apOk S 23 (nI 1) (nI 0) i j
def vOk (S : cS) : Prop := ∀ j i, j ≤ 6 → i ≤ 5 → apOk S 24 (nI 0) (nI 1) i j
def okC (t : UInt64) : Bool := if cvd t FP.dconst0 .l ≤ 0 then false else if cvd t FP.dconst1 .g ≤ 0 then true else false
def qStp (F : Int32 × cS) (G : cS → cS) : cR := if F.1 = -1 then (2, [], spN F.2) else (0, [.int F.1], spD (kpS (G (spV (spU F.2)))))
def qStep0 (S : cS) (R : Nat) (t : UInt64) : cR := if okC t then qStp (fpF (spA S 0 t) (cG S 1) R) (fun V => V) else (1, [], S)
def spOk (S : cS) (np R : Nat) (t : UInt64) : Prop := bgOk S np t ∧ suOkF (bgS S np t) np ∧ fpOkF (spA S np t) (cG S 1) R
def spOk2 (F : Int32 × cS) : Prop := F.1 ≠ -1 → uOk F.2 ∧ vOk (spU F.2)
theorem suF_G (S : cS) (np i j k : Nat) : cG (suF S np i j) k = cG S k := by
  unfold suF
  split
  · rfl
  · rfl
theorem suR_G (S : cS) (np k : Nat) : ∀ c, cG (suR S np c) k = cG S k
  | 0 => rfl
  | c + 1 => by rw [suR, suF_G, suR_G]
theorem suF_J (S : cS) (np i j k : Nat) : cI (suF S np i j) k = cI S k := by
  unfold suF
  split
  · rfl
  · rfl
theorem suR_J (S : cS) (np k : Nat) : ∀ c, cI (suR S np c) k = cI S k
  | 0 => rfl
  | c + 1 => by rw [suR, suF_J, suR_J]
theorem spA_G (S : cS) (np k : Nat) (t : UInt64) : cG (spA S np t) k = cG S k := by
  unfold spA
  rw [suR_G]
  rfl
theorem spA_J (S : cS) (np k : Nat) (t : UInt64) : cI (spA S np t) k = cI S k := by
  unfold spA
  rw [suR_J]
  rfl
section Y3
variable {l : Launch} {D : va_G} {ad : Nat → Nat} {cy : Nat → ClassId}
set_option maxRecDepth 100000 in
set_option maxHeartbeats 4000000 in
theorem sp_1 (Q : cR) (S : cS) (WC : xC → xO → List Value → xA → Prop) (hW : xSys xL_X4_step (xlk xfl4) (xlk xcl4) (xCt [(296, t_buildGrids), (304, t_setUp), (312, t_findPressure), (324, t_apply), (346, t_keep)]) (xRt (some .int) (yPost Q)) WC) (np : Nat) (hnp : cI S 1 = nI np) (h24 : np ≤ 24) (t : UInt64) (ok : bgOk S np t) (next : WC (xL_X4_step.drop 16) [some (.ref 0), some (.double t), none, none, none] [] (cW (bgS S np t))) : WC (xL_X4_step.drop 13) [some (.ref 0), some (.double t), none, none, none] [] (cW S) := by
  refine hW.1 (fun pc => Nat.beq pc 27) 100 13 _ _ _ ?_
  exact ⟨S, np, rfl, hnp, h24, ok, next⟩
set_option maxRecDepth 100000 in
set_option maxHeartbeats 4000000 in
theorem sp_2 (Q : cR) (S : cS) (WC : xC → xO → List Value → xA → Prop) (hW : xSys xL_X4_step (xlk xfl4) (xlk xcl4) (xCt [(296, t_buildGrids), (304, t_setUp), (312, t_findPressure), (324, t_apply), (346, t_keep)]) (xRt (some .int) (yPost Q)) WC) (np : Nat) (hnp : cI S 1 = nI np) (h24 : np ≤ 24) (t : UInt64) (ok : suOkF S np) (next : WC (xL_X4_step.drop 25) [some (.ref 0), some (.double t), none, none, none] [] (cW (suR (zrS S 36) np 36))) : WC (xL_X4_step.drop 16) [some (.ref 0), some (.double t), none, none, none] [] (cW S) := by
  refine hW.1 (fun pc => Nat.beq pc 46) 100 16 _ _ _ ?_
  exact ⟨S, np, rfl, hnp, h24, ok, next⟩
set_option maxRecDepth 100000 in
set_option maxHeartbeats 4000000 in
theorem sp_3 (Q : cR) (S : cS) (WC : xC → xO → List Value → xA → Prop) (hW : xSys xL_X4_step (xlk xfl4) (xlk xcl4) (xCt [(296, t_buildGrids), (304, t_setUp), (312, t_findPressure), (324, t_apply), (346, t_keep)]) (xRt (some .int) (yPost Q)) WC) (R : Nat) (hR : cI S 0 = nI R) (h40 : R ≤ 40) (t : UInt64) (ok : fpOkF S (cG S 1) R) (next : WC (xL_X4_step.drop 35) [some (.ref 0), some (.double t), none, some (.int ((fpF S (cG S 1) R).1)), none] [] (cW (fpF S (cG S 1) R).2)) : WC (xL_X4_step.drop 25) [some (.ref 0), some (.double t), none, none, none] [] (cW S) := by
  refine hW.1 (fun pc => Nat.beq pc 68) 100 25 _ _ _ ?_
  refine ⟨S, R, rfl, hR, h40, ok, ?_⟩
  generalize fpF S (cG S 1) R = F at next ⊢
  exact next
set_option maxRecDepth 100000 in
set_option maxHeartbeats 4000000 in
theorem sp_4 (Q : cR) (S : cS) (WC : xC → xO → List Value → xA → Prop) (hW : xSys xL_X4_step (xlk xfl4) (xlk xcl4) (xCt [(296, t_buildGrids), (304, t_setUp), (312, t_findPressure), (324, t_apply), (346, t_keep)]) (xRt (some .int) (yPost Q)) WC) (t : UInt64) (n : Int32) (bad : n = -1 → WC (xL_X4_step.drop 44) [some (.ref 0), some (.double t), none, some (.int (n)), none] [] (cW (spN S))) (next : n ≠ -1 → WC (xL_X4_step.drop 49) [some (.ref 0), some (.double t), none, some (.int (n)), none] [] (cW S)) : WC (xL_X4_step.drop 35) [some (.ref 0), some (.double t), none, some (.int (n)), none] [] (cW S) := by
  unfold spN at bad
  refine hW.1 (fun pc => Nat.beq pc 83 || Nat.beq pc 93) 100 35 _ _ _ ?_
  exact And.intro (fun h1 => next h1) (fun h1 => bad h1)
set_option maxRecDepth 100000 in
set_option maxHeartbeats 4000000 in
theorem sp_5 (Q : cR) (S : cS) (WC : xC → xO → List Value → xA → Prop) (hW : xSys xL_X4_step (xlk xfl4) (xlk xcl4) (xCt [(296, t_buildGrids), (304, t_setUp), (312, t_findPressure), (324, t_apply), (346, t_keep)]) (xRt (some .int) (yPost Q)) WC) (t : UInt64) (n : Int32) (ok : uOk S) (next : WC (xL_X4_step.drop 56) [some (.ref 0), some (.double t), none, some (.int (n)), none] [] (cW (spU S))) : WC (xL_X4_step.drop 49) [some (.ref 0), some (.double t), none, some (.int (n)), none] [] (cW S) := by
  unfold spU at next
  refine hW.1 (fun pc => Nat.beq pc 108) 100 49 _ _ _ ?_
  exact ⟨S, rfl, Or.inl ⟨rfl, ok, next⟩⟩
set_option maxRecDepth 100000 in
set_option maxHeartbeats 4000000 in
theorem sp_6 (Q : cR) (S : cS) (WC : xC → xO → List Value → xA → Prop) (hW : xSys xL_X4_step (xlk xfl4) (xlk xcl4) (xCt [(296, t_buildGrids), (304, t_setUp), (312, t_findPressure), (324, t_apply), (346, t_keep)]) (xRt (some .int) (yPost Q)) WC) (t : UInt64) (n : Int32) (ok : vOk S) (next : WC (xL_X4_step.drop 65) [some (.ref 0), some (.double t), none, some (.int (n)), some (.int (nI 0))] [] (cW (spV S))) : WC (xL_X4_step.drop 56) [some (.ref 0), some (.double t), none, some (.int (n)), none] [] (cW S) := by
  unfold spV at next
  refine hW.1 (fun pc => Nat.beq pc 126) 100 56 _ _ _ ?_
  exact ⟨S, rfl, Or.inr ⟨rfl, ok, next⟩⟩
set_option maxRecDepth 100000 in
set_option maxHeartbeats 4000000 in
theorem sp_7e (Q : cR) (S : cS) (WC : xC → xO → List Value → xA → Prop) (hW : xSys xL_X4_step (xlk xfl4) (xlk xcl4) (xCt [(296, t_buildGrids), (304, t_setUp), (312, t_findPressure), (324, t_apply), (346, t_keep)]) (xRt (some .int) (yPost Q)) WC) (t : UInt64) (n : Int32) (np : Nat) (hnp : cI S 1 = nI np) (next : WC (xL_X4_step.drop 77) [some (.ref 0), some (.double t), none, some (.int (n)), some (.int (nI 0))] [] (cW S)) : WC (xL_X4_step.drop 65) [some (.ref 0), some (.double t), none, some (.int (n)), some (.int (nI np))] [] (cW S) := by
  refine hW.1 (fun pc => Nat.beq pc 126 || Nat.beq pc 153) 100 65 _ _ _ ?_
  refine And.intro (fun h1 => next) (fun h1 => absurd ?_ h1)
  show cI S 1 ≤ nI np
  rw [hnp]
  exact Int32.le_refl _
set_option maxRecDepth 100000 in
set_option maxHeartbeats 4000000 in
theorem sp_8e (Q : cR) (S : cS) (WC : xC → xO → List Value → xA → Prop) (hW : xSys xL_X4_step (xlk xfl4) (xlk xcl4) (xCt [(296, t_buildGrids), (304, t_setUp), (312, t_findPressure), (324, t_apply), (346, t_keep)]) (xRt (some .int) (yPost Q)) WC) (t : UInt64) (n : Int32) (np : Nat) (hnp : cI S 1 = nI np) (next : WC (xL_X4_step.drop 88) [some (.ref 0), some (.double t), none, some (.int (n)), none] [] (cW S)) : WC (xL_X4_step.drop 77) [some (.ref 0), some (.double t), none, some (.int (n)), some (.int (nI np))] [] (cW S) := by
  refine hW.1 (fun pc => Nat.beq pc 153 || Nat.beq pc 178) 100 77 _ _ _ ?_
  refine And.intro (fun h1 => ?_) (fun h1 => absurd ?_ h1)
  · refine hW.2 88 _ _ _ _ ?_ ?_ next
    · exact And.intro rfl (And.intro rfl (And.intro rfl (trivial)))
    · rfl
  show cI S 1 ≤ nI np
  rw [hnp]
  exact Int32.le_refl _
set_option maxRecDepth 100000 in
set_option maxHeartbeats 4000000 in
theorem sp_9 (Q : cR) (S : cS) (WC : xC → xO → List Value → xA → Prop) (hW : xSys xL_X4_step (xlk xfl4) (xlk xcl4) (xCt [(296, t_buildGrids), (304, t_setUp), (312, t_findPressure), (324, t_apply), (346, t_keep)]) (xRt (some .int) (yPost Q)) WC) (t : UInt64) (n : Int32) (next : WC (xL_X4_step.drop 97) [some (.ref 0), some (.double t), none, some (.int (n)), none] [] (cW (kpS S))) : WC (xL_X4_step.drop 88) [some (.ref 0), some (.double t), none, some (.int (n)), none] [] (cW S) := by
  refine hW.1 (fun pc => Nat.beq pc 197) 100 88 _ _ _ ?_
  exact ⟨S, rfl, next⟩
set_option maxRecDepth 100000 in
set_option maxHeartbeats 4000000 in
theorem sp_a (Q : cR) (S : cS) (WC : xC → xO → List Value → xA → Prop) (hW : xSys xL_X4_step (xlk xfl4) (xlk xcl4) (xCt [(296, t_buildGrids), (304, t_setUp), (312, t_findPressure), (324, t_apply), (346, t_keep)]) (xRt (some .int) (yPost Q)) WC) (t : UInt64) (n : Int32) (hQ : Q = (0, [.int n], spD S)) : WC (xL_X4_step.drop 97) [some (.ref 0), some (.double t), none, some (.int (n)), none] [] (cW S) := by
  refine hW.1 (fun _ => false) 100 97 _ _ _ ?_
  show yPost _ _ _
  rw [hQ]
  exact ⟨rfl, rfl, rfl⟩
set_option maxRecDepth 100000 in
set_option maxHeartbeats 4000000 in
theorem n_step0 (hst : l.stackTraces = false) (S : cS) (hnp : cI S 1 = nI 0) (R : Nat) (hR : cI S 0 = nI R) (h40 : R ≤ 40) (t : UInt64) (ok : okC t = true → spOk S 0 R t ∧ spOk2 (fpF (spA S 0 t) (cG S 1) R) ∧ cI (fpF (spA S 0 t) (cG S 1) R).2 1 = nI 0) : yMet l yX4_step cX4_step 5 (some .int) 6 D ad cy [.ref 0, .double t] (cW S) (yPost (qStep0 S R t)) (yPx xIA xIS (qStep0 S R t)) := by
  refine ymet (Fd := xlk xfl4) (Cn := xlk xcl4) (Cl := xCt [(296, t_buildGrids), (304, t_setUp), (312, t_findPressure), (324, t_apply), (346, t_keep)]) hst (by decide) rfl (by decide) xk_X4_step xt_X4_step ⟨_, _, rfl, rfl⟩ xpl4 (xEnt_ok (List.forall_mem_cons.mpr ⟨f_buildGrids (by omega), List.forall_mem_cons.mpr ⟨f_setUp (by omega), List.forall_mem_cons.mpr ⟨f_findPressure (by omega), List.forall_mem_cons.mpr ⟨f_apply (by omega), List.forall_mem_cons.mpr ⟨f_keep (by omega), fun q h => by cases h⟩⟩⟩⟩⟩)) (Nat.le_of_ble_eq_true rfl) (fun WC hW hT => ?_)
  have bad : okC t = false → WC (xL_X4_step.drop 8) [some (.ref 0), some (.double t), none, none, none] [] (cW S) := by
    intro h
    have e : qStep0 S R t = (1, [], S) := by unfold qStep0; rw [h]; rfl
    exact hT 8 _ _ _ xIA rfl rfl (by rw [e]; exact ⟨Or.inl ⟨rfl, rfl⟩, rfl⟩)
  have good : okC t = true → WC (xL_X4_step.drop 13) [some (.ref 0), some (.double t), none, none, none] [] (cW S) := by
    intro h
    obtain ⟨⟨o1, o2, o3⟩, o4, o5⟩ := ok h
    have e : qStep0 S R t = qStp (fpF (spA S 0 t) (cG S 1) R) (fun V => V) := by unfold qStep0; rw [if_pos h]
    refine sp_1 _ S WC hW 0 hnp (by omega) t o1 ?_
    refine sp_2 _ (bgS S 0 t) WC hW 0 hnp (by omega) t o2 ?_
    have e0 : suR (zrS (bgS S 0 t) 36) 0 36 = spA S 0 t := by unfold spA; rfl
    rw [e0]
    have eg : cG (spA S 0 t) 1 = cG S 1 := spA_G S 0 1 t
    have ei : cI (spA S 0 t) 0 = nI R := (spA_J S 0 0 t).trans hR
    generalize spA S 0 t = P at e eg ei o3 o4 o5 ⊢
    refine sp_3 _ P WC hW R ei h40 t (by rw [eg]; exact o3) ?_
    rw [eg]
    rw [e] at hW hT
    generalize fpF P (cG S 1) R = F at o4 o5 hW hT ⊢
    obtain ⟨n, V⟩ := F
    refine sp_4 _ V WC hW t n (fun h1 => ?_) (fun h1 => ?_)
    · have e2 : qStp (n, V) (fun V => V) = (2, [], spN V) := by unfold qStp; rw [if_pos h1]
      exact hT 44 _ _ _ xIS rfl rfl (by rw [e2]; exact ⟨Or.inr ⟨rfl, rfl⟩, rfl⟩)
    · obtain ⟨k1, k2⟩ := o4 h1
      have e2 : qStp (n, V) (fun V => V) = (0, [.int n], spD (kpS (spV (spU V)))) := by unfold qStp; rw [if_neg h1]
      refine sp_5 _ V WC hW t n k1 ?_
      refine sp_6 _ (spU V) WC hW t n k2 ?_
      refine sp_7e _ (spV (spU V)) WC hW t n 0 o5 ?_
      refine sp_8e _ (spV (spU V)) WC hW t n 0 o5 ?_
      refine sp_9 _ (spV (spU V)) WC hW t n ?_
      exact sp_a _ (kpS (spV (spU V))) WC hW t n e2
  refine hW.1 (fun pc => Nat.beq pc 12 || Nat.beq pc 22) 100 0 _ _ _ ?_
  refine And.intro (fun h1 => bad (by unfold okC; rw [if_pos h1])) (fun h1 => ?_)
  exact And.intro (fun h2 => good (by unfold okC; rw [if_neg h1, if_pos h2])) (fun h2 => bad (by unfold okC; rw [if_neg h1, if_neg h2]))
end Y3
