/-! the reference: step -/
def okT (t : UInt64) : Bool := if cvd t FP.dconst0 .l ≤ 0 then false else decide (cvd t FP.dconst1 .l ≤ 0)
def mixR (S : mS) (N : Nat → UInt32) : Nat → Nat → UInt32
  | 0 => N
  | k + 1 => vf_upd (vf_upd (mixR S N k) (4 * k + 2) (mixF S true k)) (4 * k + 3) (mixF S false k)
def movR (S : mS) (t : UInt64) (N : Nat → UInt32) : Nat → Nat → UInt32
  | 0 => N
  | k + 1 => mvF (mD S 13) (movR S t N k) (mA S 1) t (mF S 3 (4 * k)) (mF S 3 (4 * k + 1)) k
def stA (S : mS) (np : Nat) : mS := mA' S 10 (fluR (mF S 3) (mA S 10) np)
def stB (S : mS) (np : Nat) : mS := mD' S 12 (filR (gatG (mF S 3) np) (mD S 12) 84)
def stC (S : mS) (t : UInt64) : mS := mD' S 13 (filR (frcG (mD S 12) (mA S 1) t (mD S 4 0)) (mD S 13) 84)
def stP (S : mS) : mS := mD' S 13 (filR (pjG (mD S 13) (mD S 16) (mA S 1) (mA S 10)) (mD S 13) 84)
def stM (S : mS) (np : Nat) : mS := mF' S 21 (mixR S (mF S 21) np)
def stV (S : mS) (t : UInt64) (np : Nat) : mS := mF' S 21 (movR S t (mF S 21) np)
def stK (S : mS) (n : Nat) : mS := mF' S 3 (filR (mF S 21) (mF S 3) n)
def stF (S : mS) (n : Nat) : mS := mD' S 8 (filR (mD S 13) (mD S 8) n)
def stQ (S : mS) (n : Nat) : mS := mD' S 9 (filR (mD S 16) (mD S 9) n)
def stR (S : mS) : mS := mI' (mG' S (rsF (mD S 17) 36)) 1 (mI S 1 + nI 1)
def stN (S : mS) : mS := mI' (mI' S 2 (mI S 2 + nI 1)) 0 (nI 2)
/-- before the pressures are solved for; behind it -/
def stX (S : mS) (np : Nat) (t : UInt64) : mS := mx2 (stC (stB (stA (mI' S 0 (nI 0)) np) np) t)
def stZ (S : mS) (np : Nat) (t : UInt64) : mS := stR (stQ (stF (stK (stV (stM (stP S) np) t np) (4 * np)) 84) 36)
/-- step(t) of the reference -/
def rStep (S : mS) (np R : Nat) (t : UInt64) : Int32 × mS := if okT t then (if 0 ≤ (svF (stX S np t) R).1 then ((svF (stX S np t) R).1, stZ (svF (stX S np t) R).2 np t) else (nI 0, stN (svF (stX S np t) R).2)) else (nI 0, mI' (mI' S 0 (nI 0)) 0 (nI 1))
def gaOk (S : mS) (np : Nat) : Prop := ∀ f, f < 84 → gOkF (ptX (mF S 3)) (ptY (mF S 3)) (fcA (mF S 3) f) (fcX f) (fcY f) np
def foOk (S : mS) (t : UInt64) : Prop := ∀ f, f < 84 → frcOk (mD S 12) t (mD S 4 0) f
def mxOk (S : mS) : Prop := (∀ c, c < 36 → rOk (mA S 1) (mA S 10) (mD S 13) c) ∧ ∀ c, c < 36 → mkOk (mD (mx1 S 36) 14) (mkR (mD (mx1 S 36) 14) (mD S 15) (mA (mx1 S 36) 11) c) (mA (mx1 S 36) 11) c
def pjOkS (S : mS) : Prop := ∀ f, f < 84 → pjOk (mD S 13) (mD S 16) (mA S 1) (mA S 10) f
def miOkS (S : mS) (np : Nat) : Prop := ∀ k, k < np → mixOk S true k ∧ mixOk S false k
def mvOkS (S : mS) (t : UInt64) (np : Nat) : Prop := ∀ k, k < np → mvOk (mD S 13) (movR S t (mF S 21) k) t (mF S 3 (4 * k)) (mF S 3 (4 * k + 1)) k
def stOk1 (S : mS) (np R : Nat) (t : UInt64) : Prop := gaOk (stA (mI' S 0 (nI 0)) np) np ∧ foOk (stB (stA (mI' S 0 (nI 0)) np) np) t ∧ mxOk (stC (stB (stA (mI' S 0 (nI 0)) np) np) t) ∧ sfOk (stX S np t) R
def stOk2 (S : mS) (np : Nat) (t : UInt64) : Prop := pjOkS S ∧ miOkS (stP S) np ∧ mvOkS (stM (stP S) np) t np ∧ rsOk (stQ (stF (stK (stV (stM (stP S) np) t np) (4 * np)) 84) 36)
def stOk (S : mS) (np R : Nat) (t : UInt64) : Prop := okT t = true → stOk1 S np R t ∧ (0 ≤ (svF (stX S np t) R).1 → stOk2 (svF (stX S np t) R).2 np t)
theorem filR_g {α : Type} (G old : Nat → α) (c : Nat) : filR G old (c + 1) = vf_upd (filR G old c) c (G c) := by
  funext i
  unfold filR vf_upd
  by_cases h : i = c
  · subst h; rw [if_pos (by omega), if_pos rfl]
  · rw [if_neg h]
    show ite _ _ _ = ite _ _ _
    by_cases h2 : i < c
    · rw [if_pos (by omega), if_pos h2]
    · rw [if_neg (by omega), if_neg h2]
theorem svT_A (S : mS) (now : UInt64) (j : Nat) : mA (svT S now) j = mA S j := by unfold svT; rw [tuS_A]; unfold svZ; rw [mzS_A, svA_A]
theorem svL_A (j : Nat) : ∀ (n rd : Nat) (S : mS) (now : UInt64), mA (svL n rd S now).2 j = mA S j := by
  intro n
  induction n with
  | zero => intro rd S now; rw [svL]
  | succ n ih =>
    intro rd S now
    rw [svL_s]
    split
    · split
      · split
        · rw [ih, svT_A]
        · show mA (svA S now) j = _
          rw [svA_A]
      · show mA (tmS S) j = _
        rw [tmS_A]
    · rfl
theorem svF_A (S : mS) (R j : Nat) : mA (svF S R).2 j = mA S j := by
  unfold svF
  split
  · rw [svL_A, cpS_A, mzS_A]
  · rfl
theorem mx1_2 (S : mS) (c : Nat) : mA (mx1 S c) 2 = mA S 2 := rfl
theorem mx1_7 (S : mS) (c : Nat) : mA (mx1 S c) 7 = mA S 7 := rfl
theorem mx2_2 (S : mS) : mA (mx2 S) 2 = mA S 2 := by
  have h : ∀ (Z : mS) (f : Nat → UInt64), mA (mD' Z 15 f) 2 = mA Z 2 := fun _ _ => rfl
  unfold mx2
  rw [h, mx1_2]
theorem mx2_7 (S : mS) : mA (mx2 S) 7 = mA S 7 := by
  have h : ∀ (Z : mS) (f : Nat → UInt64), mA (mD' Z 15 f) 7 = mA Z 7 := fun _ _ => rfl
  unfold mx2
  rw [h, mx1_7]
theorem stA_A (S : mS) (np : Nat) : mA (stA S np) 2 = mA S 2 := rfl
theorem stA_7 (S : mS) (np : Nat) : mA (stA S np) 7 = mA S 7 := rfl
theorem stB_A (S : mS) (np j : Nat) : mA (stB S np) j = mA S j := rfl
theorem stC_A (S : mS) (t : UInt64) (j : Nat) : mA (stC S t) j = mA S j := rfl
theorem stX_2 (S : mS) (np : Nat) (t : UInt64) : mA (stX S np t) 2 = mA S 2 := by unfold stX; rw [mx2_2, stC_A, stB_A, stA_A]
theorem stX_7 (S : mS) (np : Nat) (t : UInt64) : mA (stX S np t) 7 = mA S 7 := by unfold stX; rw [mx2_7, stC_A, stB_A, stA_7]
theorem stP_A (S : mS) (j : Nat) : mA (stP S) j = mA S j := rfl
theorem stM_A (S : mS) (np j : Nat) : mA (stM S np) j = mA S j := rfl
theorem stV_A (S : mS) (t : UInt64) (np j : Nat) : mA (stV S t np) j = mA S j := rfl
theorem stM_0 (S : mS) : mW (stM S 0) = mW S := rfl
theorem stV_0 (S : mS) (t : UInt64) : mW (stV S t 0) = mW S := rfl
theorem stK_0 (S : mS) : mW (stK S 0) = mW S := by unfold stK; rw [filR_0]; rfl
theorem stF_0 (S : mS) : mW (stF S 0) = mW S := by unfold stF; rw [filR_0]; rfl
theorem stQ_0 (S : mS) : mW (stQ S 0) = mW S := by unfold stQ; rw [filR_0]; rfl
section M17
variable {l : Launch} {D : va_G} {ad : Nat → Nat} {cy : Nat → ClassId}
def s_matrix (st : List Value) (aw : xA) (k : List Value → xA → Prop) : Prop := match st with
  | .ref 0 :: st => match xsm st with
    | true => ∃ S : mS, aw = mW S ∧ mxOk S ∧ k st (mW (mx2 S))
    | false => False
  | _ => False
theorem e_matrix {d : Nat} (hd : 3 ≤ d) : xEnt l d D ad cy RX5 358 s_matrix := xEnt_V (y' := yX5_matrix) (cc' := cX5_matrix) (n' := 7) (ret' := none) (d' := 2) (j := 179) 0 (by decide +kernel) (by decide +kernel) (by omega) (fun st aw k h => by
  match st, h with
  | .ref 0 :: st, h =>
    cases hs : xsm st with
    | false => simp only [s_matrix, hs] at h
    | true =>
      simp only [s_matrix, hs] at h
      obtain ⟨S, rfl, hok, h2⟩ := h
      exact ⟨[], st, _, 0, 5, _, rfl, rfl, hs, rfl, ⟨_, rfl, rfl⟩, m_matrix S hok.1 hok.2, fun vs aw' h9 => by obtain ⟨rfl, rfl⟩ := h9; exact h2⟩)
set_option maxRecDepth 100000 in
set_option maxHeartbeats 4000000 in
theorem st_0 (Q : mS) (q : Int32) (WC : xC → xO → List Value → xA → Prop) (hW : xSys xL_X5_step (xlk xfl5) (xlk xcl5) (xCt [(178, s_fail), (338, s_mark), (344, s_gather), (350, s_force), (358, s_matrix), (364, s_solve), (378, s_project), (384, s_mixed), (392, s_move), (276, s_rests)]) (xRt (some .int) (fun vs aw' => vs = [.int q] ∧ aw' = mW Q)) WC) (S : mS) (t : UInt64) (bad : okT t = false → (q, Q) = (nI 0, mI' (mI' S 0 (nI 0)) 0 (nI 1))) (next : okT t = true → WC (xL_X5_step.drop 15) [some (.ref 0), some (.double t), none, none, none] [] (mW (mI' S 0 (nI 0)))) : WC (xL_X5_step.drop 0) [some (.ref 0), some (.double t), none, none, none] [] (mW (S)) := by
  have fl : okT t = false → WC (xL_X5_step.drop 11) [some (.ref 0), some (.double t), none, none, none] [] (mW (mI' S 0 (nI 0))) := by
    intro h
    have e := bad h
    refine hW.1 (fun _ => false) 200 11 _ _ _ ?_
    refine ⟨mI' S 0 (nI 0), rfl, ?_⟩
    exact And.intro (by rw [(Prod.mk.inj e).1]) (by rw [(Prod.mk.inj e).2])
  refine hW.1 (fun pc => Nat.beq pc 17 || Nat.beq pc 23) 200 0 _ _ _ ?_
  refine And.intro (fun h1 => fl (by unfold okT; rw [if_pos h1])) (fun h1 => ?_)
  refine And.intro (fun h2 => next (by unfold okT; rw [if_neg h1]; exact decide_eq_true h2)) (fun h2 => fl (by unfold okT; rw [if_neg h1]; exact decide_eq_false h2))
set_option maxRecDepth 100000 in
set_option maxHeartbeats 4000000 in
theorem st_1 (Q : mS) (q : Int32) (WC : xC → xO → List Value → xA → Prop) (hW : xSys xL_X5_step (xlk xfl5) (xlk xcl5) (xCt [(178, s_fail), (338, s_mark), (344, s_gather), (350, s_force), (358, s_matrix), (364, s_solve), (378, s_project), (384, s_mixed), (392, s_move), (276, s_rests)]) (xRt (some .int) (fun vs aw' => vs = [.int q] ∧ aw' = mW Q)) WC) (S : mS) (t : UInt64) (np : Nat) (hnp : mA S 2 0 = nI np) (h24 : np ≤ 24) (hI : inP (mF S 3) np) (next : WC (xL_X5_step.drop 17) [some (.ref 0), some (.double t), none, none, none] [] (mW (stA S np))) : WC (xL_X5_step.drop 15) [some (.ref 0), some (.double t), none, none, none] [] (mW (S)) := by
  refine hW.1 (fun pc => Nat.beq pc 27) 200 15 _ _ _ ?_
  exact ⟨S, np, rfl, hnp, h24, hI, next⟩
set_option maxRecDepth 100000 in
set_option maxHeartbeats 4000000 in
theorem st_2 (Q : mS) (q : Int32) (WC : xC → xO → List Value → xA → Prop) (hW : xSys xL_X5_step (xlk xfl5) (xlk xcl5) (xCt [(178, s_fail), (338, s_mark), (344, s_gather), (350, s_force), (358, s_matrix), (364, s_solve), (378, s_project), (384, s_mixed), (392, s_move), (276, s_rests)]) (xRt (some .int) (fun vs aw' => vs = [.int q] ∧ aw' = mW Q)) WC) (S : mS) (t : UInt64) (np : Nat) (hnp : mA S 2 0 = nI np) (h24 : np ≤ 24) (ok : gaOk S np) (next : WC (xL_X5_step.drop 19) [some (.ref 0), some (.double t), none, none, none] [] (mW (stB S np))) : WC (xL_X5_step.drop 17) [some (.ref 0), some (.double t), none, none, none] [] (mW (S)) := by
  refine hW.1 (fun pc => Nat.beq pc 31) 200 17 _ _ _ ?_
  exact ⟨S, np, rfl, hnp, h24, ok, next⟩
set_option maxRecDepth 100000 in
set_option maxHeartbeats 4000000 in
theorem st_3 (Q : mS) (q : Int32) (WC : xC → xO → List Value → xA → Prop) (hW : xSys xL_X5_step (xlk xfl5) (xlk xcl5) (xCt [(178, s_fail), (338, s_mark), (344, s_gather), (350, s_force), (358, s_matrix), (364, s_solve), (378, s_project), (384, s_mixed), (392, s_move), (276, s_rests)]) (xRt (some .int) (fun vs aw' => vs = [.int q] ∧ aw' = mW Q)) WC) (S : mS) (t : UInt64) (ok : foOk S t) (next : WC (xL_X5_step.drop 22) [some (.ref 0), some (.double t), none, none, none] [] (mW (stC S t))) : WC (xL_X5_step.drop 19) [some (.ref 0), some (.double t), none, none, none] [] (mW (S)) := by
  refine hW.1 (fun pc => Nat.beq pc 36) 200 19 _ _ _ ?_
  exact ⟨S, rfl, ok, next⟩
set_option maxRecDepth 100000 in
set_option maxHeartbeats 4000000 in
theorem st_4 (Q : mS) (q : Int32) (WC : xC → xO → List Value → xA → Prop) (hW : xSys xL_X5_step (xlk xfl5) (xlk xcl5) (xCt [(178, s_fail), (338, s_mark), (344, s_gather), (350, s_force), (358, s_matrix), (364, s_solve), (378, s_project), (384, s_mixed), (392, s_move), (276, s_rests)]) (xRt (some .int) (fun vs aw' => vs = [.int q] ∧ aw' = mW Q)) WC) (S : mS) (t : UInt64) (ok : mxOk S) (next : WC (xL_X5_step.drop 24) [some (.ref 0), some (.double t), none, none, none] [] (mW (mx2 S))) : WC (xL_X5_step.drop 22) [some (.ref 0), some (.double t), none, none, none] [] (mW (S)) := by
  refine hW.1 (fun pc => Nat.beq pc 40) 200 22 _ _ _ ?_
  exact ⟨S, rfl, ok, next⟩
set_option maxRecDepth 100000 in
set_option maxHeartbeats 4000000 in
theorem st_5 (Q : mS) (q : Int32) (WC : xC → xO → List Value → xA → Prop) (hW : xSys xL_X5_step (xlk xfl5) (xlk xcl5) (xCt [(178, s_fail), (338, s_mark), (344, s_gather), (350, s_force), (358, s_matrix), (364, s_solve), (378, s_project), (384, s_mixed), (392, s_move), (276, s_rests)]) (xRt (some .int) (fun vs aw' => vs = [.int q] ∧ aw' = mW Q)) WC) (S : mS) (t : UInt64) (R : Nat) (hR : mA S 7 0 = nI R) (h40 : R ≤ 40) (ok : sfOk S R) (next : WC (xL_X5_step.drop 27) [some (.ref 0), some (.double t), none, some (.int ((svF S R).1)), none] [] (mW ((svF S R).2))) : WC (xL_X5_step.drop 24) [some (.ref 0), some (.double t), none, none, none] [] (mW (S)) := by
  refine hW.1 (fun pc => Nat.beq pc 45) 200 24 _ _ _ ?_
  exact ⟨S, R, rfl, hR, h40, ok, next⟩
set_option maxRecDepth 100000 in
set_option maxHeartbeats 4000000 in
theorem st_6 (Q : mS) (q : Int32) (WC : xC → xO → List Value → xA → Prop) (hW : xSys xL_X5_step (xlk xfl5) (xlk xcl5) (xCt [(178, s_fail), (338, s_mark), (344, s_gather), (350, s_force), (358, s_matrix), (364, s_solve), (378, s_project), (384, s_mixed), (392, s_move), (276, s_rests)]) (xRt (some .int) (fun vs aw' => vs = [.int q] ∧ aw' = mW Q)) WC) (S : mS) (t : UInt64) (r : Int32) (bad : ¬ 0 ≤ r → (q, Q) = (nI 0, stN S)) (next : 0 ≤ r → WC (xL_X5_step.drop 39) [some (.ref 0), some (.double t), none, some (.int (r)), none] [] (mW (S))) : WC (xL_X5_step.drop 27) [some (.ref 0), some (.double t), none, some (.int (r)), none] [] (mW (S)) := by
  refine hW.1 (fun pc => Nat.beq pc 65) 200 27 _ _ _ ?_
  refine And.intro (fun h1 => next h1) (fun h1 => ?_)
  have e := bad h1
  refine ⟨mI' S 2 (mI S 2 + nI 1), rfl, ?_⟩
  exact And.intro (by rw [(Prod.mk.inj e).1]) (by rw [(Prod.mk.inj e).2]; rfl)
set_option maxRecDepth 100000 in
set_option maxHeartbeats 4000000 in
theorem st_7 (Q : mS) (q : Int32) (WC : xC → xO → List Value → xA → Prop) (hW : xSys xL_X5_step (xlk xfl5) (xlk xcl5) (xCt [(178, s_fail), (338, s_mark), (344, s_gather), (350, s_force), (358, s_matrix), (364, s_solve), (378, s_project), (384, s_mixed), (392, s_move), (276, s_rests)]) (xRt (some .int) (fun vs aw' => vs = [.int q] ∧ aw' = mW Q)) WC) (S : mS) (t : UInt64) (r : Int32) (ok : pjOkS S) (next : WC (xL_X5_step.drop 43) [some (.ref 0), some (.double t), none, some (.int (r)), some (.int (nI 0))] [] (mW (stP S))) : WC (xL_X5_step.drop 39) [some (.ref 0), some (.double t), none, some (.int (r)), none] [] (mW (S)) := by
  refine hW.1 (fun pc => Nat.beq pc 72) 200 39 _ _ _ ?_
  exact ⟨S, rfl, ok, next⟩
theorem mixF_N (S : mS) (N : Nat → UInt32) (u : Bool) (k : Nat) : mixF (mF' S 21 N) u k = mixF S u k := rfl
theorem mixOk_N (S : mS) (N : Nat → UInt32) (u : Bool) (k : Nat) (h : mixOk S u k) : mixOk (mF' S 21 N) u k := h
set_option maxRecDepth 100000 in
set_option maxHeartbeats 4000000 in
theorem st_8b (Q : mS) (q : Int32) (WC : xC → xO → List Value → xA → Prop) (hW : xSys xL_X5_step (xlk xfl5) (xlk xcl5) (xCt [(178, s_fail), (338, s_mark), (344, s_gather), (350, s_force), (358, s_matrix), (364, s_solve), (378, s_project), (384, s_mixed), (392, s_move), (276, s_rests)]) (xRt (some .int) (fun vs aw' => vs = [.int q] ∧ aw' = mW Q)) WC) (S : mS) (t : UInt64) (r : Int32) (k : Nat) (hk : k < 24) (N : Nat → UInt32) (ok : mixOk S false k) (next : WC (xL_X5_step.drop 43) [some (.ref 0), some (.double t), none, some (.int (r)), some (.int (nI k + nI 1))] [] (mW (mF' S 21 (vf_upd N (4 * k + 3) (mixF S false k))))) : WC (xL_X5_step.drop 61) [some (.ref 0), some (.double t), none, some (.int (r)), some (.int (nI k))] [] (mW (mF' S 21 N)) := by
  have o := mixOk_N S N false k ok
  rw [← mixF_N S N] at next
  refine hW.1 (fun pc => Nat.beq pc 72) 200 61 _ _ _ ?_
  refine ⟨mF' S 21 N, false, k, rfl, rfl, rfl, hk, o, ?_⟩
  generalize mixF (mF' S 21 N) false k = v at next ⊢
  refine ⟨4 * k + 3, by rw [pk_mul, nI_add], by omega, by decide, ?_⟩
  exact next
set_option maxRecDepth 100000 in
set_option maxHeartbeats 4000000 in
theorem st_8a (Q : mS) (q : Int32) (WC : xC → xO → List Value → xA → Prop) (hW : xSys xL_X5_step (xlk xfl5) (xlk xcl5) (xCt [(178, s_fail), (338, s_mark), (344, s_gather), (350, s_force), (358, s_matrix), (364, s_solve), (378, s_project), (384, s_mixed), (392, s_move), (276, s_rests)]) (xRt (some .int) (fun vs aw' => vs = [.int q] ∧ aw' = mW Q)) WC) (S : mS) (t : UInt64) (r : Int32) (k : Nat) (hk : k < 24) (N : Nat → UInt32) (hlt : ¬ mA S 2 0 ≤ nI k) (ok : mixOk S true k) (next : WC (xL_X5_step.drop 61) [some (.ref 0), some (.double t), none, some (.int (r)), some (.int (nI k))] [] (mW (mF' S 21 (vf_upd N (4 * k + 2) (mixF S true k))))) : WC (xL_X5_step.drop 43) [some (.ref 0), some (.double t), none, some (.int (r)), some (.int (nI k))] [] (mW (mF' S 21 N)) := by
  have o := mixOk_N S N true k ok
  rw [← mixF_N S N] at next
  refine hW.1 (fun pc => Nat.beq pc 72 || Nat.beq pc 101) 200 43 _ _ _ ?_
  refine ⟨0, rfl, by decide, by decide, ?_⟩
  refine And.intro (fun h1 => absurd h1 hlt) (fun h1 => ?_)
  refine ⟨mF' S 21 N, true, k, rfl, rfl, rfl, hk, o, ?_⟩
  generalize mixF (mF' S 21 N) true k = v at next ⊢
  refine ⟨4 * k + 2, by rw [pk_mul, nI_add], by omega, by decide, ?_⟩
  exact next
set_option maxRecDepth 100000 in
set_option maxHeartbeats 4000000 in
theorem st_8 (Q : mS) (q : Int32) (WC : xC → xO → List Value → xA → Prop) (hW : xSys xL_X5_step (xlk xfl5) (xlk xcl5) (xCt [(178, s_fail), (338, s_mark), (344, s_gather), (350, s_force), (358, s_matrix), (364, s_solve), (378, s_project), (384, s_mixed), (392, s_move), (276, s_rests)]) (xRt (some .int) (fun vs aw' => vs = [.int q] ∧ aw' = mW Q)) WC) (S : mS) (t : UInt64) (r : Int32) (np : Nat) (hnp : mA S 2 0 = nI np) (h24 : np ≤ 24) (ok : miOkS S np) (next : WC (xL_X5_step.drop 77) [some (.ref 0), some (.double t), none, some (.int (r)), some (.int (nI 0))] [] (mW (stM S np))) : ∀ (n k : Nat), k + n = np → WC (xL_X5_step.drop 43) [some (.ref 0), some (.double t), none, some (.int (r)), some (.int (nI k))] [] (mW (stM S k)) := by
  intro n
  induction n with
  | zero =>
    intro k hk
    have : k = np := by omega
    subst this
    refine hW.1 (fun pc => Nat.beq pc 72 || Nat.beq pc 128) 200 43 _ _ _ ?_
    refine ⟨0, rfl, by decide, by decide, ?_⟩
    refine And.intro (fun h1 => next) (fun h1 => absurd ?_ h1)
    show mA S 2 0 ≤ nI k
    rw [hnp]
    exact Int32.le_refl _
  | succ n ih =>
    intro k hk
    have ih' := ih (k + 1) (by omega)
    have e1 : nI k + nI 1 = nI (k + 1) := nI_add k 1
    rw [← e1] at ih'
    obtain ⟨o1, o2⟩ := ok k (by omega)
    have ih' : WC (xL_X5_step.drop 43) [some (.ref 0), some (.double t), none, some (.int (r)), some (.int (nI k + nI 1))] [] (mW (mF' S 21 (vf_upd (vf_upd (mixR S (mF S 21) k) (4 * k + 2) (mixF S true k)) (4 * k + 3) (mixF S false k)))) := ih'
    have hlt : ¬ mA S 2 0 ≤ nI k := by rw [hnp]; exact nI_ge (by omega) (by omega)
    unfold stM
    exact st_8a Q q WC hW S t r k (by omega) _ hlt o1 (st_8b Q q WC hW S t r k (by omega) _ o2 ih')
set_option maxRecDepth 100000 in
set_option maxHeartbeats 4000000 in
theorem st_9 (Q : mS) (q : Int32) (WC : xC → xO → List Value → xA → Prop) (hW : xSys xL_X5_step (xlk xfl5) (xlk xcl5) (xCt [(178, s_fail), (338, s_mark), (344, s_gather), (350, s_force), (358, s_matrix), (364, s_solve), (378, s_project), (384, s_mixed), (392, s_move), (276, s_rests)]) (xRt (some .int) (fun vs aw' => vs = [.int q] ∧ aw' = mW Q)) WC) (S : mS) (t : UInt64) (r : Int32) (np : Nat) (hnp : mA S 2 0 = nI np) (h24 : np ≤ 24) (ok : mvOkS S t np) (next : WC (xL_X5_step.drop 91) [some (.ref 0), some (.double t), none, some (.int (r)), some (.int (nI 0))] [] (mW (stV S t np))) : ∀ (n k : Nat), k + n = np → WC (xL_X5_step.drop 77) [some (.ref 0), some (.double t), none, some (.int (r)), some (.int (nI k))] [] (mW (stV S t k)) := by
  intro n
  induction n with
  | zero =>
    intro k hk
    have : k = np := by omega
    subst this
    refine hW.1 (fun pc => Nat.beq pc 128 || Nat.beq pc 155) 200 77 _ _ _ ?_
    refine ⟨0, rfl, by decide, by decide, ?_⟩
    refine And.intro (fun h1 => next) (fun h1 => absurd ?_ h1)
    show mA S 2 0 ≤ nI k
    rw [hnp]
    exact Int32.le_refl _
  | succ n ih =>
    intro k hk
    have ih' := ih (k + 1) (by omega)
    have e1 : nI k + nI 1 = nI (k + 1) := nI_add k 1
    rw [← e1] at ih'
    have o1 := ok k (by omega)
    have ih' : WC (xL_X5_step.drop 77) [some (.ref 0), some (.double t), none, some (.int (r)), some (.int (nI k + nI 1))] [] (mW (mF' S 21 (mvF (mD S 13) (movR S t (mF S 21) k) (mA S 1) t (mF S 3 (4 * k)) (mF S 3 (4 * k + 1)) k))) := ih'
    have hlt : ¬ mA S 2 0 ≤ nI k := by rw [hnp]; exact nI_ge (by omega) (by omega)
    unfold stV
    generalize movR S t (mF S 21) k = N at o1 ih' ⊢
    refine hW.1 (fun pc => Nat.beq pc 128) 200 77 _ _ _ ?_
    refine ⟨0, rfl, by decide, by decide, ?_⟩
    refine And.intro (fun h1 => absurd h1 hlt) (fun h1 => ?_)
    refine ⟨mF' S 21 N, k, rfl, rfl, by omega, o1, ?_⟩
    exact ih'
set_option maxRecDepth 100000 in
set_option maxHeartbeats 4000000 in
theorem st_a (Q : mS) (q : Int32) (WC : xC → xO → List Value → xA → Prop) (hW : xSys xL_X5_step (xlk xfl5) (xlk xcl5) (xCt [(178, s_fail), (338, s_mark), (344, s_gather), (350, s_force), (358, s_matrix), (364, s_solve), (378, s_project), (384, s_mixed), (392, s_move), (276, s_rests)]) (xRt (some .int) (fun vs aw' => vs = [.int q] ∧ aw' = mW Q)) WC) (S : mS) (t : UInt64) (r : Int32) (np : Nat) (hnp : mA S 2 0 = nI np) (h24 : np ≤ 24) (next : WC (xL_X5_step.drop 111) [some (.ref 0), some (.double t), none, some (.int (r)), some (.int (nI 0))] [] (mW (stK S (4 * np)))) : ∀ (n k : Nat), k + n = 4 * np → WC (xL_X5_step.drop 91) [some (.ref 0), some (.double t), none, some (.int (r)), some (.int (nI k))] [] (mW (stK S k)) := by
  have e4 : nI 4 * mA S 2 0 = nI (4 * np) := by rw [hnp, pk_mul]
  intro n
  induction n with
  | zero =>
    intro k hk
    have : k = 4 * np := by omega
    subst this
    refine hW.1 (fun pc => Nat.beq pc 155 || Nat.beq pc 191) 200 91 _ _ _ ?_
    refine ⟨0, rfl, by decide, by decide, ?_⟩
    refine And.intro (fun h1 => next) (fun h1 => absurd ?_ h1)
    show nI 4 * mA S 2 0 ≤ nI (4 * np)
    rw [e4]
    exact Int32.le_refl _
  | succ n ih =>
    intro k hk
    have ih' := ih (k + 1) (by omega)
    have e1 : nI k + nI 1 = nI (k + 1) := nI_add k 1
    unfold stK at ih'
    rw [← e1, filR_g] at ih'
    have hlt : ¬ nI 4 * mA S 2 0 ≤ nI k := by rw [e4]; exact nI_ge (by omega) (by omega)
    unfold stK
    refine hW.1 (fun pc => Nat.beq pc 155) 200 91 _ _ _ ?_
    refine ⟨0, rfl, by decide, by decide, ?_⟩
    refine And.intro (fun h1 => absurd h1 hlt) (fun h1 => ?_)
    refine ⟨k, rfl, by omega, by decide, ?_⟩
    refine ⟨k, rfl, by omega, by decide, ?_⟩
    exact ih'
set_option maxRecDepth 100000 in
set_option maxHeartbeats 4000000 in
theorem st_b (Q : mS) (q : Int32) (WC : xC → xO → List Value → xA → Prop) (hW : xSys xL_X5_step (xlk xfl5) (xlk xcl5) (xCt [(178, s_fail), (338, s_mark), (344, s_gather), (350, s_force), (358, s_matrix), (364, s_solve), (378, s_project), (384, s_mixed), (392, s_move), (276, s_rests)]) (xRt (some .int) (fun vs aw' => vs = [.int q] ∧ aw' = mW Q)) WC) (S : mS) (t : UInt64) (r : Int32) (next : WC (xL_X5_step.drop 126) [some (.ref 0), some (.double t), none, some (.int (r)), some (.int (nI 0))] [] (mW (stF S 84))) : ∀ (n k : Nat), k + n = 84 → WC (xL_X5_step.drop 111) [some (.ref 0), some (.double t), none, some (.int (r)), some (.int (nI k))] [] (mW (stF S k)) := by
  intro n
  induction n with
  | zero =>
    intro k hk
    have : k = 84 := by omega
    subst this
    refine hW.1 (fun pc => Nat.beq pc 191 || Nat.beq pc 221) 200 111 _ _ _ ?_
    exact And.intro (fun h1 => next) (fun h1 => absurd (Int32.le_refl _) h1)
  | succ n ih =>
    intro k hk
    have ih' := ih (k + 1) (by omega)
    have e1 : nI k + nI 1 = nI (k + 1) := nI_add k 1
    unfold stF at ih'
    rw [← e1, filR_g] at ih'
    unfold stF
    refine hW.1 (fun pc => Nat.beq pc 191) 200 111 _ _ _ ?_
    refine And.intro (fun h1 => absurd h1 (nI_ge (b := 84) (by omega) (by decide))) (fun h1 => ?_)
    refine ⟨k, rfl, by omega, by decide, ?_⟩
    refine ⟨k, rfl, by omega, by decide, ?_⟩
    exact ih'
set_option maxRecDepth 100000 in
set_option maxHeartbeats 4000000 in
theorem st_c (Q : mS) (q : Int32) (WC : xC → xO → List Value → xA → Prop) (hW : xSys xL_X5_step (xlk xfl5) (xlk xcl5) (xCt [(178, s_fail), (338, s_mark), (344, s_gather), (350, s_force), (358, s_matrix), (364, s_solve), (378, s_project), (384, s_mixed), (392, s_move), (276, s_rests)]) (xRt (some .int) (fun vs aw' => vs = [.int q] ∧ aw' = mW Q)) WC) (S : mS) (t : UInt64) (r : Int32) (next : WC (xL_X5_step.drop 139) [some (.ref 0), some (.double t), none, some (.int (r)), none] [] (mW (stQ S 36))) : ∀ (n k : Nat), k + n = 36 → WC (xL_X5_step.drop 126) [some (.ref 0), some (.double t), none, some (.int (r)), some (.int (nI k))] [] (mW (stQ S k)) := by
  intro n
  induction n with
  | zero =>
    intro k hk
    have : k = 36 := by omega
    subst this
    refine hW.1 (fun pc => Nat.beq pc 221 || Nat.beq pc 248) 200 126 _ _ _ ?_
    refine And.intro (fun h1 => ?_) (fun h1 => absurd (Int32.le_refl _) h1)
    refine hW.2 139 _ _ _ _ ?_ ?_ next
    · exact And.intro rfl (And.intro rfl (And.intro rfl (trivial)))
    · rfl
  | succ n ih =>
    intro k hk
    have ih' := ih (k + 1) (by omega)
    have e1 : nI k + nI 1 = nI (k + 1) := nI_add k 1
    unfold stQ at ih'
    rw [← e1, filR_g] at ih'
    unfold stQ
    refine hW.1 (fun pc => Nat.beq pc 221) 200 126 _ _ _ ?_
    refine And.intro (fun h1 => absurd h1 (nI_ge (b := 36) (by omega) (by decide))) (fun h1 => ?_)
    refine ⟨k, rfl, by omega, by decide, ?_⟩
    refine ⟨k, rfl, by omega, by decide, ?_⟩
    exact ih'
set_option maxRecDepth 100000 in
set_option maxHeartbeats 4000000 in
theorem st_d (Q : mS) (q : Int32) (WC : xC → xO → List Value → xA → Prop) (hW : xSys xL_X5_step (xlk xfl5) (xlk xcl5) (xCt [(178, s_fail), (338, s_mark), (344, s_gather), (350, s_force), (358, s_matrix), (364, s_solve), (378, s_project), (384, s_mixed), (392, s_move), (276, s_rests)]) (xRt (some .int) (fun vs aw' => vs = [.int q] ∧ aw' = mW Q)) WC) (S : mS) (t : UInt64) (r : Int32) (ok : rsOk S) (e : (q, Q) = (r, stR S)) : WC (xL_X5_step.drop 139) [some (.ref 0), some (.double t), none, some (.int (r)), none] [] (mW (S)) := by
  refine hW.1 (fun _ => false) 200 139 _ _ _ ?_
  refine ⟨S, rfl, ok, ?_⟩
  exact And.intro (by rw [(Prod.mk.inj e).1]) (by rw [(Prod.mk.inj e).2]; rfl)
theorem m_step (S : mS) (np R : Nat) (hnp : mA S 2 0 = nI np) (h24 : np ≤ 24) (hI : inP (mF S 3) np) (hR : mA S 7 0 = nI R) (h40 : R ≤ 40) (t : UInt64) (hok : stOk S np R t) : xMet l yX5_step cX5_step 5 (some .int) 4 D ad cy [.ref 0, .double t] (mW S) (fun vs aw' => vs = [.int (rStep S np R t).1] ∧ aw' = mW (rStep S np R t).2) := by
  refine xmet (Fd := xlk xfl5) (Cn := xlk xcl5) (Cl := xCt [(178, s_fail), (338, s_mark), (344, s_gather), (350, s_force), (358, s_matrix), (364, s_solve), (378, s_project), (384, s_mixed), (392, s_move), (276, s_rests)]) (by decide) xk_X5_step xt_X5_step ⟨_, _, rfl, rfl⟩ xpl5 (xEnt_ok (List.forall_mem_cons.mpr ⟨e_fail (by omega), List.forall_mem_cons.mpr ⟨e_mark (by omega), List.forall_mem_cons.mpr ⟨e_gather (by omega), List.forall_mem_cons.mpr ⟨e_force (by omega), List.forall_mem_cons.mpr ⟨e_matrix (by omega), List.forall_mem_cons.mpr ⟨e_solve (by omega), List.forall_mem_cons.mpr ⟨e_project (by omega), List.forall_mem_cons.mpr ⟨e_mixed (by omega), List.forall_mem_cons.mpr ⟨e_move (by omega), List.forall_mem_cons.mpr ⟨e_rests (by omega), fun q h => by cases h⟩⟩⟩⟩⟩⟩⟩⟩⟩⟩)) (Nat.le_of_ble_eq_true rfl) (fun WC hW => ?_)
  refine st_0 _ _ WC hW S t (fun h => by unfold rStep; rw [h]; rfl) (fun h => ?_)
  obtain ⟨⟨o1, o2, o3, o4⟩, o5⟩ := hok h
  refine st_1 _ _ WC hW _ t np hnp h24 hI ?_
  refine st_2 _ _ WC hW _ t np (by rw [stA_A]; exact hnp) h24 o1 ?_
  refine st_3 _ _ WC hW _ t o2 ?_
  refine st_4 _ _ WC hW _ t o3 ?_
  have e2 : mA (svF (stX S np t) R).2 2 0 = nI np := by rw [svF_A, stX_2]; exact hnp
  have e7 : mA (stX S np t) 7 0 = nI R := by rw [stX_7]; exact hR
  refine st_5 _ _ WC hW (stX S np t) t R e7 h40 o4 ?_
  refine st_6 _ _ WC hW _ t _ (fun h2 => by unfold rStep; rw [if_pos h, if_neg h2]) (fun h2 => ?_)
  obtain ⟨p1, p2, p3, p4⟩ := o5 h2
  have he : rStep S np R t = ((svF (stX S np t) R).1, stZ (svF (stX S np t) R).2 np t) := by unfold rStep; rw [if_pos h, if_pos h2]
  unfold stZ at he
  generalize (svF (stX S np t) R).2 = Z at e2 p1 p2 p3 p4 he ⊢
  refine st_7 _ _ WC hW Z t _ p1 ?_
  have h8 := st_8 _ _ WC hW (stP Z) t (svF (stX S np t) R).1 np (by rw [stP_A]; exact e2) h24 p2 ?_ np 0 (by omega)
  · rw [stM_0] at h8; exact h8
  have h9 := st_9 _ _ WC hW (stM (stP Z) np) t (svF (stX S np t) R).1 np (by rw [stM_A, stP_A]; exact e2) h24 p3 ?_ np 0 (by omega)
  · rw [stV_0] at h9; exact h9
  have ha := st_a _ _ WC hW (stV (stM (stP Z) np) t np) t (svF (stX S np t) R).1 np (by rw [stV_A, stM_A, stP_A]; exact e2) h24 ?_ (4 * np) 0 (by omega)
  · rw [stK_0] at ha; exact ha
  generalize stK (stV (stM (stP Z) np) t np) (4 * np) = U at p4 he ⊢
  have hb := st_b _ _ WC hW U t (svF (stX S np t) R).1 ?_ 84 0 (by omega)
  · rw [stF_0] at hb; exact hb
  have hc := st_c _ _ WC hW (stF U 84) t (svF (stX S np t) R).1 ?_ 36 0 (by omega)
  · rw [stQ_0] at hc; exact hc
  exact st_d _ _ WC hW _ t _ p4 he
end M17
