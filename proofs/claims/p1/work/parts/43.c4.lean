/-! the class: multiplyS, makeZ -/
theorem pt_at (tk : Nat → Int32) {i j : Nat} (hi : i < 6) (hj : j < 6) : ptB tk (nI i) (nI j) = decide (tk (6 * j + i) ≠ 0) := by
  unfold ptB
  rw [nI_inB hi hj, if_pos rfl, nI_clamp (by omega), nI_clamp (by omega)]
def mlR (S : cS) : Nat → Nat → UInt64
  | 0 => cD S 33
  | c + 1 => if cA S 27 c = 0 then mlR S c else vf_upd (mlR S c) c (tmV (cD S 28) (cD S 34) (cA S 27) c 4)
def mlS (S : cS) (c : Nat) : cS := cD' S 33 (mlR S c)
def mlOk (S : cS) : Prop := ∀ c, c < 36 → cA S 27 c ≠ 0 → ∀ w, w < 5 → vf_n64 (tmV (cD S 28) (cD S 34) (cA S 27) c w)
/-- the class's rows h and z; cells that take no part keep what they have -/
def fwC (S : cS) : Nat → Nat → UInt64
  | 0 => cD S 32
  | c + 1 => if cA S 27 c = 0 then fwC S c else vf_upd (fwC S c) c (fw2 (cD S 31) (cD S 29) (fwC S c) (cA S 27) c)
def bwC (S : cS) : Nat → Nat → UInt64
  | 0 => cD S 33
  | n + 1 => if cA S 27 (35 - n) = 0 then bwC S n else vf_upd (bwC S n) (35 - n) (bwV (cD S 32) (cD S 29) (bwC S n) (cA S 27) (35 - n))
def zOk1 (S : cS) : Prop := ∀ c, c < 36 → cA S 27 c ≠ 0 → fwOk (cD S 31) (cD S 29) (fwC S c) (cA S 27) c
def zOk2 (S : cS) : Prop := ∀ n, n < 36 → cA S 27 (35 - n) ≠ 0 → bwOk (cD S 32) (cD S 29) (bwC S n) (cA S 27) (35 - n)
section C4
variable {l : Launch} {D : va_G} {ad : Nat → Nat} {cy : Nat → ClassId}
set_option maxRecDepth 100000 in
set_option maxHeartbeats 4000000 in
theorem ml_i (S Q : cS) (WC : xC → xO → List Value → xA → Prop) (hW : xSys xL_X2_multiplyS (xlk xfl2) (xlk xcl2) (xCt [(138, t_isPart), (83, t_cellIndex), (206, t_mts)]) (xRt none (fun vs aw' => vs = [] ∧ aw' = cW Q)) WC) (j : Nat) (hj : j < 6) (i : Nat) (hi : i < 6) (R : Nat → UInt64) (ok : cA S 27 (6 * j + i) ≠ 0 → ∀ w, w < 5 → vf_n64 (tmV (cD S 28) (cD S 34) (cA S 27) (6 * j + i) w)) (n0 : cA S 27 (6 * j + i) = 0 → WC (xL_X2_multiplyS.drop 7) [some (.ref 7), some (.int (nI j)), some (.int (nI i + nI 1))] [] (cW (cD' S 33 R))) (n1 : cA S 27 (6 * j + i) ≠ 0 → WC (xL_X2_multiplyS.drop 7) [some (.ref 7), some (.int (nI j)), some (.int (nI i + nI 1))] [] (cW (cD' S 33 (vf_upd R (6 * j + i) (tmV (cD S 28) (cD S 34) (cA S 27) (6 * j + i) 4))))) : WC (xL_X2_multiplyS.drop 7) [some (.ref 7), some (.int (nI j)), some (.int (nI i))] [] (cW (cD' S 33 R)) := by
  have ec : nI j * nI 6 + nI i = nI (6 * j + i) := by rw [pk_mul, nI_add, Nat.mul_comm]
  refine hW.1 (fun pc => Nat.beq pc 10) 200 7 _ _ _ ?_
  refine And.intro (fun h1 => absurd h1 (nI_ge (b := 6) hi (by decide))) (fun h1 => ?_)
  refine ⟨cD' S 33 R, rfl, ?_⟩
  refine And.intro (fun h2 => ?_) (fun h2 => ?_)
  · have h2 := xb_eq h2
    rw [pt_at _ hi hj] at h2
    exact n0 (Decidable.not_not.mp (of_decide_eq_false h2))
  · have h2 := xb_ne h2
    rw [pt_at _ hi hj] at h2
    have h2 : cA S 27 (6 * j + i) ≠ 0 := of_decide_eq_true h2
    refine ⟨cD' S 33 R, i, j, rfl, rfl, rfl, hi, hj, ok h2, ?_⟩
    refine ⟨6 * j + i, ec, by omega, by decide, ?_⟩
    exact n1 h2
set_option maxRecDepth 100000 in
set_option maxHeartbeats 4000000 in
theorem ml_e (S Q : cS) (WC : xC → xO → List Value → xA → Prop) (hW : xSys xL_X2_multiplyS (xlk xfl2) (xlk xcl2) (xCt [(138, t_isPart), (83, t_cellIndex), (206, t_mts)]) (xRt none (fun vs aw' => vs = [] ∧ aw' = cW Q)) WC) (j : Nat) (next : WC (xL_X2_multiplyS.drop 2) [some (.ref 7), some (.int (nI j + nI 1)), none] [] (cW S)) : WC (xL_X2_multiplyS.drop 7) [some (.ref 7), some (.int (nI j)), some (.int (nI 6))] [] (cW S) := by
  refine hW.1 (fun pc => Nat.beq pc 2 || Nat.beq pc 10) 200 7 _ _ _ ?_
  refine And.intro (fun h1 => ?_) (fun h1 => absurd (Int32.le_refl _) h1)
  refine hW.2 2 _ _ _ _ ?_ ?_ next
  · exact And.intro rfl (And.intro rfl (trivial))
  · rfl
set_option maxRecDepth 100000 in
set_option maxHeartbeats 4000000 in
theorem ml_o (S Q : cS) (WC : xC → xO → List Value → xA → Prop) (hW : xSys xL_X2_multiplyS (xlk xfl2) (xlk xcl2) (xCt [(138, t_isPart), (83, t_cellIndex), (206, t_mts)]) (xRt none (fun vs aw' => vs = [] ∧ aw' = cW Q)) WC) (j : Nat) (hj : j < 6) (next : WC (xL_X2_multiplyS.drop 7) [some (.ref 7), some (.int (nI j)), some (.int (nI 0))] [] (cW S)) : WC (xL_X2_multiplyS.drop 2) [some (.ref 7), some (.int (nI j)), none] [] (cW S) := by
  refine hW.1 (fun pc => Nat.beq pc 2 || Nat.beq pc 10) 200 2 _ _ _ ?_
  exact And.intro (fun h1 => absurd h1 (nI_ge (b := 6) hj (by decide))) (fun h1 => next)
set_option maxRecDepth 100000 in
set_option maxHeartbeats 4000000 in
theorem ml_z (S Q : cS) (WC : xC → xO → List Value → xA → Prop) (hW : xSys xL_X2_multiplyS (xlk xfl2) (xlk xcl2) (xCt [(138, t_isPart), (83, t_cellIndex), (206, t_mts)]) (xRt none (fun vs aw' => vs = [] ∧ aw' = cW Q)) WC) (hQ : S = Q) : WC (xL_X2_multiplyS.drop 2) [some (.ref 7), some (.int (nI 6)), none] [] (cW S) := by
  refine hW.1 (fun pc => Nat.beq pc 2 || Nat.beq pc 10) 200 2 _ _ _ ?_
  exact And.intro (fun h1 => And.intro rfl (by rw [hQ])) (fun h1 => absurd (Int32.le_refl _) h1)
theorem n_multiplyS (S : cS) (hok : mlOk S) : xMet l yX2_multiplyS cX2_multiplyS 3 none 3 D ad cy [.ref 7] (cW S) (fun vs aw' => vs = [] ∧ aw' = cW (mlS S 36)) := by
  refine xmet (Fd := xlk xfl2) (Cn := xlk xcl2) (Cl := xCt [(138, t_isPart), (83, t_cellIndex), (206, t_mts)]) (by decide) xk_X2_multiplyS xt_X2_multiplyS ⟨_, _, rfl, rfl⟩ xpl2 (xEnt_ok (List.forall_mem_cons.mpr ⟨f_isPart2 (by omega), List.forall_mem_cons.mpr ⟨f_cellIndex2 (by omega), List.forall_mem_cons.mpr ⟨f_mts (by omega), fun q h => by cases h⟩⟩⟩)) (Nat.le_of_ble_eq_true rfl) (fun WC hW => ?_)
  have inner : ∀ (j : Nat), j < 6 → WC (xL_X2_multiplyS.drop 2) [some (.ref 7), some (.int (nI j + nI 1)), none] [] (cW (mlS S (6 * j + 6))) → ∀ (n i : Nat), i + n = 6 → WC (xL_X2_multiplyS.drop 7) [some (.ref 7), some (.int (nI j)), some (.int (nI i))] [] (cW (mlS S (6 * j + i))) := by
    intro j hj next n
    induction n with
    | zero =>
      intro i hi
      have : i = 6 := by omega
      subst this
      exact ml_e _ _ WC hW j next
    | succ n ih =>
      intro i hi
      have ih' := ih (i + 1) (by omega)
      have e1 : nI i + nI 1 = nI (i + 1) := nI_add i 1
      rw [← e1] at ih'
      have es : mlR S (6 * j + (i + 1)) = if cA S 27 (6 * j + i) = 0 then mlR S (6 * j + i) else vf_upd (mlR S (6 * j + i)) (6 * j + i) (tmV (cD S 28) (cD S 34) (cA S 27) (6 * j + i) 4) := by rw [show 6 * j + (i + 1) = 6 * j + i + 1 by omega, mlR]
      unfold mlS at ih' ⊢
      rw [es] at ih'
      refine ml_i S _ WC hW j hj i (by omega) _ (hok (6 * j + i) (by omega)) (fun h => ?_) (fun h => ?_)
      · rw [if_pos h] at ih'; exact ih'
      · rw [if_neg h] at ih'; exact ih'
  have outer : ∀ (n j : Nat), j + n = 6 → WC (xL_X2_multiplyS.drop 2) [some (.ref 7), some (.int (nI j)), none] [] (cW (mlS S (6 * j))) := by
    intro n
    induction n with
    | zero =>
      intro j hj
      have : j = 6 := by omega
      subst this
      exact ml_z _ _ WC hW rfl
    | succ n ih =>
      intro j hj
      have ih' := ih (j + 1) (by omega)
      have e1 : nI j + nI 1 = nI (j + 1) := nI_add j 1
      rw [← e1, show 6 * (j + 1) = 6 * j + 6 by omega] at ih'
      exact ml_o _ _ WC hW j (by omega) (inner j (by omega) ih' 6 0 (by omega))
  have h9 := outer 6 0 (by omega)
  have e0 : cW (mlS S (6 * 0)) = cW S := rfl
  rw [e0] at h9
  refine hW.1 (fun pc => Nat.beq pc 2) 200 0 _ _ _ ?_
  exact h9
def t_multiplyS (st : List Value) (aw : xA) (k : List Value → xA → Prop) : Prop := match st with
  | .ref 7 :: st => match xsm st with
    | true => ∃ S : cS, aw = cW S ∧ mlOk S ∧ k st (cW (mlS S 36))
    | false => False
  | _ => False
theorem f_multiplyS {d : Nat} (hd : 4 ≤ d) : xEnt l d D ad cy RX2 182 t_multiplyS := xEnt_V (y' := yX2_multiplyS) (cc' := cX2_multiplyS) (n' := 3) (ret' := none) (d' := 3) (j := 91) 0 (by decide +kernel) (by decide +kernel) (by omega) (fun st aw k h => by
  match st, h with
  | .ref 7 :: st, h =>
    cases hs : xsm st with
    | false => simp only [t_multiplyS, hs] at h
    | true =>
      simp only [t_multiplyS, hs] at h
      obtain ⟨S, rfl, hok, h2⟩ := h
      exact ⟨[], st, _, 7, 2, _, rfl, rfl, hs, rfl, ⟨_, rfl, rfl⟩, n_multiplyS S hok, fun vs aw' h9 => by obtain ⟨rfl, rfl⟩ := h9; exact h2⟩)
end C4
