/-! the class: makeZ -/
def zS1 (S : cS) (c : Nat) : cS := cD' S 32 (fwC S c)
def zS2 (S : cS) (n : Nat) : cS := cD' S 33 (bwC S n)
def mzC (S : cS) : cS := zS2 (zS1 S 36) 36
def mzcOk (S : cS) : Prop := zOk1 S ∧ zOk2 (zS1 S 36)
section C5
variable {l : Launch} {D : va_G} {ad : Nat → Nat} {cy : Nat → ClassId}
set_option maxRecDepth 100000 in
set_option maxHeartbeats 4000000 in
theorem zf_i (S Q : cS) (WC : xC → xO → List Value → xA → Prop) (hW : xSys xL_X2_makeZ (xlk xfl2) (xlk xcl2) (xCt [(138, t_isPart), (83, t_cellIndex), (212, t_forward), (218, t_backward)]) (xRt none (fun vs aw' => vs = [] ∧ aw' = cW Q)) WC) (j : Nat) (hj : j < 6) (i : Nat) (hi : i < 6) (R : Nat → UInt64) (ok : cA S 27 (6 * j + i) ≠ 0 → fwOk (cD S 31) (cD S 29) R (cA S 27) (6 * j + i)) (n0 : cA S 27 (6 * j + i) = 0 → WC (xL_X2_makeZ.drop 7) [some (.ref 7), some (.int (nI j)), some (.int (nI i + nI 1))] [] (cW (cD' S 32 R))) (n1 : cA S 27 (6 * j + i) ≠ 0 → WC (xL_X2_makeZ.drop 7) [some (.ref 7), some (.int (nI j)), some (.int (nI i + nI 1))] [] (cW (cD' S 32 (vf_upd R (6 * j + i) (fw2 (cD S 31) (cD S 29) R (cA S 27) (6 * j + i)))))) : WC (xL_X2_makeZ.drop 7) [some (.ref 7), some (.int (nI j)), some (.int (nI i))] [] (cW (cD' S 32 R)) := by
  have ec : nI j * nI 6 + nI i = nI (6 * j + i) := by rw [pk_mul, nI_add, Nat.mul_comm]
  refine hW.1 (fun pc => Nat.beq pc 10) 200 7 _ _ _ ?_
  refine And.intro (fun h1 => absurd h1 (nI_ge (b := 6) hi (by decide))) (fun h1 => ?_)
  refine ⟨cD' S 32 R, rfl, ?_⟩
  refine And.intro (fun h2 => ?_) (fun h2 => ?_)
  · have h2 := xb_eq h2
    rw [pt_at _ hi hj] at h2
    exact n0 (Decidable.not_not.mp (of_decide_eq_false h2))
  · have h2 := xb_ne h2
    rw [pt_at _ hi hj] at h2
    have h2 : cA S 27 (6 * j + i) ≠ 0 := of_decide_eq_true h2
    refine ⟨cD' S 32 R, i, j, rfl, rfl, rfl, hi, hj, ok h2, ?_⟩
    refine ⟨6 * j + i, ec, by omega, by decide, ?_⟩
    exact n1 h2
set_option maxRecDepth 100000 in
set_option maxHeartbeats 4000000 in
theorem zf_e (S Q : cS) (WC : xC → xO → List Value → xA → Prop) (hW : xSys xL_X2_makeZ (xlk xfl2) (xlk xcl2) (xCt [(138, t_isPart), (83, t_cellIndex), (212, t_forward), (218, t_backward)]) (xRt none (fun vs aw' => vs = [] ∧ aw' = cW Q)) WC) (j : Nat) (next : WC (xL_X2_makeZ.drop 2) [some (.ref 7), some (.int (nI j + nI 1)), none] [] (cW S)) : WC (xL_X2_makeZ.drop 7) [some (.ref 7), some (.int (nI j)), some (.int (nI 6))] [] (cW S) := by
  refine hW.1 (fun pc => Nat.beq pc 2 || Nat.beq pc 10) 200 7 _ _ _ ?_
  refine And.intro (fun h1 => ?_) (fun h1 => absurd (Int32.le_refl _) h1)
  refine hW.2 2 _ _ _ _ ?_ ?_ next
  · exact And.intro rfl (And.intro rfl (trivial))
  · rfl
set_option maxRecDepth 100000 in
set_option maxHeartbeats 4000000 in
theorem zf_o (S Q : cS) (WC : xC → xO → List Value → xA → Prop) (hW : xSys xL_X2_makeZ (xlk xfl2) (xlk xcl2) (xCt [(138, t_isPart), (83, t_cellIndex), (212, t_forward), (218, t_backward)]) (xRt none (fun vs aw' => vs = [] ∧ aw' = cW Q)) WC) (j : Nat) (hj : j < 6) (next : WC (xL_X2_makeZ.drop 7) [some (.ref 7), some (.int (nI j)), some (.int (nI 0))] [] (cW S)) : WC (xL_X2_makeZ.drop 2) [some (.ref 7), some (.int (nI j)), none] [] (cW S) := by
  refine hW.1 (fun pc => Nat.beq pc 2 || Nat.beq pc 10) 200 2 _ _ _ ?_
  exact And.intro (fun h1 => absurd h1 (nI_ge (b := 6) hj (by decide))) (fun h1 => next)
set_option maxRecDepth 100000 in
set_option maxHeartbeats 4000000 in
theorem zf_z (S Q : cS) (WC : xC → xO → List Value → xA → Prop) (hW : xSys xL_X2_makeZ (xlk xfl2) (xlk xcl2) (xCt [(138, t_isPart), (83, t_cellIndex), (212, t_forward), (218, t_backward)]) (xRt none (fun vs aw' => vs = [] ∧ aw' = cW Q)) WC) (next : WC (xL_X2_makeZ.drop 31) [some (.ref 7), some (.int (nI 5)), none] [] (cW S)) : WC (xL_X2_makeZ.drop 2) [some (.ref 7), some (.int (nI 6)), none] [] (cW S) := by
  refine hW.1 (fun pc => Nat.beq pc 2 || Nat.beq pc 10 || Nat.beq pc 55) 200 2 _ _ _ ?_
  exact And.intro (fun h1 => next) (fun h1 => absurd (Int32.le_refl _) h1)
set_option maxRecDepth 100000 in
set_option maxHeartbeats 4000000 in
theorem zb_i (S Q : cS) (WC : xC → xO → List Value → xA → Prop) (hW : xSys xL_X2_makeZ (xlk xfl2) (xlk xcl2) (xCt [(138, t_isPart), (83, t_cellIndex), (212, t_forward), (218, t_backward)]) (xRt none (fun vs aw' => vs = [] ∧ aw' = cW Q)) WC) (j : Nat) (hj : j < 6) (i : Nat) (hi : i < 6) (R : Nat → UInt64) (ok : cA S 27 (6 * j + i) ≠ 0 → bwOk (cD S 32) (cD S 29) R (cA S 27) (6 * j + i)) (n0 : cA S 27 (6 * j + i) = 0 → WC (xL_X2_makeZ.drop 35) [some (.ref 7), some (.int (nI j)), some (.int (nI i + (-1)))] [] (cW (cD' S 33 R))) (n1 : cA S 27 (6 * j + i) ≠ 0 → WC (xL_X2_makeZ.drop 35) [some (.ref 7), some (.int (nI j)), some (.int (nI i + (-1)))] [] (cW (cD' S 33 (vf_upd R (6 * j + i) (bwV (cD S 32) (cD S 29) R (cA S 27) (6 * j + i)))))) : WC (xL_X2_makeZ.drop 35) [some (.ref 7), some (.int (nI j)), some (.int (nI i))] [] (cW (cD' S 33 R)) := by
  have ec : nI j * nI 6 + nI i = nI (6 * j + i) := by rw [pk_mul, nI_add, Nat.mul_comm]
  refine hW.1 (fun pc => Nat.beq pc 61) 200 35 _ _ _ ?_
  refine And.intro (fun h1 => absurd h1 (nI_pos (by omega))) (fun h1 => ?_)
  refine ⟨cD' S 33 R, rfl, ?_⟩
  refine And.intro (fun h2 => ?_) (fun h2 => ?_)
  · have h2 := xb_eq h2
    rw [pt_at _ hi hj] at h2
    exact n0 (Decidable.not_not.mp (of_decide_eq_false h2))
  · have h2 := xb_ne h2
    rw [pt_at _ hi hj] at h2
    have h2 : cA S 27 (6 * j + i) ≠ 0 := of_decide_eq_true h2
    refine ⟨cD' S 33 R, i, j, rfl, rfl, rfl, hi, hj, h2, ok h2, ?_⟩
    refine ⟨6 * j + i, ec, by omega, by decide, ?_⟩
    exact n1 h2
set_option maxRecDepth 100000 in
set_option maxHeartbeats 4000000 in
theorem zb_e (S Q : cS) (WC : xC → xO → List Value → xA → Prop) (hW : xSys xL_X2_makeZ (xlk xfl2) (xlk xcl2) (xCt [(138, t_isPart), (83, t_cellIndex), (212, t_forward), (218, t_backward)]) (xRt none (fun vs aw' => vs = [] ∧ aw' = cW Q)) WC) (j : Nat) (next : WC (xL_X2_makeZ.drop 31) [some (.ref 7), some (.int (nI j + (-1))), none] [] (cW S)) : WC (xL_X2_makeZ.drop 35) [some (.ref 7), some (.int (nI j)), some (.int (nI 0 + (-1)))] [] (cW S) := by
  refine hW.1 (fun pc => Nat.beq pc 55 || Nat.beq pc 61) 200 35 _ _ _ ?_
  refine And.intro (fun h1 => ?_) (fun h1 => absurd (by decide) h1)
  refine hW.2 31 _ _ _ _ ?_ ?_ next
  · exact And.intro rfl (And.intro rfl (trivial))
  · rfl
set_option maxRecDepth 100000 in
set_option maxHeartbeats 4000000 in
theorem zb_o (S Q : cS) (WC : xC → xO → List Value → xA → Prop) (hW : xSys xL_X2_makeZ (xlk xfl2) (xlk xcl2) (xCt [(138, t_isPart), (83, t_cellIndex), (212, t_forward), (218, t_backward)]) (xRt none (fun vs aw' => vs = [] ∧ aw' = cW Q)) WC) (j : Nat) (hj : j < 6) (next : WC (xL_X2_makeZ.drop 35) [some (.ref 7), some (.int (nI j)), some (.int (nI 5))] [] (cW S)) : WC (xL_X2_makeZ.drop 31) [some (.ref 7), some (.int (nI j)), none] [] (cW S) := by
  refine hW.1 (fun pc => Nat.beq pc 55 || Nat.beq pc 61) 200 31 _ _ _ ?_
  exact And.intro (fun h1 => absurd h1 (nI_pos (by omega))) (fun h1 => next)
set_option maxRecDepth 100000 in
set_option maxHeartbeats 4000000 in
theorem zb_z (S Q : cS) (WC : xC → xO → List Value → xA → Prop) (hW : xSys xL_X2_makeZ (xlk xfl2) (xlk xcl2) (xCt [(138, t_isPart), (83, t_cellIndex), (212, t_forward), (218, t_backward)]) (xRt none (fun vs aw' => vs = [] ∧ aw' = cW Q)) WC) (hQ : S = Q) : WC (xL_X2_makeZ.drop 31) [some (.ref 7), some (.int (nI 0 + (-1))), none] [] (cW S) := by
  refine hW.1 (fun pc => Nat.beq pc 55 || Nat.beq pc 61) 200 31 _ _ _ ?_
  exact And.intro (fun h1 => And.intro rfl (by rw [hQ])) (fun h1 => absurd (by decide) h1)
theorem zb_all (S Q : cS) (WC : xC → xO → List Value → xA → Prop) (hW : xSys xL_X2_makeZ (xlk xfl2) (xlk xcl2) (xCt [(138, t_isPart), (83, t_cellIndex), (212, t_forward), (218, t_backward)]) (xRt none (fun vs aw' => vs = [] ∧ aw' = cW Q)) WC) (hok : zOk2 S) (hQ : zS2 S 36 = Q) : WC (xL_X2_makeZ.drop 31) [some (.ref 7), some (.int (nI 5)), none] [] (cW S) := by
  have inner : ∀ (j : Nat), j < 6 → WC (xL_X2_makeZ.drop 31) [some (.ref 7), some (.int (nI j + (-1))), none] [] (cW (zS2 S (36 - 6 * j))) → ∀ (m : Nat), m ≤ 6 → WC (xL_X2_makeZ.drop 35) [some (.ref 7), some (.int (nI j)), some (.int (nI m + (-1)))] [] (cW (zS2 S (36 - (6 * j + m)))) := by
    intro j hj next m
    induction m with
    | zero => intro _; exact zb_e _ _ WC hW j next
    | succ i ih =>
      intro hi
      have ih' := ih (by omega)
      have e1 : nI (i + 1) + (-1) = nI i := pk_m1 i
      rw [e1]
      have en : 36 - (6 * j + i) = 36 - (6 * j + (i + 1)) + 1 := by omega
      have ec : 35 - (36 - (6 * j + (i + 1))) = 6 * j + i := by omega
      have es : bwC S (36 - (6 * j + i)) = if cA S 27 (6 * j + i) = 0 then bwC S (36 - (6 * j + (i + 1))) else vf_upd (bwC S (36 - (6 * j + (i + 1)))) (6 * j + i) (bwV (cD S 32) (cD S 29) (bwC S (36 - (6 * j + (i + 1)))) (cA S 27) (6 * j + i)) := by rw [en, bwC, ec]
      have ok := hok (36 - (6 * j + (i + 1))) (by omega)
      rw [ec] at ok
      unfold zS2 at ih' ⊢
      rw [es] at ih'
      refine zb_i S _ WC hW j hj i (by omega) _ ok (fun h => ?_) (fun h => ?_)
      · rw [if_pos h] at ih'; exact ih'
      · rw [if_neg h] at ih'; exact ih'
  have outer : ∀ (m : Nat), m ≤ 6 → WC (xL_X2_makeZ.drop 31) [some (.ref 7), some (.int (nI m + (-1))), none] [] (cW (zS2 S (36 - 6 * m))) := by
    intro m
    induction m with
    | zero => intro _; exact zb_z _ _ WC hW hQ
    | succ j ih =>
      intro hj
      have ih' := ih (by omega)
      have e1 : nI (j + 1) + (-1) = nI j := pk_m1 j
      rw [e1]
      have h9 := inner j (by omega) ih' 6 (by omega)
      have e2 : nI 6 + (-1) = nI 5 := pk_m1 5
      rw [e2, show 6 * j + 6 = 6 * (j + 1) by omega] at h9
      exact zb_o _ _ WC hW j (by omega) h9
  have h9 := outer 6 (by omega)
  have e2 : nI 6 + (-1) = nI 5 := pk_m1 5
  rw [e2] at h9
  exact h9
theorem n_makeZ (S : cS) (hok : mzcOk S) : xMet l yX2_makeZ cX2_makeZ 3 none 3 D ad cy [.ref 7] (cW S) (fun vs aw' => vs = [] ∧ aw' = cW (mzC S)) := by
  refine xmet (Fd := xlk xfl2) (Cn := xlk xcl2) (Cl := xCt [(138, t_isPart), (83, t_cellIndex), (212, t_forward), (218, t_backward)]) (by decide) xk_X2_makeZ xt_X2_makeZ ⟨_, _, rfl, rfl⟩ xpl2 (xEnt_ok (List.forall_mem_cons.mpr ⟨f_isPart2 (by omega), List.forall_mem_cons.mpr ⟨f_cellIndex2 (by omega), List.forall_mem_cons.mpr ⟨f_forward (by omega), List.forall_mem_cons.mpr ⟨f_backward (by omega), fun q h => by cases h⟩⟩⟩⟩)) (Nat.le_of_ble_eq_true rfl) (fun WC hW => ?_)
  obtain ⟨ok1, ok2⟩ := hok
  have inner : ∀ (j : Nat), j < 6 → WC (xL_X2_makeZ.drop 2) [some (.ref 7), some (.int (nI j + nI 1)), none] [] (cW (zS1 S (6 * j + 6))) → ∀ (n i : Nat), i + n = 6 → WC (xL_X2_makeZ.drop 7) [some (.ref 7), some (.int (nI j)), some (.int (nI i))] [] (cW (zS1 S (6 * j + i))) := by
    intro j hj next n
    induction n with
    | zero =>
      intro i hi
      have : i = 6 := by omega
      subst this
      exact zf_e _ _ WC hW j next
    | succ n ih =>
      intro i hi
      have ih' := ih (i + 1) (by omega)
      have e1 : nI i + nI 1 = nI (i + 1) := nI_add i 1
      rw [← e1] at ih'
      have es : fwC S (6 * j + (i + 1)) = if cA S 27 (6 * j + i) = 0 then fwC S (6 * j + i) else vf_upd (fwC S (6 * j + i)) (6 * j + i) (fw2 (cD S 31) (cD S 29) (fwC S (6 * j + i)) (cA S 27) (6 * j + i)) := by rw [show 6 * j + (i + 1) = 6 * j + i + 1 by omega, fwC]
      unfold zS1 at ih' ⊢
      rw [es] at ih'
      refine zf_i S _ WC hW j hj i (by omega) _ (ok1 (6 * j + i) (by omega)) (fun h => ?_) (fun h => ?_)
      · rw [if_pos h] at ih'; exact ih'
      · rw [if_neg h] at ih'; exact ih'
  have outer : ∀ (n j : Nat), j + n = 6 → WC (xL_X2_makeZ.drop 2) [some (.ref 7), some (.int (nI j)), none] [] (cW (zS1 S (6 * j))) := by
    intro n
    induction n with
    | zero =>
      intro j hj
      have : j = 6 := by omega
      subst this
      exact zf_z _ _ WC hW (zb_all _ _ WC hW ok2 rfl)
    | succ n ih =>
      intro j hj
      have ih' := ih (j + 1) (by omega)
      have e1 : nI j + nI 1 = nI (j + 1) := nI_add j 1
      rw [← e1, show 6 * (j + 1) = 6 * j + 6 by omega] at ih'
      exact zf_o _ _ WC hW j (by omega) (inner j (by omega) ih' 6 0 (by omega))
  have h9 := outer 6 0 (by omega)
  have e0 : cW (zS1 S (6 * 0)) = cW S := rfl
  rw [e0] at h9
  refine hW.1 (fun pc => Nat.beq pc 2) 200 0 _ _ _ ?_
  exact h9
def t_makeZ (st : List Value) (aw : xA) (k : List Value → xA → Prop) : Prop := match st with
  | .ref 7 :: st => match xsm st with
    | true => ∃ S : cS, aw = cW S ∧ mzcOk S ∧ k st (cW (mzC S))
    | false => False
  | _ => False
theorem f_makeZ {d : Nat} (hd : 4 ≤ d) : xEnt l d D ad cy RX2 156 t_makeZ := xEnt_V (y' := yX2_makeZ) (cc' := cX2_makeZ) (n' := 3) (ret' := none) (d' := 3) (j := 78) 0 (by decide +kernel) (by decide +kernel) (by omega) (fun st aw k h => by
  match st, h with
  | .ref 7 :: st, h =>
    cases hs : xsm st with
    | false => simp only [t_makeZ, hs] at h
    | true =>
      simp only [t_makeZ, hs] at h
      obtain ⟨S, rfl, hok, h2⟩ := h
      exact ⟨[], st, _, 7, 2, _, rfl, rfl, hs, rfl, ⟨_, rfl, rfl⟩, n_makeZ S hok, fun vs aw' h9 => by obtain ⟨rfl, rfl⟩ := h9; exact h2⟩)
end C5
