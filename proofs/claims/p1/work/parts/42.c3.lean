/-! the class: its solver, cell by cell -/
theorem pt_no {tk : Nat → Int32} {x y : Int32} (h : ptB tk x y = false) : nrI tk x y < 0 := by
  unfold nrI
  cases hi : inB x y with
  | false => rw [if_neg (by decide)]; decide
  | true =>
    have h2 : tk (6 * y.toNatClampNeg + x.toNatClampNeg) = 0 := by
      unfold ptB at h
      rw [hi, if_pos rfl] at h
      exact Decidable.not_not.mp (of_decide_eq_false h)
    rw [if_pos rfl, if_pos h2]
    decide
theorem pt_yes {tk : Nat → Int32} {x y : Int32} (h : ptB tk x y = true) : ∃ d, d < 36 ∧ nrI tk x y = nI d ∧ y * nI 6 + x = nI d ∧ ¬ nrI tk x y < 0 := by
  have hi : inB x y = true := by
    cases hi : inB x y with
    | true => rfl
    | false => unfold ptB at h; rw [hi, if_neg (by decide)] at h; cases h
  obtain ⟨i, j, hi6, hj6, rfl, rfl⟩ := inB_nI hi
  have h2 : tk (6 * j + i) ≠ 0 := by
    unfold ptB at h
    rw [hi, if_pos rfl, nI_clamp (by omega), nI_clamp (by omega)] at h
    exact of_decide_eq_true h
  have e : nrI tk (nI i) (nI j) = nI (6 * j + i) := by
    unfold nrI
    rw [hi, if_pos rfl, nI_clamp (by omega), nI_clamp (by omega), if_neg h2, pk_mul, nI_add]
  exact ⟨6 * j + i, by omega, e, by rw [pk_mul, nI_add, Nat.mul_comm], by rw [e]; exact nI_pos (by omega)⟩
theorem nI_m1 (i : Nat) : nI i + (-1) = nI i - nI 1 := by rw [Int32.sub_eq_add_neg]; rfl
theorem nI_p0 (i : Nat) : nI i + nI 0 = nI i := nI_add i 0
theorem nearC0 (tk : Nat → Int32) {i j : Nat} (hi : i < 6) : nearI tk (6 * j + i) 0 = nrI tk (nI i - nI 1) (nI j) := by
  unfold nearI
  rw [show (6 * j + i) % 6 = i by omega, show (6 * j + i) / 6 = j by omega]
  show nrI tk (nI i + -1) (nI j + nI 0) = _
  rw [nI_m1, nI_p0]
theorem nearC1 (tk : Nat → Int32) {i j : Nat} (hi : i < 6) : nearI tk (6 * j + i) 1 = nrI tk (nI i + nI 1) (nI j) := by
  unfold nearI
  rw [show (6 * j + i) % 6 = i by omega, show (6 * j + i) / 6 = j by omega]
  show nrI tk (nI i + nI 1) (nI j + nI 0) = _
  rw [nI_p0]
theorem nearC2 (tk : Nat → Int32) {i j : Nat} (hi : i < 6) : nearI tk (6 * j + i) 2 = nrI tk (nI i) (nI j - nI 1) := by
  unfold nearI
  rw [show (6 * j + i) % 6 = i by omega, show (6 * j + i) / 6 = j by omega]
  show nrI tk (nI i + nI 0) (nI j + -1) = _
  rw [nI_p0, nI_m1]
theorem nearC3 (tk : Nat → Int32) {i j : Nat} (hi : i < 6) : nearI tk (6 * j + i) 3 = nrI tk (nI i) (nI j + nI 1) := by
  unfold nearI
  rw [show (6 * j + i) % 6 = i by omega, show (6 * j + i) / 6 = j by omega]
  show nrI tk (nI i + nI 0) (nI j + nI 1) = _
  rw [nI_p0]
section C3
variable {l : Launch} {D : va_G} {ad : Nat → Nat} {cy : Nat → ClassId}
set_option maxRecDepth 100000 in
set_option maxHeartbeats 4000000 in
theorem mt_0 (S : cS) (Q : UInt64) (WC : xC → xO → List Value → xA → Prop) (hW : xSys xL_X2_matrixTimesS (xlk xfl2) (xlk xcl2) (xCt [(138, t_isPart), (83, t_cellIndex)]) (xRt (some .double) (fun vs aw' => vs = [.double Q] ∧ aw' = cW S)) WC) (i j : Nat) (hi : i < 6) (hj : j < 6) (c : Nat) (hc : c = 6 * j + i) (at9 : Int32) (o : vf_n64 (tmV (cD S 28) (cD S 34) (cA S 27) c 1)) (next : WC (xL_X2_matrixTimesS.drop 32) [some (.ref 7), some (.int (nI i)), some (.int (nI j)), some (.int at9), some (.double (tmV (cD S 28) (cD S 34) (cA S 27) c 1)), none] [] (cW S)) : WC (xL_X2_matrixTimesS.drop 14) [some (.ref 7), some (.int (nI i)), some (.int (nI j)), some (.int at9), some (.double (tmV (cD S 28) (cD S 34) (cA S 27) c 0)), none] [] (cW S) := by
  have en : nearI (cA S 27) c 0 = nrI (cA S 27) (nI i - nI 1) (nI j) := by rw [hc]; exact nearC0 _ hi
  have es : tmV (cD S 28) (cD S 34) (cA S 27) c 1 = if nearI (cA S 27) c 0 < 0 then tmV (cD S 28) (cD S 34) (cA S 27) c 0 else FP.dsub (tmV (cD S 28) (cD S 34) (cA S 27) c 0) (cD S 34 (nearI (cA S 27) c 0).toNatClampNeg) := rfl
  rw [en] at es
  generalize tmV (cD S 28) (cD S 34) (cA S 27) c 1 = v' at es o next
  generalize tmV (cD S 28) (cD S 34) (cA S 27) c 0 = v at es ⊢
  refine hW.1 (fun pc => Nat.beq pc 49) 200 14 _ _ _ ?_
  refine ⟨S, rfl, ?_⟩
  refine And.intro (fun h1 => ?_) (fun h1 => ?_)
  · rw [if_pos (pt_no (xb_eq h1))] at es
    rw [es] at next
    exact next
  · obtain ⟨d, hd, e1, e2, e3⟩ := pt_yes (xb_ne h1)
    rw [if_neg e3, e1, nI_clamp (by omega)] at es
    rw [es] at next o
    refine ⟨d, e2, by omega, by decide, ?_⟩
    exact And.intro o next
set_option maxRecDepth 100000 in
set_option maxHeartbeats 4000000 in
theorem mt_1 (S : cS) (Q : UInt64) (WC : xC → xO → List Value → xA → Prop) (hW : xSys xL_X2_matrixTimesS (xlk xfl2) (xlk xcl2) (xCt [(138, t_isPart), (83, t_cellIndex)]) (xRt (some .double) (fun vs aw' => vs = [.double Q] ∧ aw' = cW S)) WC) (i j : Nat) (hi : i < 6) (hj : j < 6) (c : Nat) (hc : c = 6 * j + i) (at9 : Int32) (o : vf_n64 (tmV (cD S 28) (cD S 34) (cA S 27) c 2)) (next : WC (xL_X2_matrixTimesS.drop 50) [some (.ref 7), some (.int (nI i)), some (.int (nI j)), some (.int at9), some (.double (tmV (cD S 28) (cD S 34) (cA S 27) c 2)), none] [] (cW S)) : WC (xL_X2_matrixTimesS.drop 32) [some (.ref 7), some (.int (nI i)), some (.int (nI j)), some (.int at9), some (.double (tmV (cD S 28) (cD S 34) (cA S 27) c 1)), none] [] (cW S) := by
  have en : nearI (cA S 27) c 1 = nrI (cA S 27) (nI i + nI 1) (nI j) := by rw [hc]; exact nearC1 _ hi
  have es : tmV (cD S 28) (cD S 34) (cA S 27) c 2 = if nearI (cA S 27) c 1 < 0 then tmV (cD S 28) (cD S 34) (cA S 27) c 1 else FP.dsub (tmV (cD S 28) (cD S 34) (cA S 27) c 1) (cD S 34 (nearI (cA S 27) c 1).toNatClampNeg) := rfl
  rw [en] at es
  generalize tmV (cD S 28) (cD S 34) (cA S 27) c 2 = v' at es o next
  generalize tmV (cD S 28) (cD S 34) (cA S 27) c 1 = v at es ⊢
  refine hW.1 (fun pc => Nat.beq pc 77) 200 32 _ _ _ ?_
  refine ⟨S, rfl, ?_⟩
  refine And.intro (fun h1 => ?_) (fun h1 => ?_)
  · rw [if_pos (pt_no (xb_eq h1))] at es
    rw [es] at next
    exact next
  · obtain ⟨d, hd, e1, e2, e3⟩ := pt_yes (xb_ne h1)
    rw [if_neg e3, e1, nI_clamp (by omega)] at es
    rw [es] at next o
    refine ⟨d, e2, by omega, by decide, ?_⟩
    exact And.intro o next
set_option maxRecDepth 100000 in
set_option maxHeartbeats 4000000 in
theorem mt_2 (S : cS) (Q : UInt64) (WC : xC → xO → List Value → xA → Prop) (hW : xSys xL_X2_matrixTimesS (xlk xfl2) (xlk xcl2) (xCt [(138, t_isPart), (83, t_cellIndex)]) (xRt (some .double) (fun vs aw' => vs = [.double Q] ∧ aw' = cW S)) WC) (i j : Nat) (hi : i < 6) (hj : j < 6) (c : Nat) (hc : c = 6 * j + i) (at9 : Int32) (o : vf_n64 (tmV (cD S 28) (cD S 34) (cA S 27) c 3)) (next : WC (xL_X2_matrixTimesS.drop 68) [some (.ref 7), some (.int (nI i)), some (.int (nI j)), some (.int at9), some (.double (tmV (cD S 28) (cD S 34) (cA S 27) c 3)), none] [] (cW S)) : WC (xL_X2_matrixTimesS.drop 50) [some (.ref 7), some (.int (nI i)), some (.int (nI j)), some (.int at9), some (.double (tmV (cD S 28) (cD S 34) (cA S 27) c 2)), none] [] (cW S) := by
  have en : nearI (cA S 27) c 2 = nrI (cA S 27) (nI i) (nI j - nI 1) := by rw [hc]; exact nearC2 _ hi
  have es : tmV (cD S 28) (cD S 34) (cA S 27) c 3 = if nearI (cA S 27) c 2 < 0 then tmV (cD S 28) (cD S 34) (cA S 27) c 2 else FP.dsub (tmV (cD S 28) (cD S 34) (cA S 27) c 2) (cD S 34 (nearI (cA S 27) c 2).toNatClampNeg) := rfl
  rw [en] at es
  generalize tmV (cD S 28) (cD S 34) (cA S 27) c 3 = v' at es o next
  generalize tmV (cD S 28) (cD S 34) (cA S 27) c 2 = v at es ⊢
  refine hW.1 (fun pc => Nat.beq pc 105) 200 50 _ _ _ ?_
  refine ⟨S, rfl, ?_⟩
  refine And.intro (fun h1 => ?_) (fun h1 => ?_)
  · rw [if_pos (pt_no (xb_eq h1))] at es
    rw [es] at next
    exact next
  · obtain ⟨d, hd, e1, e2, e3⟩ := pt_yes (xb_ne h1)
    rw [if_neg e3, e1, nI_clamp (by omega)] at es
    rw [es] at next o
    refine ⟨d, e2, by omega, by decide, ?_⟩
    exact And.intro o next
set_option maxRecDepth 100000 in
set_option maxHeartbeats 4000000 in
theorem mt_3 (S : cS) (Q : UInt64) (WC : xC → xO → List Value → xA → Prop) (hW : xSys xL_X2_matrixTimesS (xlk xfl2) (xlk xcl2) (xCt [(138, t_isPart), (83, t_cellIndex)]) (xRt (some .double) (fun vs aw' => vs = [.double Q] ∧ aw' = cW S)) WC) (i j : Nat) (hi : i < 6) (hj : j < 6) (c : Nat) (hc : c = 6 * j + i) (at9 : Int32) (o : vf_n64 (tmV (cD S 28) (cD S 34) (cA S 27) c 4)) (next : WC (xL_X2_matrixTimesS.drop 86) [some (.ref 7), some (.int (nI i)), some (.int (nI j)), some (.int at9), some (.double (tmV (cD S 28) (cD S 34) (cA S 27) c 4)), none] [] (cW S)) : WC (xL_X2_matrixTimesS.drop 68) [some (.ref 7), some (.int (nI i)), some (.int (nI j)), some (.int at9), some (.double (tmV (cD S 28) (cD S 34) (cA S 27) c 3)), none] [] (cW S) := by
  have en : nearI (cA S 27) c 3 = nrI (cA S 27) (nI i) (nI j + nI 1) := by rw [hc]; exact nearC3 _ hi
  have es : tmV (cD S 28) (cD S 34) (cA S 27) c 4 = if nearI (cA S 27) c 3 < 0 then tmV (cD S 28) (cD S 34) (cA S 27) c 3 else FP.dsub (tmV (cD S 28) (cD S 34) (cA S 27) c 3) (cD S 34 (nearI (cA S 27) c 3).toNatClampNeg) := rfl
  rw [en] at es
  generalize tmV (cD S 28) (cD S 34) (cA S 27) c 4 = v' at es o next
  generalize tmV (cD S 28) (cD S 34) (cA S 27) c 3 = v at es ⊢
  refine hW.1 (fun pc => Nat.beq pc 133) 200 68 _ _ _ ?_
  refine ⟨S, rfl, ?_⟩
  refine And.intro (fun h1 => ?_) (fun h1 => ?_)
  · rw [if_pos (pt_no (xb_eq h1))] at es
    rw [es] at next
    exact next
  · obtain ⟨d, hd, e1, e2, e3⟩ := pt_yes (xb_ne h1)
    rw [if_neg e3, e1, nI_clamp (by omega)] at es
    rw [es] at next o
    refine ⟨d, e2, by omega, by decide, ?_⟩
    exact And.intro o next
set_option maxRecDepth 100000 in
set_option maxHeartbeats 4000000 in
theorem n_matrixTimesS (S : cS) (i j : Nat) (hi : i < 6) (hj : j < 6) (c : Nat) (hc : c = 6 * j + i) (hok : ∀ w, w < 5 → vf_n64 (tmV (cD S 28) (cD S 34) (cA S 27) c w)) : xMet l yX2_matrixTimesS cX2_matrixTimesS 6 (some .double) 2 D ad cy [.ref 7, .int (nI i), .int (nI j)] (cW S) (fun vs aw' => vs = [.double (tmV (cD S 28) (cD S 34) (cA S 27) c 4)] ∧ aw' = cW S) := by
  refine xmet (Fd := xlk xfl2) (Cn := xlk xcl2) (Cl := xCt [(138, t_isPart), (83, t_cellIndex)]) (by decide) xk_X2_matrixTimesS xt_X2_matrixTimesS ⟨_, _, rfl, rfl⟩ xpl2 (xEnt_ok (List.forall_mem_cons.mpr ⟨f_isPart2 (by omega), List.forall_mem_cons.mpr ⟨f_cellIndex2 (by omega), fun q h => by cases h⟩⟩)) (Nat.le_of_ble_eq_true rfl) (fun WC hW => ?_)
  have ec : nI j * nI 6 + nI i = nI c := by rw [hc, pk_mul, nI_add, Nat.mul_comm]
  have T14 : WC (xL_X2_matrixTimesS.drop 14) [some (.ref 7), some (.int (nI i)), some (.int (nI j)), some (.int (nI j * nI 6 + nI i)), some (.double (tmV (cD S 28) (cD S 34) (cA S 27) c 0)), none] [] (cW S) := by
    refine mt_0 S _ WC hW i j hi hj c hc _ (hok 1 (by omega)) ?_
    refine mt_1 S _ WC hW i j hi hj c hc _ (hok 2 (by omega)) ?_
    refine mt_2 S _ WC hW i j hi hj c hc _ (hok 3 (by omega)) ?_
    refine mt_3 S _ WC hW i j hi hj c hc _ (hok 4 (by omega)) ?_
    refine hW.1 (fun _ => false) 200 86 _ _ _ ?_
    exact And.intro rfl rfl
  refine hW.1 (fun pc => Nat.beq pc 21) 200 0 _ _ _ ?_
  refine ⟨c, ec, by omega, by decide, ?_⟩
  refine ⟨c, ec, by omega, by decide, ?_⟩
  exact And.intro (hok 0 (by omega)) T14
def t_mts (st : List Value) (aw : xA) (k : List Value → xA → Prop) : Prop := match st with
  | .int y :: .int x :: .ref 7 :: st => match xsm st with
    | true => ∃ (S : cS) (i j : Nat), aw = cW S ∧ x = nI i ∧ y = nI j ∧ i < 6 ∧ j < 6 ∧ (∀ w, w < 5 → vf_n64 (tmV (cD S 28) (cD S 34) (cA S 27) (6 * j + i) w)) ∧ k (.double (tmV (cD S 28) (cD S 34) (cA S 27) (6 * j + i) 4) :: st) (cW S)
    | false => False
  | _ => False
theorem f_mts {d : Nat} (hd : 3 ≤ d) : xEnt l d D ad cy RX2 206 t_mts := xEnt_V (y' := yX2_matrixTimesS) (cc' := cX2_matrixTimesS) (n' := 6) (ret' := some .double) (d' := 2) (j := 103) 2 (by decide +kernel) (by decide +kernel) (by omega) (fun st aw k h => by
  match st, h with
  | .int y :: .int x :: .ref 7 :: st, h =>
    cases hs : xsm st with
    | false => simp only [t_mts, hs] at h
    | true =>
      simp only [t_mts, hs] at h
      obtain ⟨S, i, j, rfl, rfl, rfl, hi, hj, hok, h2⟩ := h
      exact ⟨[.int (nI i), .int (nI j)], st, _, 7, 2, _, rfl, rfl, hs, rfl, ⟨_, rfl, rfl⟩, n_matrixTimesS S i j hi hj _ rfl hok, fun vs aw' h9 => by obtain ⟨rfl, rfl⟩ := h9; exact h2⟩)
set_option maxRecDepth 100000 in
set_option maxHeartbeats 4000000 in
theorem fo_0 (S : cS) (Q : UInt64) (WC : xC → xO → List Value → xA → Prop) (hW : xSys xL_X2_forward (xlk xfl2) (xlk xcl2) (xCt [(138, t_isPart), (83, t_cellIndex)]) (xRt (some .double) (fun vs aw' => vs = [.double Q] ∧ aw' = cW S)) WC) (i j : Nat) (hi : i < 6) (hj : j < 6) (c : Nat) (hc : c = 6 * j + i) (o : ¬ nearI (cA S 27) c 0 < 0 → vf_n64 (FP.ddiv (cD S 32 (nearI (cA S 27) c 0).toNatClampNeg) (cD S 29 (nearI (cA S 27) c 0).toNatClampNeg)) ∧ vf_n64 (fw1 (cD S 31) (cD S 29) (cD S 32) (cA S 27) c)) (next : WC (xL_X2_forward.drop 32) [some (.ref 7), some (.int (nI i)), some (.int (nI j)), some (.double (fw1 (cD S 31) (cD S 29) (cD S 32) (cA S 27) c)), none, none] [] (cW S)) : WC (xL_X2_forward.drop 7) [some (.ref 7), some (.int (nI i)), some (.int (nI j)), some (.double (cD S 31 c)), none, none] [] (cW S) := by
  have en : nearI (cA S 27) c 0 = nrI (cA S 27) (nI i - nI 1) (nI j) := by rw [hc]; exact nearC0 _ hi
  have es : fw1 (cD S 31) (cD S 29) (cD S 32) (cA S 27) c = if nearI (cA S 27) c 0 < 0 then cD S 31 c else FP.dadd (cD S 31 c) (FP.ddiv (cD S 32 (nearI (cA S 27) c 0).toNatClampNeg) (cD S 29 (nearI (cA S 27) c 0).toNatClampNeg)) := rfl
  rw [en] at es o
  generalize fw1 (cD S 31) (cD S 29) (cD S 32) (cA S 27) c = v' at es o next
  generalize cD S 31 c = v at es ⊢
  refine hW.1 (fun pc => Nat.beq pc 49) 200 7 _ _ _ ?_
  refine ⟨S, rfl, ?_⟩
  refine And.intro (fun h1 => ?_) (fun h1 => ?_)
  · rw [if_pos (pt_no (xb_eq h1))] at es
    rw [es] at next
    exact next
  · obtain ⟨d, hd, e1, e2, e3⟩ := pt_yes (xb_ne h1)
    obtain ⟨o1, o2⟩ := o e3
    rw [if_neg e3, e1, nI_clamp (by omega)] at es
    rw [e1, nI_clamp (by omega)] at o1
    rw [es] at next o2
    refine ⟨d, e2, by omega, by decide, ?_⟩
    refine ⟨d, e2, by omega, by decide, ?_⟩
    refine And.intro o1 (And.intro o2 ?_)
    refine hW.2 32 _ _ _ _ ?_ ?_ next
    · exact And.intro rfl (And.intro rfl (And.intro rfl (And.intro rfl (trivial))))
    · rfl
set_option maxRecDepth 100000 in
set_option maxHeartbeats 4000000 in
theorem fo_2 (S : cS) (Q : UInt64) (WC : xC → xO → List Value → xA → Prop) (hW : xSys xL_X2_forward (xlk xfl2) (xlk xcl2) (xCt [(138, t_isPart), (83, t_cellIndex)]) (xRt (some .double) (fun vs aw' => vs = [.double Q] ∧ aw' = cW S)) WC) (i j : Nat) (hi : i < 6) (hj : j < 6) (c : Nat) (hc : c = 6 * j + i) (o : ¬ nearI (cA S 27) c 2 < 0 → vf_n64 (FP.ddiv (cD S 32 (nearI (cA S 27) c 2).toNatClampNeg) (cD S 29 (nearI (cA S 27) c 2).toNatClampNeg)) ∧ vf_n64 (fw2 (cD S 31) (cD S 29) (cD S 32) (cA S 27) c)) (next : WC (xL_X2_forward.drop 57) [some (.ref 7), some (.int (nI i)), some (.int (nI j)), some (.double (fw2 (cD S 31) (cD S 29) (cD S 32) (cA S 27) c)), none, none] [] (cW S)) : WC (xL_X2_forward.drop 32) [some (.ref 7), some (.int (nI i)), some (.int (nI j)), some (.double (fw1 (cD S 31) (cD S 29) (cD S 32) (cA S 27) c)), none, none] [] (cW S) := by
  have en : nearI (cA S 27) c 2 = nrI (cA S 27) (nI i) (nI j - nI 1) := by rw [hc]; exact nearC2 _ hi
  have es : fw2 (cD S 31) (cD S 29) (cD S 32) (cA S 27) c = if nearI (cA S 27) c 2 < 0 then fw1 (cD S 31) (cD S 29) (cD S 32) (cA S 27) c else FP.dadd (fw1 (cD S 31) (cD S 29) (cD S 32) (cA S 27) c) (FP.ddiv (cD S 32 (nearI (cA S 27) c 2).toNatClampNeg) (cD S 29 (nearI (cA S 27) c 2).toNatClampNeg)) := rfl
  rw [en] at es o
  generalize fw2 (cD S 31) (cD S 29) (cD S 32) (cA S 27) c = v' at es o next
  generalize fw1 (cD S 31) (cD S 29) (cD S 32) (cA S 27) c = v at es ⊢
  refine hW.1 (fun pc => Nat.beq pc 87) 200 32 _ _ _ ?_
  refine ⟨S, rfl, ?_⟩
  refine And.intro (fun h1 => ?_) (fun h1 => ?_)
  · rw [if_pos (pt_no (xb_eq h1))] at es
    rw [es] at next
    exact next
  · obtain ⟨d, hd, e1, e2, e3⟩ := pt_yes (xb_ne h1)
    obtain ⟨o1, o2⟩ := o e3
    rw [if_neg e3, e1, nI_clamp (by omega)] at es
    rw [e1, nI_clamp (by omega)] at o1
    rw [es] at next o2
    refine ⟨d, e2, by omega, by decide, ?_⟩
    refine ⟨d, e2, by omega, by decide, ?_⟩
    refine And.intro o1 (And.intro o2 ?_)
    refine hW.2 57 _ _ _ _ ?_ ?_ next
    · exact And.intro rfl (And.intro rfl (And.intro rfl (And.intro rfl (trivial))))
    · rfl
set_option maxRecDepth 100000 in
set_option maxHeartbeats 4000000 in
theorem n_forward (S : cS) (i j : Nat) (hi : i < 6) (hj : j < 6) (c : Nat) (hc : c = 6 * j + i) (hok : fwOk (cD S 31) (cD S 29) (cD S 32) (cA S 27) c) : xMet l yX2_forward cX2_forward 6 (some .double) 2 D ad cy [.ref 7, .int (nI i), .int (nI j)] (cW S) (fun vs aw' => vs = [.double (fw2 (cD S 31) (cD S 29) (cD S 32) (cA S 27) c)] ∧ aw' = cW S) := by
  refine xmet (Fd := xlk xfl2) (Cn := xlk xcl2) (Cl := xCt [(138, t_isPart), (83, t_cellIndex)]) (by decide) xk_X2_forward xt_X2_forward ⟨_, _, rfl, rfl⟩ xpl2 (xEnt_ok (List.forall_mem_cons.mpr ⟨f_isPart2 (by omega), List.forall_mem_cons.mpr ⟨f_cellIndex2 (by omega), fun q h => by cases h⟩⟩)) (Nat.le_of_ble_eq_true rfl) (fun WC hW => ?_)
  have ec : nI j * nI 6 + nI i = nI c := by rw [hc, pk_mul, nI_add, Nat.mul_comm]
  obtain ⟨o1, o2⟩ := hok
  have T7 : WC (xL_X2_forward.drop 7) [some (.ref 7), some (.int (nI i)), some (.int (nI j)), some (.double (cD S 31 c)), none, none] [] (cW S) := by
    refine fo_0 S _ WC hW i j hi hj c hc o1 ?_
    refine fo_2 S _ WC hW i j hi hj c hc o2 ?_
    refine hW.1 (fun _ => false) 200 57 _ _ _ ?_
    exact And.intro rfl rfl
  refine hW.1 (fun pc => Nat.beq pc 11) 200 0 _ _ _ ?_
  refine ⟨c, ec, by omega, by decide, ?_⟩
  exact T7
def t_forward (st : List Value) (aw : xA) (k : List Value → xA → Prop) : Prop := match st with
  | .int y :: .int x :: .ref 7 :: st => match xsm st with
    | true => ∃ (S : cS) (i j : Nat), aw = cW S ∧ x = nI i ∧ y = nI j ∧ i < 6 ∧ j < 6 ∧ fwOk (cD S 31) (cD S 29) (cD S 32) (cA S 27) (6 * j + i) ∧ k (.double (fw2 (cD S 31) (cD S 29) (cD S 32) (cA S 27) (6 * j + i)) :: st) (cW S)
    | false => False
  | _ => False
theorem f_forward {d : Nat} (hd : 3 ≤ d) : xEnt l d D ad cy RX2 212 t_forward := xEnt_V (y' := yX2_forward) (cc' := cX2_forward) (n' := 6) (ret' := some .double) (d' := 2) (j := 106) 2 (by decide +kernel) (by decide +kernel) (by omega) (fun st aw k h => by
  match st, h with
  | .int y :: .int x :: .ref 7 :: st, h =>
    cases hs : xsm st with
    | false => simp only [t_forward, hs] at h
    | true =>
      simp only [t_forward, hs] at h
      obtain ⟨S, i, j, rfl, rfl, rfl, hi, hj, hok, h2⟩ := h
      exact ⟨[.int (nI i), .int (nI j)], st, _, 7, 2, _, rfl, rfl, hs, rfl, ⟨_, rfl, rfl⟩, n_forward S i j hi hj _ rfl hok, fun vs aw' h9 => by obtain ⟨rfl, rfl⟩ := h9; exact h2⟩)
set_option maxRecDepth 100000 in
set_option maxHeartbeats 4000000 in
theorem ba_1 (S : cS) (Q : UInt64) (WC : xC → xO → List Value → xA → Prop) (hW : xSys xL_X2_backward (xlk xfl2) (xlk xcl2) (xCt [(138, t_isPart), (83, t_cellIndex)]) (xRt (some .double) (fun vs aw' => vs = [.double Q] ∧ aw' = cW S)) WC) (i j : Nat) (hi : i < 6) (hj : j < 6) (c : Nat) (hc : c = 6 * j + i) (at9 : Int32) (ha : at9 = nI c) (ht : cA S 27 c ≠ 0) (o : cA S 27 c ≠ 0 → ¬ nearI (cA S 27) c 1 < 0 → vf_n64 (FP.ddiv (cD S 33 (nearI (cA S 27) c 1).toNatClampNeg) (cD S 29 c)) ∧ vf_n64 (bw1 (cD S 32) (cD S 29) (cD S 33) (cA S 27) c)) (next : WC (xL_X2_backward.drop 37) [some (.ref 7), some (.int (nI i)), some (.int (nI j)), some (.int at9), some (.double (bw1 (cD S 32) (cD S 29) (cD S 33) (cA S 27) c)), none] [] (cW S)) : WC (xL_X2_backward.drop 14) [some (.ref 7), some (.int (nI i)), some (.int (nI j)), some (.int at9), some (.double (bw0 (cD S 32) (cD S 29) (cA S 27) c)), none] [] (cW S) := by
  have en : nearI (cA S 27) c 1 = nrI (cA S 27) (nI i + nI 1) (nI j) := by rw [hc]; exact nearC1 _ hi
  have es : bw1 (cD S 32) (cD S 29) (cD S 33) (cA S 27) c = if cA S 27 c = 0 then bw0 (cD S 32) (cD S 29) (cA S 27) c else if nearI (cA S 27) c 1 < 0 then bw0 (cD S 32) (cD S 29) (cA S 27) c else FP.dadd (bw0 (cD S 32) (cD S 29) (cA S 27) c) (FP.ddiv (cD S 33 (nearI (cA S 27) c 1).toNatClampNeg) (cD S 29 c)) := rfl
  rw [if_neg ht, en] at es
  have o := o ht
  rw [en] at o
  generalize bw1 (cD S 32) (cD S 29) (cD S 33) (cA S 27) c = v' at es o next
  generalize bw0 (cD S 32) (cD S 29) (cA S 27) c = v at es ⊢
  refine hW.1 (fun pc => Nat.beq pc 56) 200 14 _ _ _ ?_
  refine ⟨S, rfl, ?_⟩
  refine And.intro (fun h1 => ?_) (fun h1 => ?_)
  · rw [if_pos (pt_no (xb_eq h1))] at es
    rw [es] at next
    exact next
  · obtain ⟨d, hd, e1, e2, e3⟩ := pt_yes (xb_ne h1)
    obtain ⟨o1, o2⟩ := o e3
    rw [if_neg e3, e1, nI_clamp (by omega)] at es
    rw [e1, nI_clamp (by omega)] at o1
    rw [es] at next o2
    refine ⟨d, e2, by omega, by decide, ?_⟩
    refine ⟨c, ha, by omega, by decide, ?_⟩
    exact And.intro o1 (And.intro o2 next)
set_option maxRecDepth 100000 in
set_option maxHeartbeats 4000000 in
theorem ba_3 (S : cS) (Q : UInt64) (WC : xC → xO → List Value → xA → Prop) (hW : xSys xL_X2_backward (xlk xfl2) (xlk xcl2) (xCt [(138, t_isPart), (83, t_cellIndex)]) (xRt (some .double) (fun vs aw' => vs = [.double Q] ∧ aw' = cW S)) WC) (i j : Nat) (hi : i < 6) (hj : j < 6) (c : Nat) (hc : c = 6 * j + i) (at9 : Int32) (ha : at9 = nI c) (ht : cA S 27 c ≠ 0) (o : cA S 27 c ≠ 0 → ¬ nearI (cA S 27) c 3 < 0 → vf_n64 (FP.ddiv (cD S 33 (nearI (cA S 27) c 3).toNatClampNeg) (cD S 29 c)) ∧ vf_n64 (bwV (cD S 32) (cD S 29) (cD S 33) (cA S 27) c)) (next : WC (xL_X2_backward.drop 60) [some (.ref 7), some (.int (nI i)), some (.int (nI j)), some (.int at9), some (.double (bwV (cD S 32) (cD S 29) (cD S 33) (cA S 27) c)), none] [] (cW S)) : WC (xL_X2_backward.drop 37) [some (.ref 7), some (.int (nI i)), some (.int (nI j)), some (.int at9), some (.double (bw1 (cD S 32) (cD S 29) (cD S 33) (cA S 27) c)), none] [] (cW S) := by
  have en : nearI (cA S 27) c 3 = nrI (cA S 27) (nI i) (nI j + nI 1) := by rw [hc]; exact nearC3 _ hi
  have es : bwV (cD S 32) (cD S 29) (cD S 33) (cA S 27) c = if cA S 27 c = 0 then bw1 (cD S 32) (cD S 29) (cD S 33) (cA S 27) c else if nearI (cA S 27) c 3 < 0 then bw1 (cD S 32) (cD S 29) (cD S 33) (cA S 27) c else FP.dadd (bw1 (cD S 32) (cD S 29) (cD S 33) (cA S 27) c) (FP.ddiv (cD S 33 (nearI (cA S 27) c 3).toNatClampNeg) (cD S 29 c)) := rfl
  rw [if_neg ht, en] at es
  have o := o ht
  rw [en] at o
  generalize bwV (cD S 32) (cD S 29) (cD S 33) (cA S 27) c = v' at es o next
  generalize bw1 (cD S 32) (cD S 29) (cD S 33) (cA S 27) c = v at es ⊢
  refine hW.1 (fun pc => Nat.beq pc 91) 200 37 _ _ _ ?_
  refine ⟨S, rfl, ?_⟩
  refine And.intro (fun h1 => ?_) (fun h1 => ?_)
  · rw [if_pos (pt_no (xb_eq h1))] at es
    rw [es] at next
    exact next
  · obtain ⟨d, hd, e1, e2, e3⟩ := pt_yes (xb_ne h1)
    obtain ⟨o1, o2⟩ := o e3
    rw [if_neg e3, e1, nI_clamp (by omega)] at es
    rw [e1, nI_clamp (by omega)] at o1
    rw [es] at next o2
    refine ⟨d, e2, by omega, by decide, ?_⟩
    refine ⟨c, ha, by omega, by decide, ?_⟩
    exact And.intro o1 (And.intro o2 next)
set_option maxRecDepth 100000 in
set_option maxHeartbeats 4000000 in
theorem n_backward (S : cS) (i j : Nat) (hi : i < 6) (hj : j < 6) (c : Nat) (hc : c = 6 * j + i) (ht : cA S 27 c ≠ 0) (hok : bwOk (cD S 32) (cD S 29) (cD S 33) (cA S 27) c) : xMet l yX2_backward cX2_backward 6 (some .double) 2 D ad cy [.ref 7, .int (nI i), .int (nI j)] (cW S) (fun vs aw' => vs = [.double (bwV (cD S 32) (cD S 29) (cD S 33) (cA S 27) c)] ∧ aw' = cW S) := by
  refine xmet (Fd := xlk xfl2) (Cn := xlk xcl2) (Cl := xCt [(138, t_isPart), (83, t_cellIndex)]) (by decide) xk_X2_backward xt_X2_backward ⟨_, _, rfl, rfl⟩ xpl2 (xEnt_ok (List.forall_mem_cons.mpr ⟨f_isPart2 (by omega), List.forall_mem_cons.mpr ⟨f_cellIndex2 (by omega), fun q h => by cases h⟩⟩)) (Nat.le_of_ble_eq_true rfl) (fun WC hW => ?_)
  have ec : nI j * nI 6 + nI i = nI c := by rw [hc, pk_mul, nI_add, Nat.mul_comm]
  obtain ⟨o0, o1, o2⟩ := hok
  have T14 : WC (xL_X2_backward.drop 14) [some (.ref 7), some (.int (nI i)), some (.int (nI j)), some (.int (nI j * nI 6 + nI i)), some (.double (bw0 (cD S 32) (cD S 29) (cA S 27) c)), none] [] (cW S) := by
    refine ba_1 S _ WC hW i j hi hj c hc _ ec ht o1 ?_
    refine ba_3 S _ WC hW i j hi hj c hc _ ec ht o2 ?_
    refine hW.1 (fun _ => false) 200 60 _ _ _ ?_
    exact And.intro rfl rfl
  have e0 : bw0 (cD S 32) (cD S 29) (cA S 27) c = FP.ddiv (cD S 32 c) (cD S 29 c) := by unfold bw0; rw [if_neg ht]
  rw [e0] at T14
  refine hW.1 (fun pc => Nat.beq pc 21) 200 0 _ _ _ ?_
  refine ⟨c, ec, by omega, by decide, ?_⟩
  refine ⟨c, ec, by omega, by decide, ?_⟩
  exact And.intro (o0 ht) T14
def t_backward (st : List Value) (aw : xA) (k : List Value → xA → Prop) : Prop := match st with
  | .int y :: .int x :: .ref 7 :: st => match xsm st with
    | true => ∃ (S : cS) (i j : Nat), aw = cW S ∧ x = nI i ∧ y = nI j ∧ i < 6 ∧ j < 6 ∧ cA S 27 (6 * j + i) ≠ 0 ∧ bwOk (cD S 32) (cD S 29) (cD S 33) (cA S 27) (6 * j + i) ∧ k (.double (bwV (cD S 32) (cD S 29) (cD S 33) (cA S 27) (6 * j + i)) :: st) (cW S)
    | false => False
  | _ => False
theorem f_backward {d : Nat} (hd : 3 ≤ d) : xEnt l d D ad cy RX2 218 t_backward := xEnt_V (y' := yX2_backward) (cc' := cX2_backward) (n' := 6) (ret' := some .double) (d' := 2) (j := 109) 2 (by decide +kernel) (by decide +kernel) (by omega) (fun st aw k h => by
  match st, h with
  | .int y :: .int x :: .ref 7 :: st, h =>
    cases hs : xsm st with
    | false => simp only [t_backward, hs] at h
    | true =>
      simp only [t_backward, hs] at h
      obtain ⟨S, i, j, rfl, rfl, rfl, hi, hj, ht, hok, h2⟩ := h
      exact ⟨[.int (nI i), .int (nI j)], st, _, 7, 2, _, rfl, rfl, hs, rfl, ⟨_, rfl, rfl⟩, n_backward S i j hi hj _ rfl ht hok, fun vs aw' h9 => by obtain ⟨rfl, rfl⟩ := h9; exact h2⟩)
set_option maxRecDepth 100000 in
set_option maxHeartbeats 4000000 in
theorem mo_0 (S : cS) (Q : UInt64) (WC : xC → xO → List Value → xA → Prop) (hW : xSys xL_X2_makerOf (xlk xfl2) (xlk xcl2) (xCt [(138, t_isPart), (83, t_cellIndex)]) (xRt (some .double) (fun vs aw' => vs = [.double Q] ∧ aw' = cW S)) WC) (i j : Nat) (hi : i < 6) (hj : j < 6) (c : Nat) (hc : c = 6 * j + i) (wh : UInt64) (o : ¬ nearI (cA S 27) c 0 < 0 → vf_n64 (FP.ddiv FP.dconst1 (cD S 29 (nearI (cA S 27) c 0).toNatClampNeg)) ∧ vf_n64 (mk1 (cD S 28) (cD S 29) (cA S 27) c)) (next : WC (xL_X2_makerOf.drop 29) [some (.ref 7), some (.int (nI i)), some (.int (nI j)), some (.double (wh)), none, some (.double (mk1 (cD S 28) (cD S 29) (cA S 27) c)), none] [] (cW S)) : WC (xL_X2_makerOf.drop 9) [some (.ref 7), some (.int (nI i)), some (.int (nI j)), some (.double (wh)), none, some (.double (cD S 28 c)), none] [] (cW S) := by
  have en : nearI (cA S 27) c 0 = nrI (cA S 27) (nI i - nI 1) (nI j) := by rw [hc]; exact nearC0 _ hi
  have es : mk1 (cD S 28) (cD S 29) (cA S 27) c = if nearI (cA S 27) c 0 < 0 then cD S 28 c else FP.dsub (cD S 28 c) (FP.ddiv FP.dconst1 (cD S 29 (nearI (cA S 27) c 0).toNatClampNeg)) := rfl
  rw [en] at es o
  generalize mk1 (cD S 28) (cD S 29) (cA S 27) c = v' at es o next
  generalize cD S 28 c = v at es ⊢
  refine hW.1 (fun pc => Nat.beq pc 44) 200 9 _ _ _ ?_
  refine ⟨S, rfl, ?_⟩
  refine And.intro (fun h1 => ?_) (fun h1 => ?_)
  · rw [if_pos (pt_no (xb_eq h1))] at es
    rw [es] at next
    exact next
  · obtain ⟨d, hd, e1, e2, e3⟩ := pt_yes (xb_ne h1)
    obtain ⟨o1, o2⟩ := o e3
    rw [if_neg e3, e1, nI_clamp (by omega)] at es
    rw [e1, nI_clamp (by omega)] at o1
    rw [es] at next o2
    refine ⟨d, e2, by omega, by decide, ?_⟩
    exact And.intro o1 (And.intro o2 next)
set_option maxRecDepth 100000 in
set_option maxHeartbeats 4000000 in
theorem mo_2 (S : cS) (Q : UInt64) (WC : xC → xO → List Value → xA → Prop) (hW : xSys xL_X2_makerOf (xlk xfl2) (xlk xcl2) (xCt [(138, t_isPart), (83, t_cellIndex)]) (xRt (some .double) (fun vs aw' => vs = [.double Q] ∧ aw' = cW S)) WC) (i j : Nat) (hi : i < 6) (hj : j < 6) (c : Nat) (hc : c = 6 * j + i) (wh : UInt64) (o : ¬ nearI (cA S 27) c 2 < 0 → vf_n64 (FP.ddiv FP.dconst1 (cD S 29 (nearI (cA S 27) c 2).toNatClampNeg)) ∧ vf_n64 (mk2 (cD S 28) (cD S 29) (cA S 27) c)) (next : WC (xL_X2_makerOf.drop 49) [some (.ref 7), some (.int (nI i)), some (.int (nI j)), some (.double (wh)), none, some (.double (mk2 (cD S 28) (cD S 29) (cA S 27) c)), none] [] (cW S)) : WC (xL_X2_makerOf.drop 29) [some (.ref 7), some (.int (nI i)), some (.int (nI j)), some (.double (wh)), none, some (.double (mk1 (cD S 28) (cD S 29) (cA S 27) c)), none] [] (cW S) := by
  have en : nearI (cA S 27) c 2 = nrI (cA S 27) (nI i) (nI j - nI 1) := by rw [hc]; exact nearC2 _ hi
  have es : mk2 (cD S 28) (cD S 29) (cA S 27) c = if nearI (cA S 27) c 2 < 0 then mk1 (cD S 28) (cD S 29) (cA S 27) c else FP.dsub (mk1 (cD S 28) (cD S 29) (cA S 27) c) (FP.ddiv FP.dconst1 (cD S 29 (nearI (cA S 27) c 2).toNatClampNeg)) := rfl
  rw [en] at es o
  generalize mk2 (cD S 28) (cD S 29) (cA S 27) c = v' at es o next
  generalize mk1 (cD S 28) (cD S 29) (cA S 27) c = v at es ⊢
  refine hW.1 (fun pc => Nat.beq pc 74) 200 29 _ _ _ ?_
  refine ⟨S, rfl, ?_⟩
  refine And.intro (fun h1 => ?_) (fun h1 => ?_)
  · rw [if_pos (pt_no (xb_eq h1))] at es
    rw [es] at next
    exact next
  · obtain ⟨d, hd, e1, e2, e3⟩ := pt_yes (xb_ne h1)
    obtain ⟨o1, o2⟩ := o e3
    rw [if_neg e3, e1, nI_clamp (by omega)] at es
    rw [e1, nI_clamp (by omega)] at o1
    rw [es] at next o2
    refine ⟨d, e2, by omega, by decide, ?_⟩
    exact And.intro o1 (And.intro o2 next)
set_option maxRecDepth 100000 in
set_option maxHeartbeats 4000000 in
theorem n_makerOf (S : cS) (i j : Nat) (hi : i < 6) (hj : j < 6) (c : Nat) (hc : c = 6 * j + i) (hok : mkOk (cD S 28) (cD S 29) (cA S 27) c) : xMet l yX2_makerOf cX2_makerOf 7 (some .double) 2 D ad cy [.ref 7, .int (nI i), .int (nI j)] (cW S) (fun vs aw' => vs = [.double (mkV (cD S 28) (cD S 29) (cA S 27) c)] ∧ aw' = cW S) := by
  refine xmet (Fd := xlk xfl2) (Cn := xlk xcl2) (Cl := xCt [(138, t_isPart), (83, t_cellIndex)]) (by decide) xk_X2_makerOf xt_X2_makerOf ⟨_, _, rfl, rfl⟩ xpl2 (xEnt_ok (List.forall_mem_cons.mpr ⟨f_isPart2 (by omega), List.forall_mem_cons.mpr ⟨f_cellIndex2 (by omega), fun q h => by cases h⟩⟩)) (Nat.le_of_ble_eq_true rfl) (fun WC hW => ?_)
  have ec : nI j * nI 6 + nI i = nI c := by rw [hc, pk_mul, nI_add, Nat.mul_comm]
  obtain ⟨o1, o2, o3⟩ := hok
  have T9 : WC (xL_X2_makerOf.drop 9) [some (.ref 7), some (.int (nI i)), some (.int (nI j)), some (.double (cD S 28 c)), none, some (.double (cD S 28 c)), none] [] (cW S) := by
    refine mo_0 S _ WC hW i j hi hj c hc _ o1 ?_
    refine mo_2 S _ WC hW i j hi hj c hc _ o2 ?_
    refine hW.1 (fun _ => false) 200 49 _ _ _ ?_
    refine And.intro o3 ?_
    refine And.intro (fun h1 => ?_) (fun h1 => ?_)
    · exact And.intro (by unfold mkV; rw [if_pos h1]) rfl
    · exact And.intro (by unfold mkV; rw [if_neg h1]) rfl
  refine hW.1 (fun pc => Nat.beq pc 14) 200 0 _ _ _ ?_
  refine ⟨c, ec, by omega, by decide, ?_⟩
  exact T9
def t_makerOf (st : List Value) (aw : xA) (k : List Value → xA → Prop) : Prop := match st with
  | .int y :: .int x :: .ref 7 :: st => match xsm st with
    | true => ∃ (S : cS) (i j : Nat), aw = cW S ∧ x = nI i ∧ y = nI j ∧ i < 6 ∧ j < 6 ∧ mkOk (cD S 28) (cD S 29) (cA S 27) (6 * j + i) ∧ k (.double (mkV (cD S 28) (cD S 29) (cA S 27) (6 * j + i)) :: st) (cW S)
    | false => False
  | _ => False
theorem f_makerOf {d : Nat} (hd : 3 ≤ d) : xEnt l d D ad cy RX2 114 t_makerOf := xEnt_V (y' := yX2_makerOf) (cc' := cX2_makerOf) (n' := 7) (ret' := some .double) (d' := 2) (j := 57) 2 (by decide +kernel) (by decide +kernel) (by omega) (fun st aw k h => by
  match st, h with
  | .int y :: .int x :: .ref 7 :: st, h =>
    cases hs : xsm st with
    | false => simp only [t_makerOf, hs] at h
    | true =>
      simp only [t_makerOf, hs] at h
      obtain ⟨S, i, j, rfl, rfl, rfl, hi, hj, hok, h2⟩ := h
      exact ⟨[.int (nI i), .int (nI j)], st, _, 7, 2, _, rfl, rfl, hs, rfl, ⟨_, rfl, rfl⟩, n_makerOf S i j hi hj _ rfl hok, fun vs aw' h9 => by obtain ⟨rfl, rfl⟩ := h9; exact h2⟩)
end C3
