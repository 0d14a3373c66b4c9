/-! the class: setUpCell -/
def suB (S : cS) (np i j : Nat) : Bool := if opX (cA S 11) (nI i) (nI j) = 0 then false else flB (cA S 11) (cF S 12) (cF S 13) np (nI i) (nI j)
def su1 (S : cS) (i j : Nat) : cS := cD' (cA' S 27 (upd (cA S 27) (6 * j + i) (xb true))) 28 (vf_upd (cD S 28) (6 * j + i) (FP.i2d (nI (opX (cA S 11) (nI i) (nI j)))))
def su2 (S : cS) (i j : Nat) : cS := cD' S 29 (vf_upd (cD S 29) (6 * j + i) (mkV (cD S 28) (cD S 29) (cA S 27) (6 * j + i)))
def sr1 (U : Nat → UInt64) (i j : Nat) : UInt64 := FP.dsub (U (7 * j + (i + 1))) (U (7 * j + i))
def sr2 (U V : Nat → UInt64) (i j : Nat) : UInt64 := FP.dadd (sr1 U i j) (V (7 * (j + 1) + i))
def sr3 (U V : Nat → UInt64) (i j : Nat) : UInt64 := FP.dsub (sr2 U V i j) (V (7 * j + i))
def sr4 (U V : Nat → UInt64) (i j : Nat) : UInt64 := FP.dsub FP.dconst0 (sr3 U V i j)
def su3 (S : cS) (i j : Nat) : cS := cD' S 31 (vf_upd (cD S 31) (6 * j + i) (sr4 (cD S 23) (cD S 24) i j))
def suF (S : cS) (np i j : Nat) : cS := if suB S np i j then su3 (su2 (su1 S i j) i j) i j else S
def su3O (S : cS) (i j : Nat) : Prop := vf_n64 (sr1 (cD S 23) i j) ∧ vf_n64 (sr2 (cD S 23) (cD S 24) i j) ∧ vf_n64 (sr3 (cD S 23) (cD S 24) i j) ∧ vf_n64 (sr4 (cD S 23) (cD S 24) i j)
def suOk (S : cS) (np i j : Nat) : Prop := suB S np i j = true → mkOk (cD (su1 S i j) 28) (cD (su1 S i j) 29) (cA (su1 S i j) 27) (6 * j + i) ∧ su3O (su2 (su1 S i j) i j) i j
section C9
variable {l : Launch} {D : va_G} {ad : Nat → Nat} {cy : Nat → ClassId}
set_option maxRecDepth 100000 in
set_option maxHeartbeats 4000000 in
theorem sc_a (Q S : cS) (WC : xC → xO → List Value → xA → Prop) (hW : xSys xL_X2_setUpCell (xlk xfl2) (xlk xcl2) (xCt [(98, t_open), (108, t_isFluid), (83, t_cellIndex), (114, t_makerOf), (133, t_faceIndex)]) (xRt none (fun vs aw' => vs = [] ∧ aw' = cW Q)) WC) (np : Nat) (hnp : cI S 1 = nI np) (h24 : np ≤ 24) (i j : Nat) (hi : i < 6) (hj : j < 6) (no : suB S np i j = false → Q = S) (next : suB S np i j = true → WC (xL_X2_setUpCell.drop 13) [some (.ref 7), some (.ref 1), some (.ref 5), some (.ref 6), some (.int (nI i)), some (.int (nI j)), some (.int (nI (opX (cA S 11) (nI i) (nI j)))), none] [] (cW S)) : WC (xL_X2_setUpCell.drop 0) [some (.ref 7), some (.ref 1), some (.ref 5), some (.ref 6), some (.int (nI i)), some (.int (nI j)), none, none] [] (cW S) := by
  have hle : opX (cA S 11) (nI i) (nI j) ≤ 4 := by unfold opX b01; split <;> split <;> split <;> split <;> omega
  unfold suB at no next
  refine hW.1 (fun pc => Nat.beq pc 27) 200 0 _ _ _ ?_
  refine ⟨S, rfl, ?_⟩
  generalize opX (cA S 11) (nI i) (nI j) = o at hle no next ⊢
  refine And.intro (fun h1 => ?_) (fun h1 => ?_)
  · have h1 : o = 0 := (nI_eq (by omega) (by decide)).mp (h1.trans nI_0.symm)
    exact And.intro rfl (by rw [no (by rw [if_pos h1])])
  have h1 : ¬ o = 0 := fun z => h1 (by rw [z]; rfl)
  rw [if_neg h1] at no next
  refine ⟨S, np, rfl, hnp, h24, ?_⟩
  refine And.intro (fun h2 => ?_) (fun h2 => ?_)
  · exact next (xb_ne h2)
  · exact And.intro rfl (by rw [no (xb_eq h2)])
set_option maxRecDepth 100000 in
set_option maxHeartbeats 4000000 in
theorem sc_b (Q S : cS) (WC : xC → xO → List Value → xA → Prop) (hW : xSys xL_X2_setUpCell (xlk xfl2) (xlk xcl2) (xCt [(98, t_open), (108, t_isFluid), (83, t_cellIndex), (114, t_makerOf), (133, t_faceIndex)]) (xRt none (fun vs aw' => vs = [] ∧ aw' = cW Q)) WC) (i j : Nat) (hi : i < 6) (hj : j < 6) (next : WC (xL_X2_setUpCell.drop 28) [some (.ref 7), some (.ref 1), some (.ref 5), some (.ref 6), some (.int (nI i)), some (.int (nI j)), some (.int (nI (opX (cA S 11) (nI i) (nI j)))), some (.int (nI j * nI 6 + nI i))] [] (cW (su1 S i j))) : WC (xL_X2_setUpCell.drop 13) [some (.ref 7), some (.ref 1), some (.ref 5), some (.ref 6), some (.int (nI i)), some (.int (nI j)), some (.int (nI (opX (cA S 11) (nI i) (nI j)))), none] [] (cW S) := by
  have ec : nI j * nI 6 + nI i = nI (6 * j + i) := by rw [pk_mul, nI_add, Nat.mul_comm]
  unfold su1 at next
  generalize opX (cA S 11) (nI i) (nI j) = o at next ⊢
  refine hW.1 (fun pc => Nat.beq pc 54) 200 13 _ _ _ ?_
  refine ⟨6 * j + i, true, rfl, ec, by omega, by decide, ?_⟩
  refine ⟨6 * j + i, ec, by omega, by decide, ?_⟩
  exact next
set_option maxRecDepth 100000 in
set_option maxHeartbeats 4000000 in
theorem sc_c (Q S : cS) (WC : xC → xO → List Value → xA → Prop) (hW : xSys xL_X2_setUpCell (xlk xfl2) (xlk xcl2) (xCt [(98, t_open), (108, t_isFluid), (83, t_cellIndex), (114, t_makerOf), (133, t_faceIndex)]) (xRt none (fun vs aw' => vs = [] ∧ aw' = cW Q)) WC) (i j : Nat) (hi : i < 6) (hj : j < 6) (o : Int32) (ok : mkOk (cD S 28) (cD S 29) (cA S 27) (6 * j + i)) (next : WC (xL_X2_setUpCell.drop 36) [some (.ref 7), some (.ref 1), some (.ref 5), some (.ref 6), some (.int (nI i)), some (.int (nI j)), some (.int (o)), some (.int (nI j * nI 6 + nI i))] [] (cW (su2 S i j))) : WC (xL_X2_setUpCell.drop 28) [some (.ref 7), some (.ref 1), some (.ref 5), some (.ref 6), some (.int (nI i)), some (.int (nI j)), some (.int (o)), some (.int (nI j * nI 6 + nI i))] [] (cW S) := by
  have ec : nI j * nI 6 + nI i = nI (6 * j + i) := by rw [pk_mul, nI_add, Nat.mul_comm]
  unfold su2 at next
  refine hW.1 (fun pc => Nat.beq pc 69) 200 28 _ _ _ ?_
  refine ⟨S, i, j, rfl, rfl, rfl, hi, hj, ok, ?_⟩
  generalize mkV (cD S 28) (cD S 29) (cA S 27) (6 * j + i) = v at next ⊢
  refine ⟨6 * j + i, ec, by omega, by decide, ?_⟩
  exact next
set_option maxRecDepth 100000 in
set_option maxHeartbeats 4000000 in
theorem sc_d (Q S : cS) (WC : xC → xO → List Value → xA → Prop) (hW : xSys xL_X2_setUpCell (xlk xfl2) (xlk xcl2) (xCt [(98, t_open), (108, t_isFluid), (83, t_cellIndex), (114, t_makerOf), (133, t_faceIndex)]) (xRt none (fun vs aw' => vs = [] ∧ aw' = cW Q)) WC) (i j : Nat) (hi : i < 6) (hj : j < 6) (o : Int32) (ok : su3O S i j) (hQ : Q = su3 S i j) : WC (xL_X2_setUpCell.drop 36) [some (.ref 7), some (.ref 1), some (.ref 5), some (.ref 6), some (.int (nI i)), some (.int (nI j)), some (.int (o)), some (.int (nI j * nI 6 + nI i))] [] (cW S) := by
  have ec : nI j * nI 6 + nI i = nI (6 * j + i) := by rw [pk_mul, nI_add, Nat.mul_comm]
  obtain ⟨o1, o2, o3, o4⟩ := ok
  refine hW.1 (fun _ => false) 200 36 _ _ _ ?_
  refine ⟨7 * j + (i + 1), by rw [pk_mul, nI_add, nI_add, Nat.mul_comm], by omega, by decide, ?_⟩
  refine ⟨7 * j + i, by rw [pk_mul, nI_add, Nat.mul_comm], by omega, by decide, ?_⟩
  refine And.intro o1 ?_
  refine ⟨7 * (j + 1) + i, by rw [nI_add, pk_mul, nI_add, Nat.mul_comm], by omega, by decide, ?_⟩
  refine And.intro o2 ?_
  refine ⟨7 * j + i, by rw [pk_mul, nI_add, Nat.mul_comm], by omega, by decide, ?_⟩
  refine And.intro o3 (And.intro o4 ?_)
  refine ⟨6 * j + i, ec, by omega, by decide, ?_⟩
  exact And.intro rfl (by rw [hQ]; rfl)
theorem n_setUpCell (S : cS) (np : Nat) (hnp : cI S 1 = nI np) (h24 : np ≤ 24) (i j : Nat) (hi : i < 6) (hj : j < 6) (hok : suOk S np i j) : xMet l yX2_setUpCell cX2_setUpCell 8 none 3 D ad cy [.ref 7, .ref 1, .ref 5, .ref 6, .int (nI i), .int (nI j)] (cW S) (fun vs aw' => vs = [] ∧ aw' = cW (suF S np i j)) := by
  refine xmet (Fd := xlk xfl2) (Cn := xlk xcl2) (Cl := xCt [(98, t_open), (108, t_isFluid), (83, t_cellIndex), (114, t_makerOf), (133, t_faceIndex)]) (by decide) xk_X2_setUpCell xt_X2_setUpCell ⟨_, _, rfl, rfl⟩ xpl2 (xEnt_ok (List.forall_mem_cons.mpr ⟨f_open2 (by omega), List.forall_mem_cons.mpr ⟨f_isFluid2 (by omega), List.forall_mem_cons.mpr ⟨f_cellIndex2 (by omega), List.forall_mem_cons.mpr ⟨f_makerOf (by omega), List.forall_mem_cons.mpr ⟨f_faceIndex2 (by omega), fun q h => by cases h⟩⟩⟩⟩⟩)) (Nat.le_of_ble_eq_true rfl) (fun WC hW => ?_)
  refine sc_a _ S WC hW np hnp h24 i j hi hj (fun h => by unfold suF; rw [h]; rfl) (fun h => ?_)
  obtain ⟨k1, k2⟩ := hok h
  refine sc_b _ S WC hW i j hi hj ?_
  refine sc_c _ (su1 S i j) WC hW i j hi hj _ k1 ?_
  exact sc_d _ (su2 (su1 S i j) i j) WC hW i j hi hj _ k2 (by unfold suF; rw [if_pos h])
def t_setUpCell (st : List Value) (aw : xA) (k : List Value → xA → Prop) : Prop := match st with
  | .int y :: .int x :: .ref 6 :: .ref 5 :: .ref 1 :: .ref 7 :: st => match xsm st with
    | true => ∃ (S : cS) (np i j : Nat), aw = cW S ∧ x = nI i ∧ y = nI j ∧ cI S 1 = nI np ∧ np ≤ 24 ∧ i < 6 ∧ j < 6 ∧ suOk S np i j ∧ k st (cW (suF S np i j))
    | false => False
  | _ => False
theorem f_setUpCell {d : Nat} (hd : 4 ≤ d) : xEnt l d D ad cy RX2 90 t_setUpCell := xEnt_V (y' := yX2_setUpCell) (cc' := cX2_setUpCell) (n' := 8) (ret' := none) (d' := 3) (j := 45) 5 (by decide +kernel) (by decide +kernel) (by omega) (fun st aw k h => by
  match st, h with
  | .int y :: .int x :: .ref 6 :: .ref 5 :: .ref 1 :: .ref 7 :: st, h =>
    cases hs : xsm st with
    | false => simp only [t_setUpCell, hs] at h
    | true =>
      simp only [t_setUpCell, hs] at h
      obtain ⟨S, np, i, j, rfl, rfl, rfl, hnp, h24, hi, hj, hok, h2⟩ := h
      exact ⟨[.ref 1, .ref 5, .ref 6, .int (nI i), .int (nI j)], st, _, 7, 2, _, rfl, rfl, hs, rfl, ⟨_, rfl, rfl⟩, n_setUpCell S np hnp h24 i j hi hj hok, fun vs aw' h9 => by obtain ⟨rfl, rfl⟩ := h9; exact h2⟩)
end C9
