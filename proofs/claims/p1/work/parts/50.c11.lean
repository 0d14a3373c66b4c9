/-! the class: Faces.takeFrom -/
section C11
variable {l : Launch} {D : va_G} {ad : Nat → Nat} {cy : Nat → ClassId}
set_option maxRecDepth 100000 in
set_option maxHeartbeats 4000000 in
theorem n_fTake5 (S : cS) : xMet l yX0_takeFrom cX0_takeFrom 2 none 1 D ad cy [.ref 5, .ref 3] (cW S) (fun vs aw' => vs = [] ∧ aw' = cW (cD' S 23 (va_cpy (cD S 21) (cD S 23) 0 0 49))) := by
  refine xmet (Fd := xlk xfl0) (Cn := xlk xcl0) (Cl := xCt [(75, t_copyD)]) (by decide) xk_X0_takeFrom xt_X0_takeFrom ⟨_, _, rfl, rfl⟩ xpl0 (xEnt_ok (List.forall_mem_cons.mpr ⟨f_copyD (own := RX0) (j := 37) (by decide +kernel) (by omega), fun q h => by cases h⟩)) (Nat.le_of_ble_eq_true rfl) (fun WC hW => ?_)
  refine hW.1 (fun _ => false) 100 0 _ _ _ ?_
  refine ⟨49, rfl, rfl, rfl, by decide, by decide, by decide, ?_⟩
  exact And.intro rfl rfl
set_option maxRecDepth 100000 in
set_option maxHeartbeats 4000000 in
theorem n_fTake6 (S : cS) : xMet l yX0_takeFrom cX0_takeFrom 2 none 1 D ad cy [.ref 6, .ref 4] (cW S) (fun vs aw' => vs = [] ∧ aw' = cW (cD' S 24 (va_cpy (cD S 22) (cD S 24) 0 0 49))) := by
  refine xmet (Fd := xlk xfl0) (Cn := xlk xcl0) (Cl := xCt [(75, t_copyD)]) (by decide) xk_X0_takeFrom xt_X0_takeFrom ⟨_, _, rfl, rfl⟩ xpl0 (xEnt_ok (List.forall_mem_cons.mpr ⟨f_copyD (own := RX0) (j := 37) (by decide +kernel) (by omega), fun q h => by cases h⟩)) (Nat.le_of_ble_eq_true rfl) (fun WC hW => ?_)
  refine hW.1 (fun _ => false) 100 0 _ _ _ ?_
  refine ⟨49, rfl, rfl, rfl, by decide, by decide, by decide, ?_⟩
  exact And.intro rfl rfl
set_option maxRecDepth 100000 in
set_option maxHeartbeats 4000000 in
theorem n_fTake9 (S : cS) : xMet l yX0_takeFrom cX0_takeFrom 2 none 1 D ad cy [.ref 9, .ref 5] (cW S) (fun vs aw' => vs = [] ∧ aw' = cW (cD' S 25 (va_cpy (cD S 23) (cD S 25) 0 0 49))) := by
  refine xmet (Fd := xlk xfl0) (Cn := xlk xcl0) (Cl := xCt [(75, t_copyD)]) (by decide) xk_X0_takeFrom xt_X0_takeFrom ⟨_, _, rfl, rfl⟩ xpl0 (xEnt_ok (List.forall_mem_cons.mpr ⟨f_copyD (own := RX0) (j := 37) (by decide +kernel) (by omega), fun q h => by cases h⟩)) (Nat.le_of_ble_eq_true rfl) (fun WC hW => ?_)
  refine hW.1 (fun _ => false) 100 0 _ _ _ ?_
  refine ⟨49, rfl, rfl, rfl, by decide, by decide, by decide, ?_⟩
  exact And.intro rfl rfl
set_option maxRecDepth 100000 in
set_option maxHeartbeats 4000000 in
theorem n_fTake10 (S : cS) : xMet l yX0_takeFrom cX0_takeFrom 2 none 1 D ad cy [.ref 10, .ref 6] (cW S) (fun vs aw' => vs = [] ∧ aw' = cW (cD' S 26 (va_cpy (cD S 24) (cD S 26) 0 0 49))) := by
  refine xmet (Fd := xlk xfl0) (Cn := xlk xcl0) (Cl := xCt [(75, t_copyD)]) (by decide) xk_X0_takeFrom xt_X0_takeFrom ⟨_, _, rfl, rfl⟩ xpl0 (xEnt_ok (List.forall_mem_cons.mpr ⟨f_copyD (own := RX0) (j := 37) (by decide +kernel) (by omega), fun q h => by cases h⟩)) (Nat.le_of_ble_eq_true rfl) (fun WC hW => ?_)
  refine hW.1 (fun _ => false) 100 0 _ _ _ ?_
  refine ⟨49, rfl, rfl, rfl, by decide, by decide, by decide, ?_⟩
  exact And.intro rfl rfl
end C11
