/-! the constructors -/
def hdcB (own : String) (q : Nat × Nat × Nat) : Bool := match vwCl[q.2.1]? with
  | some (_, T, _) => !(T q.2.2).2.2.2 || decide ((T q.2.2).1 = own)
  | none => true
theorem hdc_of {own : String} {fl : List (Nat × Nat × Nat)} (h : fl.all (hdcB own) = true) : ∀ j ci k, xlk fl j = some (ci, k) → ∀ C T N, vwCl[ci]? = some (C, T, N) → (T k).2.2.2 = true → (T k).1 = own := by
  intro j ci k hj C T N hc hf
  have h1 := List.all_eq_true.mp h _ (xlk_mem fl j (ci, k) hj)
  unfold hdcB at h1
  simp only [hc, hf, Bool.not_true, Bool.false_or, decide_eq_true_eq] at h1
  exact h1
theorem zcl_of {own : String} {cl : List (Nat × Nat × List Value)} (h : ∀ q ∈ cl, ∃ (C : String) (T : u_T) (N : Nat), vwCl[q.2.1]? = some (C, T, N) ∧ q.2.2.length = N ∧ Cond.classLink own q.1 C ∈ xG ∧ Cond.instantiable C N ∈ xG ∧ Cond.initialized C ∈ xG ∧ (∀ k, k < N → defaultValue (xtyp q.2.1 k) = vp_V q.2.2 k) ∧ q.2.2.all nrf = true) : zClOk own (xlk cl) := fun j ci fs hj => h _ (xlk_mem cl j (ci, fs) hj)
def zdF : List Value := [.int 0, .int 0, .int 0, .int 0, .double 0, .double 0, .null]
def zdR : List Value := [.null, .null, .null, .double 0]
def zdV : List Value := [.null, .null, .null, .null, .null, .null, .null, .null]
def zdS : List Value := [.double 0, .float 0, .double 0, .int 0, .null, .int 0, .null, .null, .null, .null]
def zdB : List Value := [.null, .null, .null, .null, .null, .null, .null, .null, .int 0, .int 0]
def zdM : List Value := [.int 0, .null, .null, .null, .null, .null, .null, .null, .int 0, .int 0, .null, .null, .double 0, .null, .null, .null, .null, .null, .null, .null, .null, .null, .null, .null, .null]
theorem zddF : ∀ k, k < 7 → defaultValue (xtyp 0 k) = vp_V zdF k := by
  intro k hk
  match k, hk with
  | 0, _ => rfl
  | 1, _ => rfl
  | 2, _ => rfl
  | 3, _ => rfl
  | 4, _ => rfl
  | 5, _ => rfl
  | 6, _ => rfl
  | k + 7, h => exact absurd h (by omega)
theorem zddR : ∀ k, k < 4 → defaultValue (xtyp 1 k) = vp_V zdR k := by
  intro k hk
  match k, hk with
  | 0, _ => rfl
  | 1, _ => rfl
  | 2, _ => rfl
  | 3, _ => rfl
  | k + 4, h => exact absurd h (by omega)
theorem zddV : ∀ k, k < 8 → defaultValue (xtyp 2 k) = vp_V zdV k := by
  intro k hk
  match k, hk with
  | 0, _ => rfl
  | 1, _ => rfl
  | 2, _ => rfl
  | 3, _ => rfl
  | 4, _ => rfl
  | 5, _ => rfl
  | 6, _ => rfl
  | 7, _ => rfl
  | k + 8, h => exact absurd h (by omega)
theorem zddS : ∀ k, k < 10 → defaultValue (xtyp 3 k) = vp_V zdS k := by
  intro k hk
  match k, hk with
  | 0, _ => rfl
  | 1, _ => rfl
  | 2, _ => rfl
  | 3, _ => rfl
  | 4, _ => rfl
  | 5, _ => rfl
  | 6, _ => rfl
  | 7, _ => rfl
  | 8, _ => rfl
  | 9, _ => rfl
  | k + 10, h => exact absurd h (by omega)
theorem zddB : ∀ k, k < 10 → defaultValue (xtyp 4 k) = vp_V zdB k := by
  intro k hk
  match k, hk with
  | 0, _ => rfl
  | 1, _ => rfl
  | 2, _ => rfl
  | 3, _ => rfl
  | 4, _ => rfl
  | 5, _ => rfl
  | 6, _ => rfl
  | 7, _ => rfl
  | 8, _ => rfl
  | 9, _ => rfl
  | k + 10, h => exact absurd h (by omega)
theorem zddM : ∀ k, k < 25 → defaultValue (xtyp 5 k) = vp_V zdM k := by
  intro k hk
  match k, hk with
  | 0, _ => rfl
  | 1, _ => rfl
  | 2, _ => rfl
  | 3, _ => rfl
  | 4, _ => rfl
  | 5, _ => rfl
  | 6, _ => rfl
  | 7, _ => rfl
  | 8, _ => rfl
  | 9, _ => rfl
  | 10, _ => rfl
  | 11, _ => rfl
  | 12, _ => rfl
  | 13, _ => rfl
  | 14, _ => rfl
  | 15, _ => rfl
  | 16, _ => rfl
  | 17, _ => rfl
  | 18, _ => rfl
  | 19, _ => rfl
  | 20, _ => rfl
  | 21, _ => rfl
  | 22, _ => rfl
  | 23, _ => rfl
  | 24, _ => rfl
  | k + 25, h => exact absurd h (by omega)
def zfl0 : List (Nat × Nat × Nat) := [(9, 0, 6), (15, 0, 0), (19, 0, 1), (22, 0, 2), (25, 0, 3), (30, 0, 4), (34, 0, 5)]
def zfl1 : List (Nat × Nat × Nat) := [(14, 1, 0), (20, 1, 1), (23, 1, 2), (27, 1, 3)]
def zfl2 : List (Nat × Nat × Nat) := [(9, 2, 0), (15, 2, 1), (19, 2, 2), (22, 2, 3), (25, 2, 4), (28, 2, 5), (31, 2, 6), (34, 2, 7)]
def zfl3 : List (Nat × Nat × Nat) := [(11, 3, 0), (18, 3, 1), (24, 3, 2), (27, 3, 3), (31, 3, 4), (35, 3, 5), (38, 3, 6), (42, 3, 7), (45, 3, 8), (48, 3, 9)]
def zfl4 : List (Nat × Nat × Nat) := [(10, 4, 0), (16, 4, 1), (24, 4, 2), (28, 4, 3), (31, 4, 4), (34, 4, 5), (40, 4, 6), (47, 4, 7), (51, 4, 8), (55, 4, 9)]
def zfl5 : List (Nat × Nat × Nat) := [(7, 5, 1), (13, 5, 2), (17, 5, 3), (21, 5, 4), (25, 5, 5), (28, 5, 6), (31, 5, 7), (34, 5, 10), (37, 5, 11), (40, 5, 13), (43, 5, 14), (46, 5, 15), (49, 5, 16), (52, 5, 17), (55, 5, 18), (58, 5, 19), (61, 5, 20), (64, 5, 21), (67, 5, 22), (70, 5, 23), (73, 5, 24), (81, 5, 0), (186, 5, 9), (200, 5, 12), (204, 5, 8)]
section Z5
variable {l : Launch} {D : va_G} {cy : Nat → ClassId}
def zoS1 : va_E := .inr (3, [.double 13830554455654793216, .float 1056964608, .double 4593671619917905920, .int (nI 20), .ref 1, .int (nI 0), .ref 2, .ref 3, .ref 4, .ref 5])
def zoS2 : xA := [zar 3 36, zar 1 24, zar 1 24, zar 1 24, zar 1 24]
set_option maxRecDepth 100000 in
set_option maxHeartbeats 4000000 in
theorem z_State : zMet l yX3_init cX3_init 1 1 5 132 D cy [] (.inr (3, zdS)) (zoS1 :: zoS2) := by
  refine zmet (Fd := xlk zfl3) (Cn := xlk xcl3) (Cw := xlk ([] : List (Nat × Nat × List Value))) (Ck := zCt [(3, z_obj)]) (by decide) rfl xk_X3_init xt_X3_init ⟨_, _, rfl, rfl⟩ (xpool_of (by decide +kernel) (by decide +kernel)) (hdc_of (by decide +kernel)) (zcl_of (fun q h => by cases h)) (zEnt_ok (List.forall_mem_cons.mpr ⟨ze_obj (by decide +kernel) ⟨by decide, by decide⟩, fun q h => by cases h⟩)) (Nat.le_of_ble_eq_true rfl) rfl (fun _ => rfl) (fun ZC hZ => ?_)
  refine hZ.1 (fun _ => false) 60 0 0 0 _ _ _ ?_
  refine ⟨36, rfl, by decide, by decide, by decide, ?_⟩
  refine ⟨24, rfl, by decide, by decide, by decide, ?_⟩
  refine ⟨24, rfl, by decide, by decide, by decide, ?_⟩
  refine ⟨24, rfl, by decide, by decide, by decide, ?_⟩
  refine ⟨24, rfl, by decide, by decide, by decide, ?_⟩
  exact ⟨by decide, by decide, rfl, rfl⟩
def zoV1 : va_E := .inr (2, [.ref 1, .ref 2, .ref 3, .ref 4, .ref 5, .ref 6, .ref 7, .ref 8])
def zoV2 : xA := [zar 3 36, zar 0 36, zar 0 36, zar 0 36, zar 0 36, zar 0 36, zar 0 36, zar 0 36]
set_option maxRecDepth 100000 in
set_option maxHeartbeats 4000000 in
theorem z_Solver : zMet l yX2_init cX2_init 1 1 8 288 D cy [] (.inr (2, zdV)) (zoV1 :: zoV2) := by
  refine zmet (Fd := xlk zfl2) (Cn := xlk xcl2) (Cw := xlk ([] : List (Nat × Nat × List Value))) (Ck := zCt [(3, z_obj)]) (by decide) rfl xk_X2_init xt_X2_init ⟨_, _, rfl, rfl⟩ (xpool_of (by decide +kernel) (by decide +kernel)) (hdc_of (by decide +kernel)) (zcl_of (fun q h => by cases h)) (zEnt_ok (List.forall_mem_cons.mpr ⟨ze_obj (by decide +kernel) ⟨by decide, by decide⟩, fun q h => by cases h⟩)) (Nat.le_of_ble_eq_true rfl) rfl (fun _ => rfl) (fun ZC hZ => ?_)
  refine hZ.1 (fun _ => false) 60 0 0 0 _ _ _ ?_
  refine ⟨36, rfl, by decide, by decide, by decide, ?_⟩
  refine ⟨36, rfl, by decide, by decide, by decide, ?_⟩
  refine ⟨36, rfl, by decide, by decide, by decide, ?_⟩
  refine ⟨36, rfl, by decide, by decide, by decide, ?_⟩
  refine ⟨36, rfl, by decide, by decide, by decide, ?_⟩
  refine ⟨36, rfl, by decide, by decide, by decide, ?_⟩
  refine ⟨36, rfl, by decide, by decide, by decide, ?_⟩
  refine ⟨36, rfl, by decide, by decide, by decide, ?_⟩
  exact ⟨by decide, by decide, rfl, rfl⟩
set_option maxRecDepth 100000 in
set_option maxHeartbeats 4000000 in
theorem z_Faces0 : zMet l yX0_init cX0_init 3 1 1 49 D cy [.int (nI 0)] (.inr (0, zdF)) (faU 1 :: [zar 0 49]) := by
  refine zmet (Fd := xlk zfl0) (Cn := xlk xcl0) (Cw := xlk ([] : List (Nat × Nat × List Value))) (Ck := zCt [(3, z_obj)]) (by decide) rfl xk_X0_init xt_X0_init ⟨_, _, rfl, rfl⟩ (xpool_of (by decide +kernel) (by decide +kernel)) (hdc_of (by decide +kernel)) (zcl_of (fun q h => by cases h)) (zEnt_ok (List.forall_mem_cons.mpr ⟨ze_obj (by decide +kernel) ⟨by decide, by decide⟩, fun q h => by cases h⟩)) (Nat.le_of_ble_eq_true rfl) rfl (fun _ => rfl) (fun ZC hZ => ?_)
  refine hZ.1 (fun _ => false) 90 0 0 0 _ _ _ ?_
  refine ⟨49, rfl, by decide, by decide, by decide, ?_⟩
  refine And.intro (fun h => absurd rfl h) (fun _ => ?_)
  refine And.intro (fun h => absurd h (by decide)) (fun _ => ?_)
  refine And.intro (fun h => absurd h (by decide)) (fun _ => ?_)
  refine And.intro (fun h => absurd h (by decide)) (fun _ => ?_)
  refine And.intro (fun h => absurd h (by decide)) (fun _ => ?_)
  refine And.intro (fun h => absurd h (by decide)) (fun _ => ?_)
  refine And.intro (fun h => absurd h (by decide)) (fun _ => ?_)
  exact ⟨by decide, by decide, rfl, rfl⟩
set_option maxRecDepth 100000 in
set_option maxHeartbeats 4000000 in
theorem z_Faces1 : zMet l yX0_init cX0_init 3 1 1 49 D cy [.int (nI 1)] (.inr (0, zdF)) (faV 1 :: [zar 0 49]) := by
  refine zmet (Fd := xlk zfl0) (Cn := xlk xcl0) (Cw := xlk ([] : List (Nat × Nat × List Value))) (Ck := zCt [(3, z_obj)]) (by decide) rfl xk_X0_init xt_X0_init ⟨_, _, rfl, rfl⟩ (xpool_of (by decide +kernel) (by decide +kernel)) (hdc_of (by decide +kernel)) (zcl_of (fun q h => by cases h)) (zEnt_ok (List.forall_mem_cons.mpr ⟨ze_obj (by decide +kernel) ⟨by decide, by decide⟩, fun q h => by cases h⟩)) (Nat.le_of_ble_eq_true rfl) rfl (fun _ => rfl) (fun ZC hZ => ?_)
  refine hZ.1 (fun _ => false) 90 0 0 0 _ _ _ ?_
  refine ⟨49, rfl, by decide, by decide, by decide, ?_⟩
  refine And.intro (fun _ => ?_) (fun h => absurd h (by decide))
  refine And.intro (fun _ => ?_) (fun h => absurd rfl h)
  refine And.intro (fun _ => ?_) (fun h => absurd rfl h)
  refine And.intro (fun _ => ?_) (fun h => absurd rfl h)
  refine And.intro (fun _ => ?_) (fun h => absurd rfl h)
  refine And.intro (fun _ => ?_) (fun h => absurd rfl h)
  refine And.intro (fun _ => ?_) (fun h => absurd rfl h)
  exact ⟨by decide, by decide, rfl, rfl⟩
theorem ze_or {R : Room} {own : String} {j : Nat} {s1 s2 : xO → List Value → xA → Nat → Nat → (Nat → Nat → List Value → xA → Prop) → Prop} (h1 : zEnt l R D cy own j s1) (h2 : zEnt l R D cy own j s2) : zEnt l R D cy own j (fun lv st aw c9 s9 k => s1 lv st aw c9 s9 k ∨ s2 lv st aw c9 s9 k) := by
  intro cc L Fd Cn p e s m args below meth c Q A a0 hA F n q hq hi hi3 lv st aw c9 s9 k hk kk
  rcases hk with hk | hk
  · exact h1 cc L Fd Cn p e s m args below meth c Q A a0 hA F n q hq hi hi3 lv st aw c9 s9 k hk kk
  · exact h2 cc L Fd Cn p e s m args below meth c Q A a0 hA F n q hq hi hi3 lv st aw c9 s9 k hk kk
def zoR1 : va_E := .inr (1, [.ref 1, .ref 3, .ref 5, .double FP.dconst0])
def zoR2 : xA := [faU 2, zar 0 49, faV 4, zar 0 49, zar 0 36]
set_option maxRecDepth 100000 in
set_option maxHeartbeats 4000000 in
theorem z_Result : zMet l yX1_init cX1_init 1 2 5 148 D cy [] (.inr (1, zdR)) (zoR1 :: zoR2) := by
  refine zmet (Fd := xlk zfl1) (Cn := xlk xcl1) (Cw := xlk ([(9, 0, zdF)] : List (Nat × Nat × List Value))) (Ck := zCt [(3, z_obj), (11, (fun lv st aw c9 s9 k => z_con 5 148 1 49 [.int (nI 0)] (.inr (0, zdF)) (faU 1) [zar 0 49] lv st aw c9 s9 k ∨ z_con 5 148 1 49 [.int (nI 1)] (.inr (0, zdF)) (faV 1) [zar 0 49] lv st aw c9 s9 k))]) (by decide) rfl xk_X1_init xt_X1_init ⟨_, _, rfl, rfl⟩ (xpool_of (by decide +kernel) (by decide +kernel)) (hdc_of (by decide +kernel)) (zcl_of (List.forall_mem_cons.mpr ⟨⟨RX0, TX0, 7, rfl, rfl, by decide +kernel, by decide +kernel, by decide +kernel, zddF, rfl⟩, fun q h => by cases h⟩)) (zEnt_ok (List.forall_mem_cons.mpr ⟨ze_obj (by decide +kernel) ⟨by decide, by decide⟩, List.forall_mem_cons.mpr ⟨ze_or (ze_con (R := zRm 2 5 148) z_Faces0 (by decide +kernel) rfl (by decide +kernel) ⟨by decide, by decide⟩ rfl (fun _ => rfl)) (ze_con (R := zRm 2 5 148) z_Faces1 (by decide +kernel) rfl (by decide +kernel) ⟨by decide, by decide⟩ rfl (fun _ => rfl)), fun q h => by cases h⟩⟩)) (Nat.le_of_ble_eq_true rfl) rfl (fun _ => rfl) (fun ZC hZ => ?_)
  refine hZ.1 (fun _ => false) 60 0 0 0 _ _ _ ?_
  refine ⟨by decide, by decide, ?_⟩
  refine Or.inl ⟨1, [.ref 1, .ref 0], rfl, rfl, rfl, rfl, by decide, by decide, ?_⟩
  refine ⟨by decide, by decide, ?_⟩
  refine Or.inr ⟨3, [.ref 3, .ref 0], rfl, rfl, rfl, rfl, by decide, by decide, ?_⟩
  refine ⟨36, rfl, by decide, by decide, by decide, ?_⟩
  exact ⟨by decide, by decide, rfl, rfl⟩
def zoB : xA := [.inr (4, [.ref 1, .ref 7, .ref 13, .ref 15, .ref 17, .ref 19, .ref 21, .ref 30, .int (nI 0), .int (nI 0)]), .inr (3, [.double 13830554455654793216, .float 1056964608, .double 4593671619917905920, .int (nI 20), .ref 2, .int (nI 0), .ref 3, .ref 4, .ref 5, .ref 6]), zar 3 36, zar 1 24, zar 1 24, zar 1 24, zar 1 24, .inr (3, [.double 13830554455654793216, .float 1056964608, .double 4593671619917905920, .int (nI 20), .ref 8, .int (nI 0), .ref 9, .ref 10, .ref 11, .ref 12]), zar 3 36, zar 1 24, zar 1 24, zar 1 24, zar 1 24, faU 14, zar 0 49, faV 16, zar 0 49, faU 18, zar 0 49, faV 20, zar 0 49, .inr (2, [.ref 22, .ref 23, .ref 24, .ref 25, .ref 26, .ref 27, .ref 28, .ref 29]), zar 3 36, zar 0 36, zar 0 36, zar 0 36, zar 0 36, zar 0 36, zar 0 36, zar 0 36, .inr (1, [.ref 31, .ref 33, .ref 35, .double FP.dconst0]), faU 32, zar 0 49, faV 34, zar 0 49, zar 0 36]
set_option maxRecDepth 100000 in
set_option maxHeartbeats 4000000 in
theorem z_Box : zMet l yX4_init cX4_init 1 3 35 956 D cy [] (.inr (4, zdB)) zoB := by
  refine zmet (Fd := xlk zfl4) (Cn := xlk xcl4) (Cw := xlk ([(7, 3, zdS), (19, 0, zdF), (37, 2, zdV), (44, 1, zdR)] : List (Nat × Nat × List Value))) (Ck := zCt [(1, z_obj), (9, (z_con 35 956 5 132 [] (.inr (3, zdS)) zoS1 zoS2)), (21, (fun lv st aw c9 s9 k => z_con 35 956 1 49 [.int (nI 0)] (.inr (0, zdF)) (faU 1) [zar 0 49] lv st aw c9 s9 k ∨ z_con 35 956 1 49 [.int (nI 1)] (.inr (0, zdF)) (faV 1) [zar 0 49] lv st aw c9 s9 k)), (39, (z_con 35 956 8 288 [] (.inr (2, zdV)) zoV1 zoV2)), (46, (z_con 35 956 5 148 [] (.inr (1, zdR)) zoR1 zoR2))]) (by decide) rfl xk_X4_init xt_X4_init ⟨_, _, rfl, rfl⟩ (xpool_of (by decide +kernel) (by decide +kernel)) (hdc_of (by decide +kernel)) (zcl_of (List.forall_mem_cons.mpr ⟨⟨RX3, TX3, 10, rfl, rfl, by decide +kernel, by decide +kernel, by decide +kernel, zddS, rfl⟩, List.forall_mem_cons.mpr ⟨⟨RX0, TX0, 7, rfl, rfl, by decide +kernel, by decide +kernel, by decide +kernel, zddF, rfl⟩, List.forall_mem_cons.mpr ⟨⟨RX2, TX2, 8, rfl, rfl, by decide +kernel, by decide +kernel, by decide +kernel, zddV, rfl⟩, List.forall_mem_cons.mpr ⟨⟨RX1, TX1, 4, rfl, rfl, by decide +kernel, by decide +kernel, by decide +kernel, zddR, rfl⟩, fun q h => by cases h⟩⟩⟩⟩)) (zEnt_ok (List.forall_mem_cons.mpr ⟨ze_obj (by decide +kernel) ⟨by decide, by decide⟩, List.forall_mem_cons.mpr ⟨ze_conN (host := RX4) (R := zRm 3 35 956) z_State (by decide +kernel) (by decide +kernel) rfl (by decide +kernel) ⟨by decide, by decide⟩ rfl (fun _ => rfl), List.forall_mem_cons.mpr ⟨ze_or (ze_con (R := zRm 3 35 956) z_Faces0 (by decide +kernel) rfl (by decide +kernel) ⟨by decide, by decide⟩ rfl (fun _ => rfl)) (ze_con (R := zRm 3 35 956) z_Faces1 (by decide +kernel) rfl (by decide +kernel) ⟨by decide, by decide⟩ rfl (fun _ => rfl)), List.forall_mem_cons.mpr ⟨ze_conN (host := RX4) (R := zRm 3 35 956) z_Solver (by decide +kernel) (by decide +kernel) rfl (by decide +kernel) ⟨by decide, by decide⟩ rfl (fun _ => rfl), List.forall_mem_cons.mpr ⟨ze_conN (host := RX4) (R := zRm 3 35 956) z_Result (by decide +kernel) (by decide +kernel) rfl (by decide +kernel) ⟨by decide, by decide⟩ rfl (fun _ => rfl), fun q h => by cases h⟩⟩⟩⟩⟩)) (Nat.le_of_ble_eq_true rfl) rfl (fun _ => rfl) (fun ZC hZ => ?_)
  refine hZ.1 (fun _ => false) 90 0 0 0 _ _ _ ?_
  refine ⟨by decide, by decide, ?_⟩
  refine ⟨1, [.ref 1, .ref 0], rfl, rfl, rfl, rfl, by decide, by decide, ?_⟩
  refine ⟨by decide, by decide, ?_⟩
  refine ⟨7, [.ref 7, .ref 0], rfl, rfl, rfl, rfl, by decide, by decide, ?_⟩
  refine ⟨by decide, by decide, ?_⟩
  refine Or.inl ⟨13, [.ref 13, .ref 0], rfl, rfl, rfl, rfl, by decide, by decide, ?_⟩
  refine ⟨by decide, by decide, ?_⟩
  refine Or.inr ⟨15, [.ref 15, .ref 0], rfl, rfl, rfl, rfl, by decide, by decide, ?_⟩
  refine ⟨by decide, by decide, ?_⟩
  refine Or.inl ⟨17, [.ref 17, .ref 0], rfl, rfl, rfl, rfl, by decide, by decide, ?_⟩
  refine ⟨by decide, by decide, ?_⟩
  refine Or.inr ⟨19, [.ref 19, .ref 0], rfl, rfl, rfl, rfl, by decide, by decide, ?_⟩
  refine ⟨by decide, by decide, ?_⟩
  refine ⟨21, [.ref 21, .ref 0], rfl, rfl, rfl, rfl, by decide, by decide, ?_⟩
  refine ⟨by decide, by decide, ?_⟩
  refine ⟨30, [.ref 30, .ref 0], rfl, rfl, rfl, rfl, by decide, by decide, ?_⟩
  exact ⟨by decide, by decide, rfl, rfl⟩
def T00 : mS := (fun _ => nI 0, 0, fun p => match p with
  | 7 => upd (upd (fun _ => 0) 0 (nI 20)) 1 (nI 20)
  | _ => fun _ => 0, fun p => match p with
  | 5 => vf_upd (vf_upd (fun _ => 0) 0 1056964608) 1 1056964608
  | _ => fun _ => 0, fun p => match p with
  | 4 => vf_upd (vf_upd (fun _ => 0) 0 13830554455654793216) 1 13830554455654793216
  | 6 => vf_upd (vf_upd (fun _ => 0) 0 4593671619917905920) 1 4593671619917905920
  | _ => fun _ => 0)
def T01 : mS := (fun _ => 0, 0, fun _ _ => 0, fun _ _ => 0, fun _ _ => 0)
set_option maxRecDepth 100000 in
set_option maxHeartbeats 4000000 in
theorem z_Model : zMet l yX5_init cX5_init 2 1 21 982 D cy [] (.inr (5, zdM)) (mW T00) := by
  refine zmet (Fd := xlk zfl5) (Cn := xlk xcl5) (Cw := xlk ([] : List (Nat × Nat × List Value))) (Ck := zCt [(1, z_obj)]) (by decide) rfl xk_X5_init xt_X5_init ⟨_, _, rfl, rfl⟩ (xpool_of (by decide +kernel) (by decide +kernel)) (hdc_of (by decide +kernel)) (zcl_of (fun q h => by cases h)) (zEnt_ok (List.forall_mem_cons.mpr ⟨ze_obj (by decide +kernel) ⟨by decide, by decide⟩, fun q h => by cases h⟩)) (Nat.le_of_ble_eq_true rfl) rfl (fun _ => rfl) (fun ZC hZ => ?_)
  have h9 : ZC 21 982 (xL_X5_init.drop 88) [some (.ref 0), some (.int (nI 0))] [] (mW T01) := by
    refine hZ.1 (fun _ => false) 90 21 982 88 _ _ _ ?_
    refine And.intro (fun h => absurd h (by decide)) (fun _ => ?_)
    refine ⟨0, rfl, by decide, by decide, ?_⟩
    refine ⟨0, rfl, by decide, by decide, ?_⟩
    refine ⟨0, rfl, by decide, by decide, ?_⟩
    refine ⟨0, rfl, by decide, by decide, ?_⟩
    refine And.intro (fun h => absurd h (by decide)) (fun _ => ?_)
    refine ⟨1, rfl, by decide, by decide, ?_⟩
    refine ⟨1, rfl, by decide, by decide, ?_⟩
    refine ⟨1, rfl, by decide, by decide, ?_⟩
    refine ⟨1, rfl, by decide, by decide, ?_⟩
    refine And.intro (fun _ => ?_) (fun h => absurd (by decide) h)
    exact ⟨by decide, by decide, rfl, rfl⟩
  refine hZ.1 (fun pc => Nat.beq pc 170) 120 0 0 0 _ _ _ ?_
  refine ⟨72, rfl, by decide, by decide, by decide, ?_⟩
  refine ⟨2, rfl, by decide, by decide, by decide, ?_⟩
  refine ⟨192, rfl, by decide, by decide, by decide, ?_⟩
  refine ⟨2, rfl, by decide, by decide, by decide, ?_⟩
  refine ⟨2, rfl, by decide, by decide, by decide, ?_⟩
  refine ⟨2, rfl, by decide, by decide, by decide, ?_⟩
  refine ⟨2, rfl, by decide, by decide, by decide, ?_⟩
  refine ⟨84, rfl, by decide, by decide, by decide, ?_⟩
  refine ⟨36, rfl, by decide, by decide, by decide, ?_⟩
  refine ⟨36, rfl, by decide, by decide, by decide, ?_⟩
  refine ⟨36, rfl, by decide, by decide, by decide, ?_⟩
  refine ⟨84, rfl, by decide, by decide, by decide, ?_⟩
  refine ⟨84, rfl, by decide, by decide, by decide, ?_⟩
  refine ⟨36, rfl, by decide, by decide, by decide, ?_⟩
  refine ⟨36, rfl, by decide, by decide, by decide, ?_⟩
  refine ⟨36, rfl, by decide, by decide, by decide, ?_⟩
  refine ⟨36, rfl, by decide, by decide, by decide, ?_⟩
  refine ⟨36, rfl, by decide, by decide, by decide, ?_⟩
  refine ⟨36, rfl, by decide, by decide, by decide, ?_⟩
  refine ⟨36, rfl, by decide, by decide, by decide, ?_⟩
  refine ⟨96, rfl, by decide, by decide, by decide, ?_⟩
  exact h9
end Z5
