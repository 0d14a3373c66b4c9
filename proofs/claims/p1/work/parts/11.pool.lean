/-! each class's pool, and the checks of the code tables -/
def xlk {α : Type} : List (Nat × α) → Nat → Option α
  | [], _ => none
  | q :: r, j => match Nat.beq q.1 j with
    | true => some q.2
    | false => xlk r j
theorem xlk_mem {α : Type} : ∀ (l : List (Nat × α)) (j : Nat) (a : α), xlk l j = some a → (j, a) ∈ l
  | [], _, _, h => by cases h
  | q :: r, j, a, h => by
    unfold xlk at h
    cases hb : Nat.beq q.1 j with
    | true =>
      rw [hb] at h
      have h : some q.2 = some a := h
      cases h
      have := Nat.eq_of_beq_eq_true hb
      subst this
      exact List.mem_cons_self
    | false =>
      rw [hb] at h
      exact List.mem_cons_of_mem _ (xlk_mem r j a h)
def xfdok (own : String) (q : Nat × Nat × Nat) : Bool := match vwCl[q.2.1]? with
  | some (_, T, N) => decide (q.2.2 < N) && (decide (Cond.fieldLink own q.1 (T q.2.2).1 (T q.2.2).2.1 (T q.2.2).2.2.1 ∈ xG) && decide (xfin q.2.1 q.2.2 = (T q.2.2).2.2.2))
  | none => false
def xcnok (own : String) (q : Nat × Value) : Bool := match q.2 with
  | .float x => decide (Cond.constantFloat own q.1 x ∈ xG)
  | .double x => decide (Cond.constantDouble own q.1 x ∈ xG)
  | _ => false
theorem xcls : ∀ (ci : Nat) (C : String) (T : u_T) (N : Nat), vwCl[ci]? = some (C, T, N) → (∀ w ∈ u_ws C T N, w ∈ xG) ∧ (∀ k, k < N → parseFieldDescriptor (T k).2.2.1 = some (xtyp ci k)) ∧ (∀ a, a < N → ∀ b, b < N → a ≠ b → (T a).2.1 ≠ (T b).2.1)
  | 0, _, _, _, h => by cases h; exact ⟨xGX0, tyX0_ok, nmX0⟩
  | 1, _, _, _, h => by cases h; exact ⟨xGX1, tyX1_ok, nmX1⟩
  | 2, _, _, _, h => by cases h; exact ⟨xGX2, tyX2_ok, nmX2⟩
  | 3, _, _, _, h => by cases h; exact ⟨xGX3, tyX3_ok, nmX3⟩
  | 4, _, _, _, h => by cases h; exact ⟨xGX4, tyX4_ok, nmX4⟩
  | 5, _, _, _, h => by cases h; exact ⟨xGX5, tyX5_ok, nmX5⟩
  | n + 6, _, _, _, h => by simp [vwCl] at h
theorem xpool_of {own : String} {fl : List (Nat × Nat × Nat)} {cl : List (Nat × Value)} (hf : fl.all (xfdok own) = true) (hc : cl.all (xcnok own) = true) : xPool own (xlk fl) (xlk cl) := by
  refine ⟨fun j ci k h => ?_, fun j x h => ?_, fun j x h => ?_⟩
  · have h1 := List.all_eq_true.mp hf _ (xlk_mem fl j (ci, k) h)
    unfold xfdok at h1
    dsimp only at h1
    cases hv : vwCl[ci]? with
    | none => rw [hv] at h1; cases h1
    | some z =>
      obtain ⟨C, T, N⟩ := z
      rw [hv] at h1
      simp only [Bool.and_eq_true, decide_eq_true_eq] at h1
      obtain ⟨g1, g2, g3⟩ := h1
      obtain ⟨k1, k2, k3⟩ := xcls ci C T N hv
      exact ⟨C, T, N, rfl, g1, g2, k1, k2, k3, g3⟩
  · exact of_decide_eq_true (List.all_eq_true.mp hc _ (xlk_mem cl j (.float x) h))
  · exact of_decide_eq_true (List.all_eq_true.mp hc _ (xlk_mem cl j (.double x) h))
def xfl0 : List (Nat × Nat × Nat) := [(9, 0, 6), (15, 0, 0), (19, 0, 1), (22, 0, 2), (25, 0, 3), (30, 0, 4), (34, 0, 5), (51, 3, 5), (56, 3, 6), (64, 3, 7)]
def xcl0 : List (Nat × Value) := [(28, .double 4602678819172646912), (67, .double 13830554455654793216)]
set_option maxRecDepth 100000 in
theorem xpl0 : xPool RX0 (xlk xfl0) (xlk xcl0) := xpool_of (by decide +kernel) (by decide +kernel)
def xfl1 : List (Nat × Nat × Nat) := [(14, 1, 0), (20, 1, 1), (23, 1, 2), (27, 1, 3), (35, 2, 3)]
def xcl1 : List (Nat × Value) := []
set_option maxRecDepth 100000 in
theorem xpl1 : xPool RX1 (xlk xfl1) (xlk xcl1) := xpool_of (by decide +kernel) (by decide +kernel)
def xfl2 : List (Nat × Nat × Nat) := [(9, 2, 0), (15, 2, 1), (19, 2, 2), (22, 2, 3), (25, 2, 4), (28, 2, 5), (31, 2, 6), (34, 2, 7), (61, 0, 6)]
def xcl2 : List (Nat × Value) := [(72, .double 4598175219545276416), (94, .double 4562146422526312448)]
set_option maxRecDepth 100000 in
theorem xpl2 : xPool RX2 (xlk xfl2) (xlk xcl2) := xpool_of (by decide +kernel) (by decide +kernel)
def xfl3 : List (Nat × Nat × Nat) := [(11, 3, 0), (18, 3, 1), (24, 3, 2), (27, 3, 3), (31, 3, 4), (35, 3, 5), (38, 3, 6), (42, 3, 7), (45, 3, 8), (48, 3, 9)]
def xcl3 : List (Nat × Value) := [(9, .double 13830554455654793216), (17, .float 1056964608), (22, .double 4593671619917905920)]
set_option maxRecDepth 100000 in
theorem xpl3 : xPool RX3 (xlk xfl3) (xlk xcl3) := xpool_of (by decide +kernel) (by decide +kernel)
def xfl4 : List (Nat × Nat × Nat) := [(10, 4, 0), (16, 4, 1), (24, 4, 2), (28, 4, 3), (31, 4, 4), (34, 4, 5), (40, 4, 6), (47, 4, 7), (51, 4, 8), (55, 4, 9), (80, 3, 4), (102, 3, 5), (107, 3, 6), (111, 3, 7), (114, 3, 8), (117, 3, 9), (126, 3, 0), (132, 3, 1), (140, 3, 2), (143, 3, 3), (185, 1, 2), (191, 1, 0), (194, 1, 1), (202, 0, 6), (208, 1, 3)]
def xcl4 : List (Nat × Value) := [(120, .double 13839561654909534208), (122, .double 4616189618054758400), (211, .double 4602678819172646912), (238, .float 3238002688), (239, .float 1090519040), (244, .float 1056964608), (245, .float 1031798784), (246, .float 1086193664)]
set_option maxRecDepth 100000 in
theorem xpl4 : xPool RX4 (xlk xfl4) (xlk xcl4) := xpool_of (by decide +kernel) (by decide +kernel)
def xfl5 : List (Nat × Nat × Nat) := [(7, 5, 1), (13, 5, 2), (17, 5, 3), (21, 5, 4), (25, 5, 5), (28, 5, 6), (31, 5, 7), (34, 5, 10), (37, 5, 11), (40, 5, 13), (43, 5, 14), (46, 5, 15), (49, 5, 16), (52, 5, 17), (55, 5, 18), (58, 5, 19), (61, 5, 20), (64, 5, 21), (67, 5, 22), (70, 5, 23), (73, 5, 24), (81, 5, 0), (186, 5, 9), (200, 5, 12), (204, 5, 8)]
def xcl5 : List (Nat × Value) := [(76, .double 13830554455654793216), (78, .float 1056964608), (79, .double 4593671619917905920), (97, .float 1031798784), (98, .float 1086193664), (103, .float 3238002688), (104, .float 1090519040), (105, .double 13839561654909534208), (107, .double 4616189618054758400), (109, .double 4611686018427387904), (119, .double 4602678819172646912), (136, .double 4598175219545276416), (152, .double 4562146422526312448)]
set_option maxRecDepth 100000 in
theorem xpl5 : xPool RX5 (xlk xfl5) (xlk xcl5) := xpool_of (by decide +kernel) (by decide +kernel)
set_option maxRecDepth 100000 in
theorem xt_X0_init : xokT xL_X0_init = true := by decide +kernel
set_option maxRecDepth 100000 in
theorem xt_X0_isFace : xokT xL_X0_isFace = true := by decide +kernel
set_option maxRecDepth 100000 in
theorem xt_X0_takeFrom : xokT xL_X0_takeFrom = true := by decide +kernel
set_option maxRecDepth 100000 in
theorem xt_X0_gather : xokT xL_X0_gather = true := by decide +kernel
set_option maxRecDepth 100000 in
theorem xt_X0_gathered : xokT xL_X0_gathered = true := by decide +kernel
set_option maxRecDepth 100000 in
theorem xt_X0_hat : xokT xL_X0_hat = true := by decide +kernel
set_option maxRecDepth 100000 in
theorem xt_X0_addToAll : xokT xL_X0_addToAll = true := by decide +kernel
set_option maxRecDepth 100000 in
theorem xt_X0_closeFaces : xokT xL_X0_closeFaces = true := by decide +kernel
set_option maxRecDepth 100000 in
theorem xt_X0_isClosed : xokT xL_X0_isClosed = true := by decide +kernel
set_option maxRecDepth 100000 in
theorem xt_X0_applyPressure : xokT xL_X0_applyPressure = true := by decide +kernel
set_option maxRecDepth 100000 in
theorem xt_X0_sample : xokT xL_X0_sample = true := by decide +kernel
set_option maxRecDepth 100000 in
theorem xt_X0_hold : xokT xL_X0_hold = true := by decide +kernel
set_option maxRecDepth 100000 in
theorem xt_X1_init : xokT xL_X1_init = true := by decide +kernel
set_option maxRecDepth 100000 in
theorem xt_X1_keep : xokT xL_X1_keep = true := by decide +kernel
set_option maxRecDepth 100000 in
theorem xt_X2_init : xokT xL_X2_init = true := by decide +kernel
set_option maxRecDepth 100000 in
theorem xt_X2_isPart : xokT xL_X2_isPart = true := by decide +kernel
set_option maxRecDepth 100000 in
theorem xt_X2_pressureAt : xokT xL_X2_pressureAt = true := by decide +kernel
set_option maxRecDepth 100000 in
theorem xt_X2_setUp : xokT xL_X2_setUp = true := by decide +kernel
set_option maxRecDepth 100000 in
theorem xt_X2_setUpCell : xokT xL_X2_setUpCell = true := by decide +kernel
set_option maxRecDepth 100000 in
theorem xt_X2_makerOf : xokT xL_X2_makerOf = true := by decide +kernel
set_option maxRecDepth 100000 in
theorem xt_X2_findPressure : xokT xL_X2_findPressure = true := by decide +kernel
set_option maxRecDepth 100000 in
theorem xt_X2_greatestLeft : xokT xL_X2_greatestLeft = true := by decide +kernel
set_option maxRecDepth 100000 in
theorem xt_X2_product : xokT xL_X2_product = true := by decide +kernel
set_option maxRecDepth 100000 in
theorem xt_X2_advance : xokT xL_X2_advance = true := by decide +kernel
set_option maxRecDepth 100000 in
theorem xt_X2_turn : xokT xL_X2_turn = true := by decide +kernel
set_option maxRecDepth 100000 in
theorem xt_X2_multiplyS : xokT xL_X2_multiplyS = true := by decide +kernel
set_option maxRecDepth 100000 in
theorem xt_X2_matrixTimesS : xokT xL_X2_matrixTimesS = true := by decide +kernel
set_option maxRecDepth 100000 in
theorem xt_X2_makeZ : xokT xL_X2_makeZ = true := by decide +kernel
set_option maxRecDepth 100000 in
theorem xt_X2_forward : xokT xL_X2_forward = true := by decide +kernel
set_option maxRecDepth 100000 in
theorem xt_X2_backward : xokT xL_X2_backward = true := by decide +kernel
set_option maxRecDepth 100000 in
theorem xt_X3_init : xokT xL_X3_init = true := by decide +kernel
set_option maxRecDepth 100000 in
theorem xt_X3_takeFrom : xokT xL_X3_takeFrom = true := by decide +kernel
set_option maxRecDepth 100000 in
theorem xt_X3_isSolid : xokT xL_X3_isSolid = true := by decide +kernel
set_option maxRecDepth 100000 in
theorem xt_X3_hasParticleIn : xokT xL_X3_hasParticleIn = true := by decide +kernel
set_option maxRecDepth 100000 in
theorem xt_X3_isFluid : xokT xL_X3_isFluid = true := by decide +kernel
set_option maxRecDepth 100000 in
theorem xt_X3_fluidCells : xokT xL_X3_fluidCells = true := by decide +kernel
set_option maxRecDepth 100000 in
theorem xt_X3_openNeighbours : xokT xL_X3_openNeighbours = true := by decide +kernel
set_option maxRecDepth 100000 in
theorem xt_X4_init : xokT xL_X4_init = true := by decide +kernel
set_option maxRecDepth 100000 in
theorem xt_X4_solid : xokT xL_X4_solid = true := by decide +kernel
set_option maxRecDepth 100000 in
theorem xt_X4_add : xokT xL_X4_add = true := by decide +kernel
set_option maxRecDepth 100000 in
theorem xt_X4_pull : xokT xL_X4_pull = true := by decide +kernel
set_option maxRecDepth 100000 in
theorem xt_X4_share : xokT xL_X4_share = true := by decide +kernel
set_option maxRecDepth 100000 in
theorem xt_X4_solver : xokT xL_X4_solver = true := by decide +kernel
set_option maxRecDepth 100000 in
theorem xt_X4_step : xokT xL_X4_step = true := by decide +kernel
set_option maxRecDepth 100000 in
theorem xt_X4_back : xokT xL_X4_back = true := by decide +kernel
set_option maxRecDepth 100000 in
theorem xt_X4_particle : xokT xL_X4_particle = true := by decide +kernel
set_option maxRecDepth 100000 in
theorem xt_X4_pressure : xokT xL_X4_pressure = true := by decide +kernel
set_option maxRecDepth 100000 in
theorem xt_X4_face : xokT xL_X4_face = true := by decide +kernel
set_option maxRecDepth 100000 in
theorem xt_X4_rest : xokT xL_X4_rest = true := by decide +kernel
set_option maxRecDepth 100000 in
theorem xt_X4_energy : xokT xL_X4_energy = true := by decide +kernel
set_option maxRecDepth 100000 in
theorem xt_X4_drift : xokT xL_X4_drift = true := by decide +kernel
set_option maxRecDepth 100000 in
theorem xt_X4_count : xokT xL_X4_count = true := by decide +kernel
set_option maxRecDepth 100000 in
theorem xt_X4_buildGrids : xokT xL_X4_buildGrids = true := by decide +kernel
set_option maxRecDepth 100000 in
theorem xt_X4_renewVelocity : xokT xL_X4_renewVelocity = true := by decide +kernel
set_option maxRecDepth 100000 in
theorem xt_X4_blend : xokT xL_X4_blend = true := by decide +kernel
set_option maxRecDepth 100000 in
theorem xt_X4_moveParticle : xokT xL_X4_moveParticle = true := by decide +kernel
set_option maxRecDepth 100000 in
theorem xt_X4_holdInBox : xokT xL_X4_holdInBox = true := by decide +kernel
set_option maxRecDepth 100000 in
theorem xt_X4_isPlace : xokT xL_X4_isPlace = true := by decide +kernel
set_option maxRecDepth 100000 in
theorem xt_X4_isSpeed : xokT xL_X4_isSpeed = true := by decide +kernel
set_option maxRecDepth 100000 in
theorem xt_X4_isCell : xokT xL_X4_isCell = true := by decide +kernel
set_option maxRecDepth 100000 in
theorem xt_X4_cellIndex : xokT xL_X4_cellIndex = true := by decide +kernel
set_option maxRecDepth 100000 in
theorem xt_X4_faceIndex : xokT xL_X4_faceIndex = true := by decide +kernel
set_option maxRecDepth 100000 in
theorem xt_X5_init : xokT xL_X5_init = true := by decide +kernel
set_option maxRecDepth 100000 in
theorem xt_X5_thrown : xokT xL_X5_thrown = true := by decide +kernel
set_option maxRecDepth 100000 in
theorem xt_X5_fail : xokT xL_X5_fail = true := by decide +kernel
set_option maxRecDepth 100000 in
theorem xt_X5_inBox : xokT xL_X5_inBox = true := by decide +kernel
set_option maxRecDepth 100000 in
theorem xt_X5_isSolid : xokT xL_X5_isSolid = true := by decide +kernel
set_option maxRecDepth 100000 in
theorem xt_X5_cellOf : xokT xL_X5_cellOf = true := by decide +kernel
set_option maxRecDepth 100000 in
theorem xt_X5_solid : xokT xL_X5_solid = true := by decide +kernel
set_option maxRecDepth 100000 in
theorem xt_X5_off : xokT xL_X5_off = true := by decide +kernel
set_option maxRecDepth 100000 in
theorem xt_X5_add : xokT xL_X5_add = true := by decide +kernel
set_option maxRecDepth 100000 in
theorem xt_X5_pull : xokT xL_X5_pull = true := by decide +kernel
set_option maxRecDepth 100000 in
theorem xt_X5_share : xokT xL_X5_share = true := by decide +kernel
set_option maxRecDepth 100000 in
theorem xt_X5_solver : xokT xL_X5_solver = true := by decide +kernel
set_option maxRecDepth 100000 in
theorem xt_X5_copySettings : xokT xL_X5_copySettings = true := by decide +kernel
set_option maxRecDepth 100000 in
theorem xt_X5_back : xokT xL_X5_back = true := by decide +kernel
set_option maxRecDepth 100000 in
theorem xt_X5_side : xokT xL_X5_side = true := by decide +kernel
set_option maxRecDepth 100000 in
theorem xt_X5_closed : xokT xL_X5_closed = true := by decide +kernel
set_option maxRecDepth 100000 in
theorem xt_X5_hat : xokT xL_X5_hat = true := by decide +kernel
set_option maxRecDepth 100000 in
theorem xt_X5_gather : xokT xL_X5_gather = true := by decide +kernel
set_option maxRecDepth 100000 in
theorem xt_X5_force : xokT xL_X5_force = true := by decide +kernel
set_option maxRecDepth 100000 in
theorem xt_X5_mark : xokT xL_X5_mark = true := by decide +kernel
set_option maxRecDepth 100000 in
theorem xt_X5_near : xokT xL_X5_near = true := by decide +kernel
set_option maxRecDepth 100000 in
theorem xt_X5_matrix : xokT xL_X5_matrix = true := by decide +kernel
set_option maxRecDepth 100000 in
theorem xt_X5_makeZ : xokT xL_X5_makeZ = true := by decide +kernel
set_option maxRecDepth 100000 in
theorem xt_X5_times : xokT xL_X5_times = true := by decide +kernel
set_option maxRecDepth 100000 in
theorem xt_X5_product : xokT xL_X5_product = true := by decide +kernel
set_option maxRecDepth 100000 in
theorem xt_X5_rests : xokT xL_X5_rests = true := by decide +kernel
set_option maxRecDepth 100000 in
theorem xt_X5_solve : xokT xL_X5_solve = true := by decide +kernel
set_option maxRecDepth 100000 in
theorem xt_X5_project : xokT xL_X5_project = true := by decide +kernel
set_option maxRecDepth 100000 in
theorem xt_X5_within : xokT xL_X5_within = true := by decide +kernel
set_option maxRecDepth 100000 in
theorem xt_X5_sample : xokT xL_X5_sample = true := by decide +kernel
set_option maxRecDepth 100000 in
theorem xt_X5_bound : xokT xL_X5_bound = true := by decide +kernel
set_option maxRecDepth 100000 in
theorem xt_X5_mixed : xokT xL_X5_mixed = true := by decide +kernel
set_option maxRecDepth 100000 in
theorem xt_X5_edge : xokT xL_X5_edge = true := by decide +kernel
set_option maxRecDepth 100000 in
theorem xt_X5_move : xokT xL_X5_move = true := by decide +kernel
set_option maxRecDepth 100000 in
theorem xt_X5_step : xokT xL_X5_step = true := by decide +kernel
set_option maxRecDepth 100000 in
theorem xt_X5_particle : xokT xL_X5_particle = true := by decide +kernel
set_option maxRecDepth 100000 in
theorem xt_X5_pressure : xokT xL_X5_pressure = true := by decide +kernel
set_option maxRecDepth 100000 in
theorem xt_X5_face : xokT xL_X5_face = true := by decide +kernel
set_option maxRecDepth 100000 in
theorem xt_X5_rest : xokT xL_X5_rest = true := by decide +kernel
set_option maxRecDepth 100000 in
theorem xt_X5_energy : xokT xL_X5_energy = true := by decide +kernel
set_option maxRecDepth 100000 in
theorem xt_X5_drift : xokT xL_X5_drift = true := by decide +kernel
set_option maxRecDepth 100000 in
theorem xt_X5_count : xokT xL_X5_count = true := by decide +kernel
set_option maxRecDepth 100000 in
theorem xt_L_solid : xokT xL_L_solid = true := by decide +kernel
set_option maxRecDepth 100000 in
theorem xt_L_add : xokT xL_L_add = true := by decide +kernel
set_option maxRecDepth 100000 in
theorem xt_L_pull : xokT xL_L_pull = true := by decide +kernel
set_option maxRecDepth 100000 in
theorem xt_L_share : xokT xL_L_share = true := by decide +kernel
set_option maxRecDepth 100000 in
theorem xt_L_solver : xokT xL_L_solver = true := by decide +kernel
set_option maxRecDepth 100000 in
theorem xt_L_step : xokT xL_L_step = true := by decide +kernel
set_option maxRecDepth 100000 in
theorem xt_L_particle : xokT xL_L_particle = true := by decide +kernel
set_option maxRecDepth 100000 in
theorem xt_L_pressure : xokT xL_L_pressure = true := by decide +kernel
set_option maxRecDepth 100000 in
theorem xt_L_face : xokT xL_L_face = true := by decide +kernel
