/-! the reference: add, pull, share, solver, particle, pressure, face, rest -/
def badA (x y a b : UInt32) : Bool := offB x 1031798784 1086193664 || (offB y 1031798784 1086193664 || (offB a 3238002688 1090519040 || offB b 3238002688 1090519040))
abbrev mS0 (S : mS) : mS := mI' S 0 (nI 0)
def rAdd (S : mS) (np : Nat) (x y a b : UInt32) : Int32 × mS :=
  if badA x y a b then (nI 0, mI' (mS0 S) 0 (nI 1)) else if mA S 1 (cellI x y).toNatClampNeg ≠ 0 then (nI 0, mI' (mS0 S) 0 (nI 1)) else if np = 24 then (nI 0, mI' (mS0 S) 0 (nI 2))
  else (nI np, mA' (mF' (mS0 S) 3 (vf_upd (vf_upd (vf_upd (vf_upd (mF S 3) (4 * np) x) (4 * np + 1) y) (4 * np + 2) a) (4 * np + 3) b)) 2 (upd (mA S 2) 0 (nI (np + 1))))
def okPull (g : UInt64) : Bool := if Op.cmpValue (FP.dcmp g 13839561654909534208) .l < 0 then false else if Op.cmpValue (FP.dcmp g 4616189618054758400) .g ≤ 0 then true else false
def rPull (S : mS) (g : UInt64) : UInt64 × mS := if okPull g then (mD S 4 0, mD' (mS0 S) 4 (vf_upd (mD S 4) 0 g)) else (FP.i2d (nI 0), mI' (mS0 S) 0 (nI 1))
def okShare (g : UInt32) : Bool := if Op.cmpValue (FP.fcmp g FP.fconst0) .l < 0 then false else if Op.cmpValue (FP.fcmp g FP.fconst1) .g ≤ 0 then true else false
def rShare (S : mS) (g : UInt32) : UInt32 × mS := if okShare g then (mF S 5 0, mF' (mS0 S) 5 (vf_upd (mF S 5) 0 g)) else (FP.i2f (nI 0), mI' (mS0 S) 0 (nI 1))
def hv : Nat → UInt64
  | 0 => FP.dconst1
  | k + 1 => FP.ddiv (hv k) 4611686018427387904
def okSolver (k r : Int32) : Bool := if k < 0 then false else if nI 30 < k then false else if r < 0 then false else if r ≤ nI 40 then true else false
def rSolver (S : mS) (k r : Int32) : UInt64 × mS := if okSolver k r then (hv k.toNatClampNeg, mA' (mD' (mS0 S) 6 (vf_upd (mD S 6) 0 (hv k.toNatClampNeg))) 7 (upd (mA S 7) 0 r)) else (FP.i2d (nI 0), mI' (mS0 S) 0 (nI 1))
def okPart (np : Nat) (k w : Int32) : Bool := if k < 0 then false else if nI np ≤ k then false else if w < 0 then false else if w ≤ nI 3 then true else false
def rPart (S : mS) (np : Nat) (k w : Int32) : UInt32 × mS := if okPart np k w then (mF S 3 (4 * k.toNatClampNeg + w.toNatClampNeg), mS0 S) else (FP.i2f (nI 0), mI' (mS0 S) 0 (nI 1))
def rPres (S : mS) (x y : Int32) : UInt64 × mS := if inB x y then (mD S 9 (6 * y.toNatClampNeg + x.toNatClampNeg), mS0 S) else (FP.i2d (nI 0), mI' (mS0 S) 0 (nI 1))
def thereB (a i j : Int32) : Bool := if a = 0 then (if i < 0 then false else if nI 7 ≤ i then false else if j < 0 then false else if nI 6 ≤ j then false else true)
  else if a = nI 1 then (if i < 0 then false else if nI 6 ≤ i then false else if j < 0 then false else if nI 7 ≤ j then false else true) else false
def rFace (S : mS) (a i j : Int32) : UInt64 × mS := if thereB a i j then (if a = 0 then mD S 8 (7 * j.toNatClampNeg + i.toNatClampNeg) else mD S 8 (42 + 6 * j.toNatClampNeg + i.toNatClampNeg), mS0 S) else (FP.i2d (nI 0), mI' (mS0 S) 0 (nI 1))
theorem hv_n : ∀ k : Fin 30, vf_n64 (hv (k.val + 1)) := by unfold vf_n64; decide +kernel
theorem cl_in {x : Int32} {n : Nat} (hn : n < 2 ^ 31) (h1 : ¬ x < 0) (h2 : ¬ nI n ≤ x) : ∃ j, j < n ∧ x = nI j := by
  obtain ⟨j, hj, rfl⟩ := nI_of h1
  exact ⟨j, Nat.lt_of_not_le fun z => h2 (nI_le z hj), rfl⟩
section M3
variable {l : Launch} {D : va_G} {ad : Nat → Nat} {cy : Nat → ClassId}
set_option maxRecDepth 100000 in
theorem m_add (S : mS) (np : Nat) (hnp : mA S 2 0 = nI np) (h24 : np ≤ 24) (x y a b : UInt32) : xMet l yX5_add cX5_add 6 (some .int) 1 D ad cy [.ref 0, .float x, .float y, .float a, .float b] (mW S) (fun vs aw' => vs = [.int (rAdd S np x y a b).1] ∧ aw' = mW (rAdd S np x y a b).2) := by
  refine xmet (Fd := xlk xfl5) (Cn := xlk xcl5) (Cl := xCt [(199, s_off), (178, s_fail), (187, s_cellOf)]) (by decide) xk_X5_add xt_X5_add ⟨_, _, rfl, rfl⟩ xpl5 (xEnt_ok (List.forall_mem_cons.mpr ⟨e_off (by omega), List.forall_mem_cons.mpr ⟨e_fail (by omega), List.forall_mem_cons.mpr ⟨e_cellOf (by omega), fun q h => by cases h⟩⟩⟩)) (Nat.le_of_ble_eq_true rfl) (fun WC hW => ?_)
  have hbad : badA x y a b = true → WC (xL_X5_add.drop 23) [some (.ref 0), some (.float x), some (.float y), some (.float a), some (.float b), none] [] (mW (mS0 S)) := fun hb => by
    refine hW.1 (fun _ => false) 200 23 _ _ _ ?_
    refine ⟨mS0 S, rfl, ?_⟩
    simp only [rAdd, hb]
    exact And.intro rfl rfl
  refine hW.1 (fun pc => Nat.beq pc 50) 200 0 _ _ _ ?_
  refine And.intro (fun h1 => hbad (by simp [badA, xb_ne h1])) (fun h1 => ?_)
  refine And.intro (fun h2 => hbad (by simp [badA, xb_ne h2])) (fun h2 => ?_)
  refine And.intro (fun h3 => hbad (by simp [badA, xb_ne h3])) (fun h3 => ?_)
  refine And.intro (fun h4 => ?_) (fun h4 => hbad (by simp [badA, xb_ne h4]))
  have hb : badA x y a b = false := by simp [badA, xb_eq h1, xb_eq h2, xb_eq h3, xb_eq h4]
  obtain ⟨cx, hcx, ex⟩ := place_cell (xb_eq h1)
  obtain ⟨cy', hcy, ey⟩ := place_cell (xb_eq h2)
  have ec : cellI x y = nI (6 * cy' + cx) := by unfold cellI; rw [ex, ey, pk_mul, nI_add]
  have ecl : (cellI x y).toNatClampNeg = 6 * cy' + cx := by rw [ec, nI_clamp (by omega)]
  refine ⟨6 * cy' + cx, ec, by omega, by decide, ?_⟩
  refine And.intro (fun h5 => ?_) (fun h5 => ?_)
  rotate_left
  · refine ⟨mS0 S, rfl, ?_⟩
    have e9 : rAdd S np x y a b = (nI 0, mI' (mS0 S) 0 (nI 1)) := by unfold rAdd; rw [hb, ecl, if_neg (by decide), if_pos h5]
    rw [e9]
    exact And.intro rfl rfl
  refine ⟨0, rfl, by decide, by decide, ?_⟩
  refine And.intro (fun h6 => ?_) (fun h6 => ?_)
  rotate_left
  · refine ⟨mS0 S, rfl, ?_⟩
    have h7 : np = 24 := by
      have h6 : mA S 2 0 = nI 24 := h6
      rw [hnp] at h6
      exact (nI_eq (by omega) (by decide)).mp h6
    have e9 : rAdd S np x y a b = (nI 0, mI' (mS0 S) 0 (nI 2)) := by unfold rAdd; rw [hb, ecl, if_neg (by decide), if_neg (by rw [h5]; decide), if_pos h7]
    rw [e9]
    exact And.intro rfl rfl
  have h7 : np ≠ 24 := fun z => h6 (by show mA S 2 0 = nI 24; rw [hnp, z])
  have e4 : nI 4 * mA S 2 0 = nI (4 * np) := by rw [hnp, pk_mul]
  refine ⟨0, rfl, by decide, by decide, ?_⟩
  refine ⟨4 * np, e4, by omega, by decide, ?_⟩
  refine ⟨4 * np + 1, by rw [e4, nI_add], by omega, by decide, ?_⟩
  refine ⟨4 * np + 2, by rw [e4, nI_add], by omega, by decide, ?_⟩
  refine ⟨4 * np + 3, by rw [e4, nI_add], by omega, by decide, ?_⟩
  refine ⟨0, rfl, by decide, by decide, ?_⟩
  refine ⟨0, rfl, by decide, by decide, ?_⟩
  refine ⟨0, rfl, by decide, by decide, ?_⟩
  have e9 : rAdd S np x y a b = (nI np, mA' (mF' (mS0 S) 3 (vf_upd (vf_upd (vf_upd (vf_upd (mF S 3) (4 * np) x) (4 * np + 1) y) (4 * np + 2) a) (4 * np + 3) b)) 2 (upd (mA S 2) 0 (nI (np + 1)))) := by unfold rAdd; rw [hb, ecl, if_neg (by decide), if_neg (by rw [h5]; decide), if_neg h7]
  rw [e9]
  have e5 : mA S 2 0 + nI 1 = nI (np + 1) := by rw [hnp, nI_add]
  have e6 : upd (mA S 2) 0 (mA S 2 0 + nI 1) = upd (mA S 2) 0 (nI (np + 1)) := by rw [e5]
  refine And.intro ?_ ?_
  · show [Value.int (upd (mA S 2) 0 (mA S 2 0 + nI 1) 0 - nI 1)] = [Value.int (nI np)]
    rw [e6, pk_us]
    show [Value.int (nI (np + 1) - 1)] = _
    rw [nI_pred]
  · show mW (mA' (mF' (mS0 S) 3 (vf_upd (vf_upd (vf_upd (vf_upd (mF S 3) (4 * np) x) (4 * np + 1) y) (4 * np + 2) a) (4 * np + 3) b)) 2 (upd (mA S 2) 0 (mA S 2 0 + nI 1))) = _
    rw [e6]
set_option maxRecDepth 100000 in
theorem m_pull (S : mS) (g : UInt64) : xMet l yX5_pull cX5_pull 5 (some .double) 1 D ad cy [.ref 0, .double g] (mW S) (fun vs aw' => vs = [.double (rPull S g).1] ∧ aw' = mW (rPull S g).2) := by
  refine xmet (Fd := xlk xfl5) (Cn := xlk xcl5) (Cl := xCt [(178, s_fail)]) (by decide) xk_X5_pull xt_X5_pull ⟨_, _, rfl, rfl⟩ xpl5 (xEnt_ok (List.forall_mem_cons.mpr ⟨e_fail (by omega), fun q h => by cases h⟩)) (Nat.le_of_ble_eq_true rfl) (fun WC hW => ?_)
  have hbad : okPull g = false → WC (xL_X5_pull.drop 11) [some (.ref 0), some (.double g), none, none, none] [] (mW (mS0 S)) := fun hb => by
    refine hW.1 (fun _ => false) 200 11 _ _ _ ?_
    refine ⟨mS0 S, rfl, ?_⟩
    simp only [rPull, hb]
    exact And.intro rfl rfl
  refine hW.1 (fun pc => Nat.beq pc 21) 200 0 _ _ _ ?_
  refine And.intro (fun h1 => hbad (by simp [okPull, h1])) (fun h1 => ?_)
  refine And.intro (fun h2 => ?_) (fun h2 => hbad (by simp [okPull, h1, h2]))
  have hb : okPull g = true := by simp [okPull, h1, h2]
  refine ⟨0, rfl, by decide, by decide, ?_⟩
  refine ⟨0, rfl, by decide, by decide, ?_⟩
  simp only [rPull, hb]
  exact And.intro rfl rfl
set_option maxRecDepth 100000 in
theorem m_share (S : mS) (g : UInt32) : xMet l yX5_share cX5_share 3 (some .float) 1 D ad cy [.ref 0, .float g] (mW S) (fun vs aw' => vs = [.float (rShare S g).1] ∧ aw' = mW (rShare S g).2) := by
  refine xmet (Fd := xlk xfl5) (Cn := xlk xcl5) (Cl := xCt [(178, s_fail)]) (by decide) xk_X5_share xt_X5_share ⟨_, _, rfl, rfl⟩ xpl5 (xEnt_ok (List.forall_mem_cons.mpr ⟨e_fail (by omega), fun q h => by cases h⟩)) (Nat.le_of_ble_eq_true rfl) (fun WC hW => ?_)
  have hbad : okShare g = false → WC (xL_X5_share.drop 11) [some (.ref 0), some (.float g), none] [] (mW (mS0 S)) := fun hb => by
    refine hW.1 (fun _ => false) 200 11 _ _ _ ?_
    refine ⟨mS0 S, rfl, ?_⟩
    simp only [rShare, hb]
    exact And.intro rfl rfl
  refine hW.1 (fun pc => Nat.beq pc 17) 200 0 _ _ _ ?_
  refine And.intro (fun h1 => hbad (by simp [okShare, h1])) (fun h1 => ?_)
  refine And.intro (fun h2 => ?_) (fun h2 => hbad (by simp [okShare, h1, h2]))
  have hb : okShare g = true := by simp [okShare, h1, h2]
  refine ⟨0, rfl, by decide, by decide, ?_⟩
  refine ⟨0, rfl, by decide, by decide, ?_⟩
  simp only [rShare, hb]
  exact And.intro rfl rfl
set_option maxRecDepth 100000 in
theorem m_solver (S : mS) (k r : Int32) : xMet l yX5_solver cX5_solver 6 (some .double) 1 D ad cy [.ref 0, .int k, .int r] (mW S) (fun vs aw' => vs = [.double (rSolver S k r).1] ∧ aw' = mW (rSolver S k r).2) := by
  refine xmet (Fd := xlk xfl5) (Cn := xlk xcl5) (Cl := xCt [(178, s_fail)]) (by decide) xk_X5_solver xt_X5_solver ⟨_, _, rfl, rfl⟩ xpl5 (xEnt_ok (List.forall_mem_cons.mpr ⟨e_fail (by omega), fun q h => by cases h⟩)) (Nat.le_of_ble_eq_true rfl) (fun WC hW => ?_)
  have hbad : okSolver k r = false → WC (xL_X5_solver.drop 13) [some (.ref 0), some (.int k), some (.int r), none, none, none] [] (mW (mS0 S)) := fun hb => by
    refine hW.1 (fun _ => false) 200 13 _ _ _ ?_
    refine ⟨mS0 S, rfl, ?_⟩
    simp only [rSolver, hb]
    exact And.intro rfl rfl
  refine hW.1 (fun pc => Nat.beq pc 25 || Nat.beq pc 37) 200 0 _ _ _ ?_
  refine And.intro (fun h1 => hbad (by simp [okSolver, h1])) (fun h1 => ?_)
  refine And.intro (fun h2 => hbad (by simp [okSolver, h1, h2])) (fun h2 => ?_)
  refine And.intro (fun h3 => hbad (by simp [okSolver, h1, h2, h3])) (fun h3 => ?_)
  refine And.intro (fun h4 => ?_) (fun h4 => hbad (by simp [okSolver, h1, h2, h3, h4]))
  have hb : okSolver k r = true := by simp [okSolver, h1, h2, h3, h4]
  obtain ⟨kn, hkn, rfl⟩ := nI_of h1
  have h30 : kn ≤ 30 := Nat.le_of_not_lt fun z => h2 (nI_lt z hkn)
  have loop : ∀ (n i : Nat), i + n = kn → WC (xL_X5_solver.drop 22) [some (.ref 0), some (.int (nI kn)), some (.int r), some (.double (hv i)), none, some (.int (nI i))] [] (mW (mS0 S)) := by
    intro n
    induction n with
    | zero =>
      intro i hi
      have : i = kn := by omega
      subst this
      refine hW.1 (fun pc => Nat.beq pc 37) 200 22 _ _ _ ?_
      refine And.intro (fun h5 => ?_) (fun h5 => absurd (Int32.le_refl _) h5)
      refine ⟨0, rfl, by decide, by decide, ?_⟩
      refine ⟨0, rfl, by decide, by decide, ?_⟩
      simp only [rSolver, hb, nI_clamp hkn]
      exact And.intro rfl rfl
    | succ n ih =>
      intro i hi
      refine hW.1 (fun pc => Nat.beq pc 37) 200 22 _ _ _ ?_
      refine And.intro (fun h5 => absurd h5 (nI_ge (by omega) hkn)) (fun h5 => ?_)
      refine And.intro (hv_n ⟨i, by omega⟩) ?_
      have e1 : nI i + nI 1 = nI (i + 1) := nI_add i 1
      have ih' := ih (i + 1) (by omega)
      rw [← e1] at ih'
      exact ih'
  exact loop kn 0 (by omega)
set_option maxRecDepth 100000 in
theorem m_particle (S : mS) (np : Nat) (hnp : mA S 2 0 = nI np) (h24 : np ≤ 24) (k w : Int32) : xMet l yX5_particle cX5_particle 3 (some .float) 1 D ad cy [.ref 0, .int k, .int w] (mW S) (fun vs aw' => vs = [.float (rPart S np k w).1] ∧ aw' = mW (rPart S np k w).2) := by
  refine xmet (Fd := xlk xfl5) (Cn := xlk xcl5) (Cl := xCt [(178, s_fail)]) (by decide) xk_X5_particle xt_X5_particle ⟨_, _, rfl, rfl⟩ xpl5 (xEnt_ok (List.forall_mem_cons.mpr ⟨e_fail (by omega), fun q h => by cases h⟩)) (Nat.le_of_ble_eq_true rfl) (fun WC hW => ?_)
  have hbad : okPart np k w = false → WC (xL_X5_particle.drop 16) [some (.ref 0), some (.int k), some (.int w)] [] (mW (mS0 S)) := fun hb => by
    refine hW.1 (fun _ => false) 200 16 _ _ _ ?_
    refine ⟨mS0 S, rfl, ?_⟩
    simp only [rPart, hb]
    exact And.intro rfl rfl
  refine hW.1 (fun pc => Nat.beq pc 28) 200 0 _ _ _ ?_
  refine And.intro (fun h1 => hbad (by simp [okPart, h1])) (fun h1 => ?_)
  refine ⟨0, rfl, by decide, by decide, ?_⟩
  refine And.intro (fun h2 => hbad (by have h2 : mA S 2 0 ≤ k := h2; rw [hnp] at h2; simp [okPart, h1, h2])) (fun h2 => ?_)
  have h2 : ¬ mA S 2 0 ≤ k := h2
  rw [hnp] at h2
  refine And.intro (fun h3 => hbad (by simp [okPart, h1, h2, h3])) (fun h3 => ?_)
  refine And.intro (fun h4 => ?_) (fun h4 => hbad (by simp [okPart, h1, h2, h3, h4]))
  have hb : okPart np k w = true := by simp [okPart, h1, h2, h3, h4]
  obtain ⟨kn, hkn, rfl⟩ := cl_in (by omega) h1 h2
  obtain ⟨wn, hwn, rfl⟩ := nI_of h3
  have h5 : wn ≤ 3 := Nat.le_of_not_lt fun z => nI_ge z hwn h4
  refine ⟨4 * kn + wn, by rw [pk_mul, nI_add], by omega, by decide, ?_⟩
  simp only [rPart, hb, nI_clamp (show kn < 2 ^ 31 by omega), nI_clamp hwn]
  exact And.intro rfl rfl
set_option maxRecDepth 100000 in
theorem m_pressure (S : mS) (x y : Int32) : xMet l yX5_pressure cX5_pressure 3 (some .double) 1 D ad cy [.ref 0, .int x, .int y] (mW S) (fun vs aw' => vs = [.double (rPres S x y).1] ∧ aw' = mW (rPres S x y).2) := by
  refine xmet (Fd := xlk xfl5) (Cn := xlk xcl5) (Cl := xCt [(171, s_inBox), (178, s_fail)]) (by decide) xk_X5_pressure xt_X5_pressure ⟨_, _, rfl, rfl⟩ xpl5 (xEnt_ok (List.forall_mem_cons.mpr ⟨e_inBox (by omega), List.forall_mem_cons.mpr ⟨e_fail (by omega), fun q h => by cases h⟩⟩)) (Nat.le_of_ble_eq_true rfl) (fun WC hW => ?_)
  refine hW.1 (fun _ => false) 200 0 _ _ _ ?_
  refine And.intro (fun h1 => ?_) (fun h1 => ?_)
  rotate_left
  · have hi := xb_eq h1
    refine ⟨mS0 S, rfl, ?_⟩
    simp only [rPres, hi]
    exact And.intro rfl rfl
  have hi := xb_ne h1
  obtain ⟨i, j, hi6, hj6, rfl, rfl⟩ := inB_nI hi
  refine ⟨6 * j + i, by rw [pk_mul, nI_add], by omega, by decide, ?_⟩
  simp only [rPres, hi, nI_clamp (show i < 2 ^ 31 by omega), nI_clamp (show j < 2 ^ 31 by omega)]
  exact And.intro rfl rfl
set_option maxRecDepth 100000 in
theorem m_rest (S : mS) : xMet l yX5_rest cX5_rest 1 (some .double) 0 D ad cy [.ref 0] (mW S) (fun vs aw' => vs = [.double (mG S)] ∧ aw' = mW (mS0 S)) := by
  refine xmet (Fd := xlk xfl5) (Cn := xlk xcl5) (Cl := xCt []) (by decide) xk_X5_rest xt_X5_rest ⟨_, _, rfl, rfl⟩ xpl5 (xEnt_ok (fun q h => by cases h)) (Nat.le_of_ble_eq_true rfl) (fun WC hW => ?_)
  refine hW.1 (fun _ => false) 200 0 _ _ _ ?_
  exact And.intro rfl rfl
set_option maxRecDepth 100000 in
theorem m_face (S : mS) (a i j : Int32) : xMet l yX5_face cX5_face 5 (some .double) 1 D ad cy [.ref 0, .int a, .int i, .int j] (mW S) (fun vs aw' => vs = [.double (rFace S a i j).1] ∧ aw' = mW (rFace S a i j).2) := by
  refine xmet (Fd := xlk xfl5) (Cn := xlk xcl5) (Cl := xCt [(178, s_fail)]) (by decide) xk_X5_face xt_X5_face ⟨_, _, rfl, rfl⟩ xpl5 (xEnt_ok (List.forall_mem_cons.mpr ⟨e_fail (by omega), fun q h => by cases h⟩)) (Nat.le_of_ble_eq_true rfl) (fun WC hW => ?_)
  have join : ∀ b : Bool, thereB a i j = b → WC (xL_X5_face.drop 35) [some (.ref 0), some (.int a), some (.int i), some (.int j), none] [.int (xb b)] (mW (mS0 S)) := fun b hb => by
    refine hW.1 (fun _ => false) 200 35 _ _ _ ?_
    refine And.intro (fun h1 => ?_) (fun h1 => ?_)
    rotate_left
    · have hb2 := xb_eq h1
      subst hb2
      refine ⟨mS0 S, rfl, ?_⟩
      simp only [rFace, hb]
      exact And.intro rfl rfl
    have hb2 := xb_ne h1
    subst hb2
    have hb3 := hb
    unfold thereB at hb3
    refine And.intro (fun h2 => ?_) (fun h2 => ?_)
    · rw [if_neg h2] at hb3
      split at hb3
      rotate_left
      · cases hb3
      split at hb3
      · cases hb3
      rename_i g1
      split at hb3
      · cases hb3
      rename_i g2
      split at hb3
      · cases hb3
      rename_i g3
      split at hb3
      · cases hb3
      rename_i g4
      obtain ⟨p, hp, rfl⟩ := cl_in (by decide) g1 g2
      obtain ⟨q, hq, rfl⟩ := cl_in (by decide) g3 g4
      refine ⟨42 + 6 * q + p, by rw [pk_mul, nI_add, nI_add], by omega, by decide, ?_⟩
      have e9 : rFace S a (nI p) (nI q) = (mD S 8 (42 + 6 * q + p), mS0 S) := by unfold rFace; rw [hb, if_pos rfl, if_neg h2, nI_clamp (show p < 2 ^ 31 by omega), nI_clamp (show q < 2 ^ 31 by omega)]
      rw [e9]
      exact And.intro rfl rfl
    · rw [if_pos h2] at hb3
      split at hb3
      · cases hb3
      rename_i g1
      split at hb3
      · cases hb3
      rename_i g2
      split at hb3
      · cases hb3
      rename_i g3
      split at hb3
      · cases hb3
      rename_i g4
      obtain ⟨p, hp, rfl⟩ := cl_in (by decide) g1 g2
      obtain ⟨q, hq, rfl⟩ := cl_in (by decide) g3 g4
      refine ⟨7 * q + p, by rw [pk_mul, nI_add], by omega, by decide, ?_⟩
      have e9 : rFace S a (nI p) (nI q) = (mD S 8 (7 * q + p), mS0 S) := by unfold rFace; rw [hb, if_pos rfl, if_pos h2, nI_clamp (show p < 2 ^ 31 by omega), nI_clamp (show q < 2 ^ 31 by omega)]
      rw [e9]
      exact And.intro rfl rfl
  refine hW.1 (fun pc => Nat.beq pc 67) 200 0 _ _ _ ?_
  refine And.intro (fun h1 => ?_) (fun h1 => ?_)
  · refine And.intro (fun h2 => join false (by unfold thereB; rw [if_neg h1, if_neg h2])) (fun h2 => ?_)
    refine And.intro (fun h3 => join false (by unfold thereB; rw [if_neg h1, if_pos h2, if_pos h3])) (fun h3 => ?_)
    refine And.intro (fun h4 => join false (by unfold thereB; rw [if_neg h1, if_pos h2, if_neg h3, if_pos h4])) (fun h4 => ?_)
    refine And.intro (fun h5 => join false (by unfold thereB; rw [if_neg h1, if_pos h2, if_neg h3, if_neg h4, if_pos h5])) (fun h5 => ?_)
    exact And.intro (fun h6 => join false (by unfold thereB; rw [if_neg h1, if_pos h2, if_neg h3, if_neg h4, if_neg h5, if_pos h6])) (fun h6 => join true (by unfold thereB; rw [if_neg h1, if_pos h2, if_neg h3, if_neg h4, if_neg h5, if_neg h6]))
  · refine And.intro (fun h3 => join false (by unfold thereB; rw [if_pos h1, if_pos h3])) (fun h3 => ?_)
    refine And.intro (fun h4 => join false (by unfold thereB; rw [if_pos h1, if_neg h3, if_pos h4])) (fun h4 => ?_)
    refine And.intro (fun h5 => join false (by unfold thereB; rw [if_pos h1, if_neg h3, if_neg h4, if_pos h5])) (fun h5 => ?_)
    exact And.intro (fun h6 => join false (by unfold thereB; rw [if_pos h1, if_neg h3, if_neg h4, if_neg h5, if_pos h6])) (fun h6 => join true (by unfold thereB; rw [if_pos h1, if_neg h3, if_neg h4, if_neg h5, if_neg h6]))
end M3
