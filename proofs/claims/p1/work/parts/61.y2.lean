/-! the class: solid, add, pull, share, solver, particle, pressure, face: each returns or throws -/
abbrev cR : Type := Nat × List Value × cS
def yPost (r : cR) : List Value → xA → Prop := fun vs aw' => r.1 = 0 ∧ vs = r.2.1 ∧ aw' = cW r.2.2
def yPx (E1 E2 : String) (r : cR) : String → xA → Prop := fun E aw' => ((r.1 = 1 ∧ E = E1) ∨ (r.1 = 2 ∧ E = E2)) ∧ aw' = cW r.2.2
def qSolid (S : cS) (np : Nat) (x y : Int32) (b : Bool) : cR := if inB x y then (if b && hpB (cF S 12) (cF S 13) x y np then (2, [], S) else (0, [.int (xb (isSolB (cA S 11) x y))], cA' S 11 (upd (cA S 11) (6 * y.toNatClampNeg + x.toNatClampNeg) (xb b)))) else (1, [], S)
def okAdd (x y a b : UInt32) : Bool := plB x 1031798784 1086193664 && (plB y 1031798784 1086193664 && (plB a 3238002688 1090519040 && plB b 3238002688 1090519040))
def adC (S : cS) (np : Nat) (x y a b : UInt32) : cS := cI' (cF' (cF' (cF' (cF' S 12 (vf_upd (cF S 12) np x)) 13 (vf_upd (cF S 13) np y)) 14 (vf_upd (cF S 14) np a)) 15 (vf_upd (cF S 15) np b)) 1 (cI S 1 + nI 1)
def qAdd (S : cS) (np : Nat) (x y a b : UInt32) : cR := if okAdd x y a b then (if isSolB (cA S 11) (FP.f2i x) (FP.f2i y) then (1, [], S) else if np < 24 then (0, [.int (cI S 1)], adC S np x y a b) else (2, [], S)) else (1, [], S)
def qPull (S : cS) (g : UInt64) : cR := if okPull g then (0, [.double (cG S 0)], cG' S 0 g) else (1, [], S)
def qShare (S : cS) (g : UInt32) : cR := if okShare g then (0, [.float (cH S 0)], cH' S 0 g) else (1, [], S)
def lmC (k : Int32) : UInt64 := FP.ddiv FP.dconst1 (FP.i2d (nI 1 <<< (k &&& 31)))
theorem lm_n : ∀ k : Fin 31, vf_n64 (lmC (nI k.val)) := by unfold vf_n64; decide +kernel
def qSolver (S : cS) (k r : Int32) : cR := if okSolver k r then (0, [.double (lmC k)], cI' (cG' S 1 (lmC k)) 0 r) else (1, [], S)
def qPart (S : cS) (np : Nat) (k w : Int32) : cR := if okPart np k w then (0, [.float (cF S (12 + w.toNatClampNeg) k.toNatClampNeg)], S) else (1, [], S)
def qPres (S : cS) (x y : Int32) : cR := if inB x y then (0, [.double (cD S 35 (6 * y.toNatClampNeg + x.toNatClampNeg))], S) else (1, [], S)
def qFace (S : cS) (a i j : Int32) : cR := if a = 0 then (if fcB 6 5 i j then (0, [.double (cD S 25 (7 * j.toNatClampNeg + i.toNatClampNeg))], S) else (1, [], S)) else if a = nI 1 then (if fcB 5 6 i j then (0, [.double (cD S 26 (7 * j.toNatClampNeg + i.toNatClampNeg))], S) else (1, [], S)) else (1, [], S)
theorem fcB_nI {a b : Nat} (ha : a < 100) (hb : b < 100) {x y : Int32} (h : fcB a b x y = true) : ∃ i j : Nat, i ≤ a ∧ j ≤ b ∧ x = nI i ∧ y = nI j := by
  unfold fcB at h
  split at h
  · cases h
  rename_i h1
  split at h
  · cases h
  rename_i h2
  split at h
  · cases h
  rename_i h3
  split at h
  · cases h
  rename_i h4
  have key : ∀ (z : Int32) (n : Nat), n < 100 → ¬ z < 0 → ¬ nI n < z → ∃ k : Nat, k ≤ n ∧ z = nI k := by
    intro z n hn k1 k2
    have k1 : ¬ z.toInt < 0 := fun q => k1 (Int32.lt_iff_toInt_lt.mpr q)
    have k2 : ¬ (n : Int) < z.toInt := fun q => k2 (Int32.lt_iff_toInt_lt.mpr (by rw [nI_toInt (by omega)]; exact q))
    refine ⟨z.toInt.toNat, by omega, Int32.toInt.inj ?_⟩
    rw [nI_toInt (by omega)]
    omega
  obtain ⟨i, hi, rfl⟩ := key x a ha h1 h2
  obtain ⟨j, hj, rfl⟩ := key y b hb h3 h4
  exact ⟨i, j, hi, hj, rfl, rfl⟩
section Y2
variable {l : Launch} {D : va_G} {ad : Nat → Nat} {cy : Nat → ClassId}
def t_isFace (st : List Value) (aw : xA) (k : List Value → xA → Prop) : Prop := match st with
  | .int y :: .int x :: .ref r :: st => match xsm st with
    | true => ∃ S : cS, aw = cW S ∧ ((r = 9 ∧ k (.int (xb (fcB 6 5 x y)) :: st) (cW S)) ∨ (r = 10 ∧ k (.int (xb (fcB 5 6 x y)) :: st) (cW S)))
    | false => False
  | _ => False
theorem f_isFace {d : Nat} (hd : 1 ≤ d) : xEnt l d D ad cy RX4 394 t_isFace := xEnt_V (y' := yX0_isFace) (cc' := cX0_isFace) (n' := 3) (ret' := some .boolean) (d' := 0) (j := 197) 2 (by decide +kernel) (by decide +kernel) (by omega) (fun st aw k h => by
  match st, h with
  | .int y :: .int x :: .ref r :: st, h =>
    cases hs : xsm st with
    | false => simp only [t_isFace, hs] at h
    | true =>
      simp only [t_isFace, hs] at h
      obtain ⟨S, rfl, h2⟩ := h
      rcases h2 with ⟨rfl, h2⟩ | ⟨rfl, h2⟩
      · exact ⟨[.int x, .int y], st, _, 9, 0, _, rfl, rfl, hs, rfl, ⟨_, rfl, rfl⟩, n_isFace9 S x y, fun vs aw' h9 => by obtain ⟨rfl, rfl⟩ := h9; exact h2⟩
      · exact ⟨[.int x, .int y], st, _, 10, 0, _, rfl, rfl, hs, rfl, ⟨_, rfl, rfl⟩, n_isFace10 S x y, fun vs aw' h9 => by obtain ⟨rfl, rfl⟩ := h9; exact h2⟩)
set_option maxRecDepth 100000 in
set_option maxHeartbeats 4000000 in
theorem n_solid (hst : l.stackTraces = false) (S : cS) (np : Nat) (hnp : cI S 1 = nI np) (h24 : np ≤ 24) (x y : Int32) (b : Bool) : yMet l yX4_solid cX4_solid 5 (some .boolean) 6 D ad cy [.ref 0, .int x, .int y, .int (xb b)] (cW S) (yPost (qSolid S np x y b)) (yPx xIO xIS (qSolid S np x y b)) := by
  refine ymet (Fd := xlk xfl4) (Cn := xlk xcl4) (Cl := xCt [(117, t_isCell), (138, t_hasP), (154, t_isSolid), (169, t_cellIndex)]) hst (by decide) rfl (by decide) xk_X4_solid xt_X4_solid ⟨_, _, rfl, rfl⟩ xpl4 (xEnt_ok (List.forall_mem_cons.mpr ⟨f_isCell4 (by omega), List.forall_mem_cons.mpr ⟨f_hasP4 (by omega), List.forall_mem_cons.mpr ⟨f_isSolid4 (by omega), List.forall_mem_cons.mpr ⟨f_cellIndex4 (by omega), fun q h => by cases h⟩⟩⟩⟩)) (Nat.le_of_ble_eq_true rfl) (fun WC hW hT => ?_)
  have hend : inB x y = true → (b && hpB (cF S 12) (cF S 13) x y np) = false → WC (xL_X4_solid.drop 22) [some (.ref 0), some (.int x), some (.int y), some (.int (xb b)), none] [] (cW S) := by
    intro hi hb
    obtain ⟨i, j, hi6, hj6, rfl, rfl⟩ := inB_nI hi
    refine hW.1 (fun _ => false) 100 22 _ _ _ ?_
    refine ⟨S, rfl, ?_⟩
    refine ⟨6 * j + i, b, rfl, by rw [pk_mul, nI_add, Nat.mul_comm], by omega, by decide, ?_⟩
    refine Exists.intro _ ⟨rfl, ?_⟩
    have e : qSolid S np (nI i) (nI j) b = (0, [.int (xb (isSolB (cA S 11) (nI i) (nI j)))], cA' S 11 (upd (cA S 11) (6 * j + i) (xb b))) := by
      unfold qSolid
      rw [if_pos hi, hb, nI_clamp (show i < 2 ^ 31 by omega), nI_clamp (show j < 2 ^ 31 by omega)]
      rfl
    rw [e]
    exact ⟨rfl, rfl, rfl⟩
  refine hW.1 (fun pc => Nat.beq pc 8 || Nat.beq pc 34 || Nat.beq pc 44) 100 0 _ _ _ ?_
  refine And.intro (fun h1 => ?_) (fun h1 => ?_)
  · have h1 := xb_ne h1
    refine And.intro (fun h2 => ?_) (fun h2 => ?_)
    · exact hend h1 (by rw [xb_eq h2]; rfl)
    have h2 := xb_ne h2
    refine ⟨S, np, rfl, hnp, h24, ?_⟩
    refine And.intro (fun h3 => ?_) (fun h3 => ?_)
    · exact hend h1 (by rw [xb_eq h3, Bool.and_false])
    · have h3 := xb_ne h3
      have e : qSolid S np x y b = (2, [], S) := by unfold qSolid; rw [if_pos h1, h2, h3]; rfl
      exact hT 17 _ _ _ xIS rfl rfl (by rw [e]; exact ⟨Or.inr ⟨rfl, rfl⟩, rfl⟩)
  · have h1 := xb_eq h1
    have e : qSolid S np x y b = (1, [], S) := by unfold qSolid; rw [h1]; rfl
    exact hT 4 _ _ _ xIO rfl rfl (by rw [e]; exact ⟨Or.inl ⟨rfl, rfl⟩, rfl⟩)
set_option maxRecDepth 100000 in
set_option maxHeartbeats 4000000 in
theorem n_add (hst : l.stackTraces = false) (S : cS) (np : Nat) (hnp : cI S 1 = nI np) (h24 : np ≤ 24) (x y a b : UInt32) : yMet l yX4_add cX4_add 6 (some .int) 6 D ad cy [.ref 0, .float x, .float y, .float a, .float b] (cW S) (yPost (qAdd S np x y a b)) (yPx xIA xIS (qAdd S np x y a b)) := by
  refine ymet (Fd := xlk xfl4) (Cn := xlk xcl4) (Cl := xCt [(177, t_isPlace), (185, t_isSpeed), (154, t_isSolid)]) hst (by decide) rfl (by decide) xk_X4_add xt_X4_add ⟨_, _, rfl, rfl⟩ xpl4 (xEnt_ok (List.forall_mem_cons.mpr ⟨f_isPlace (by omega), List.forall_mem_cons.mpr ⟨f_isSpeed (by omega), List.forall_mem_cons.mpr ⟨f_isSolid4 (by omega), fun q h => by cases h⟩⟩⟩)) (Nat.le_of_ble_eq_true rfl) (fun WC hW hT => ?_)
  have bad : okAdd x y a b = false → WC (xL_X4_add.drop 12) [some (.ref 0), some (.float x), some (.float y), some (.float a), some (.float b), none] [] (cW S) := by
    intro h
    have e : qAdd S np x y a b = (1, [], S) := by unfold qAdd; rw [h]; rfl
    exact hT 12 _ _ _ xIA rfl rfl (by rw [e]; exact ⟨Or.inl ⟨rfl, rfl⟩, rfl⟩)
  have good : okAdd x y a b = true → WC (xL_X4_add.drop 17) [some (.ref 0), some (.float x), some (.float y), some (.float a), some (.float b), none] [] (cW S) := by
    intro h
    refine hW.1 (fun pc => Nat.beq pc 53 || Nat.beq pc 75) 200 17 _ _ _ ?_
    refine ⟨S, rfl, ?_⟩
    refine And.intro (fun h1 => ?_) (fun h1 => ?_)
    · have h1 := xb_eq h1
      refine And.intro (fun h2 => ?_) (fun h2 => ?_)
      · have h2 : cI S 1 < nI 24 := h2
        rw [hnp] at h2
        have h3 : np < 24 := Nat.lt_of_not_le fun z => nI_nlt z (by omega) h2
        have e : qAdd S np x y a b = (0, [.int (cI S 1)], adC S np x y a b) := by unfold qAdd; rw [if_pos h, h1, if_pos h3]; rfl
        refine ⟨np, hnp, by omega, by decide, ?_⟩
        refine ⟨np, hnp, by omega, by decide, ?_⟩
        refine ⟨np, hnp, by omega, by decide, ?_⟩
        refine ⟨np, hnp, by omega, by decide, ?_⟩
        show yPost _ _ _
        rw [e]
        exact ⟨rfl, rfl, rfl⟩
      · have h2 : ¬ cI S 1 < nI 24 := h2
        rw [hnp] at h2
        have h3 : ¬ np < 24 := fun z => h2 (nI_lt z (by decide))
        have e : qAdd S np x y a b = (2, [], S) := by unfold qAdd; rw [if_pos h, h1, if_neg h3]; rfl
        exact hT 35 _ _ _ xIS rfl rfl (by rw [e]; exact ⟨Or.inr ⟨rfl, rfl⟩, rfl⟩)
    · have h1 := xb_ne h1
      have e : qAdd S np x y a b = (1, [], S) := by unfold qAdd; rw [if_pos h, h1]; rfl
      exact hT 25 _ _ _ xIA rfl rfl (by rw [e]; exact ⟨Or.inl ⟨rfl, rfl⟩, rfl⟩)
  refine hW.1 (fun pc => Nat.beq pc 29 || Nat.beq pc 39) 100 0 _ _ _ ?_
  refine And.intro (fun h1 => bad (by unfold okAdd; rw [xb_eq h1]; rfl)) (fun h1 => ?_)
  refine And.intro (fun h2 => bad (by unfold okAdd; rw [xb_eq h2, Bool.false_and, Bool.and_false])) (fun h2 => ?_)
  refine And.intro (fun h3 => bad (by unfold okAdd; rw [xb_eq h3, Bool.false_and, Bool.and_false, Bool.and_false])) (fun h3 => ?_)
  refine And.intro (fun h4 => good (by unfold okAdd; rw [xb_ne h1, xb_ne h2, xb_ne h3, xb_ne h4]; rfl)) (fun h4 => bad (by unfold okAdd; rw [xb_eq h4, Bool.and_false, Bool.and_false, Bool.and_false]))
set_option maxRecDepth 100000 in
set_option maxHeartbeats 4000000 in
theorem n_pull (hst : l.stackTraces = false) (S : cS) (g : UInt64) : yMet l yX4_pull cX4_pull 5 (some .double) 6 D ad cy [.ref 0, .double g] (cW S) (yPost (qPull S g)) (yPx xIA xIS (qPull S g)) := by
  refine ymet (Fd := xlk xfl4) (Cn := xlk xcl4) (Cl := xCt []) hst (by decide) rfl (by decide) xk_X4_pull xt_X4_pull ⟨_, _, rfl, rfl⟩ xpl4 (xEnt_ok (fun q h => by cases h)) (Nat.le_of_ble_eq_true rfl) (fun WC hW hT => ?_)
  have bad : okPull g = false → WC (xL_X4_pull.drop 8) [some (.ref 0), some (.double g), none, none, none] [] (cW S) := by
    intro h
    have e : qPull S g = (1, [], S) := by unfold qPull; rw [h]; rfl
    exact hT 8 _ _ _ xIA rfl rfl (by rw [e]; exact ⟨Or.inl ⟨rfl, rfl⟩, rfl⟩)
  refine hW.1 (fun pc => Nat.beq pc 16) 100 0 _ _ _ ?_
  refine And.intro (fun h1 => bad (by unfold okPull; rw [if_pos h1])) (fun h1 => ?_)
  refine And.intro (fun h2 => ?_) (fun h2 => bad (by unfold okPull; rw [if_neg h1, if_neg h2]))
  have e : qPull S g = (0, [.double (cG S 0)], cG' S 0 g) := by unfold qPull okPull; rw [if_neg h1, if_pos h2]; rfl
  show yPost _ _ _
  rw [e]
  exact ⟨rfl, rfl, rfl⟩
set_option maxRecDepth 100000 in
set_option maxHeartbeats 4000000 in
theorem n_share (hst : l.stackTraces = false) (S : cS) (g : UInt32) : yMet l yX4_share cX4_share 3 (some .float) 6 D ad cy [.ref 0, .float g] (cW S) (yPost (qShare S g)) (yPx xIA xIS (qShare S g)) := by
  refine ymet (Fd := xlk xfl4) (Cn := xlk xcl4) (Cl := xCt []) hst (by decide) rfl (by decide) xk_X4_share xt_X4_share ⟨_, _, rfl, rfl⟩ xpl4 (xEnt_ok (fun q h => by cases h)) (Nat.le_of_ble_eq_true rfl) (fun WC hW hT => ?_)
  have bad : okShare g = false → WC (xL_X4_share.drop 8) [some (.ref 0), some (.float g), none] [] (cW S) := by
    intro h
    have e : qShare S g = (1, [], S) := by unfold qShare; rw [h]; rfl
    exact hT 8 _ _ _ xIA rfl rfl (by rw [e]; exact ⟨Or.inl ⟨rfl, rfl⟩, rfl⟩)
  refine hW.1 (fun pc => Nat.beq pc 12) 100 0 _ _ _ ?_
  refine And.intro (fun h1 => bad (by unfold okShare; rw [if_pos h1])) (fun h1 => ?_)
  refine And.intro (fun h2 => ?_) (fun h2 => bad (by unfold okShare; rw [if_neg h1, if_neg h2]))
  have e : qShare S g = (0, [.float (cH S 0)], cH' S 0 g) := by unfold qShare okShare; rw [if_neg h1, if_pos h2]; rfl
  show yPost _ _ _
  rw [e]
  exact ⟨rfl, rfl, rfl⟩
set_option maxRecDepth 100000 in
set_option maxHeartbeats 4000000 in
theorem n_solver (hst : l.stackTraces = false) (S : cS) (k r : Int32) : yMet l yX4_solver cX4_solver 3 (some .double) 6 D ad cy [.ref 0, .int k, .int r] (cW S) (yPost (qSolver S k r)) (yPx xIA xIS (qSolver S k r)) := by
  refine ymet (Fd := xlk xfl4) (Cn := xlk xcl4) (Cl := xCt []) hst (by decide) rfl (by decide) xk_X4_solver xt_X4_solver ⟨_, _, rfl, rfl⟩ xpl4 (xEnt_ok (fun q h => by cases h)) (Nat.le_of_ble_eq_true rfl) (fun WC hW hT => ?_)
  have bad : okSolver k r = false → yPx xIA xIS (qSolver S k r) xIA (cW S) := by
    intro h
    have e : qSolver S k r = (1, [], S) := by unfold qSolver; rw [h]; rfl
    rw [e]
    exact ⟨Or.inl ⟨rfl, rfl⟩, rfl⟩
  refine hW.1 (fun pc => Nat.beq pc 10 || Nat.beq pc 30) 100 0 _ _ _ ?_
  refine And.intro (fun h1 => hT 5 _ _ _ xIA rfl rfl (bad (by unfold okSolver; rw [if_pos h1]))) (fun h1 => ?_)
  refine And.intro (fun h2 => ?_) (fun h2 => hT 5 _ _ _ xIA rfl rfl (bad (by unfold okSolver; rw [if_neg h1, if_pos (Int32.not_le.mp h2)])))
  have h2 : ¬ nI 30 < k := Int32.not_lt.mpr h2
  refine And.intro (fun h3 => hT 15 _ _ _ xIA rfl rfl (bad (by unfold okSolver; rw [if_neg h1, if_neg h2, if_pos h3]))) (fun h3 => ?_)
  refine And.intro (fun h4 => ?_) (fun h4 => hT 15 _ _ _ xIA rfl rfl (bad (by unfold okSolver; rw [if_neg h1, if_neg h2, if_neg h3, if_neg h4])))
  have ok : okSolver k r = true := by unfold okSolver; rw [if_neg h1, if_neg h2, if_neg h3, if_pos h4]
  have hk : ∃ q : Nat, q < 31 ∧ k = nI q := by
    have k1 : ¬ k.toInt < 0 := fun q => h1 (Int32.lt_iff_toInt_lt.mpr q)
    have k2 : ¬ (30 : Int) < k.toInt := fun q => h2 (Int32.lt_iff_toInt_lt.mpr (by rw [nI_toInt (by decide)]; exact q))
    refine ⟨k.toInt.toNat, by omega, Int32.toInt.inj ?_⟩
    rw [nI_toInt (by omega)]
    omega
  obtain ⟨q, hq, rfl⟩ := hk
  refine And.intro (lm_n ⟨q, hq⟩) ?_
  have e : qSolver S (nI q) r = (0, [.double (lmC (nI q))], cI' (cG' S 1 (lmC (nI q))) 0 r) := by unfold qSolver; rw [if_pos ok]
  show yPost _ _ _
  rw [e]
  exact ⟨rfl, rfl, rfl⟩
set_option maxRecDepth 100000 in
set_option maxHeartbeats 4000000 in
theorem n_particle (hst : l.stackTraces = false) (S : cS) (np : Nat) (hnp : cI S 1 = nI np) (h24 : np ≤ 24) (k w : Int32) : yMet l yX4_particle cX4_particle 3 (some .float) 6 D ad cy [.ref 0, .int k, .int w] (cW S) (yPost (qPart S np k w)) (yPx xIO xIS (qPart S np k w)) := by
  refine ymet (Fd := xlk xfl4) (Cn := xlk xcl4) (Cl := xCt []) hst (by decide) rfl (by decide) xk_X4_particle xt_X4_particle ⟨_, _, rfl, rfl⟩ xpl4 (xEnt_ok (fun q h => by cases h)) (Nat.le_of_ble_eq_true rfl) (fun WC hW hT => ?_)
  have bad : okPart np k w = false → yPx xIO xIS (qPart S np k w) xIO (cW S) := by
    intro h
    have e : qPart S np k w = (1, [], S) := by unfold qPart; rw [h]; rfl
    rw [e]
    exact ⟨Or.inl ⟨rfl, rfl⟩, rfl⟩
  refine hW.1 (fun pc => Nat.beq pc 15 || Nat.beq pc 96) 100 0 _ _ _ ?_
  refine And.intro (fun h1 => hT 7 _ _ _ xIO rfl rfl (bad (by unfold okPart; rw [if_pos h1]))) (fun h1 => ?_)
  refine And.intro (fun h2 => ?_) (fun h2 => hT 7 _ _ _ xIO rfl rfl (bad ?_))
  rotate_left
  · have h2 : ¬ k < cI S 1 := h2
    rw [hnp] at h2
    unfold okPart
    rw [if_neg h1, if_pos (Int32.not_lt.mp h2)]
  have h2 : k < cI S 1 := h2
  rw [hnp] at h2
  have h2' : ¬ nI np ≤ k := Int32.not_le.mpr h2
  have hk : ∃ q : Nat, q < np ∧ k = nI q := by
    have k1 : ¬ k.toInt < 0 := fun q => h1 (Int32.lt_iff_toInt_lt.mpr q)
    have k2 := Int32.lt_iff_toInt_lt.mp h2
    rw [nI_toInt (by omega)] at k2
    refine ⟨k.toInt.toNat, by omega, Int32.toInt.inj ?_⟩
    rw [nI_toInt (by omega)]
    omega
  obtain ⟨q, hq, rfl⟩ := hk
  have fin : ∀ v : Nat, v < 4 → w = nI v → qPart S np (nI q) w = (0, [.float (cF S (12 + v) q)], S) := by
    intro v hv hw
    unfold qPart okPart
    rw [if_neg h1, if_neg h2', hw, if_neg (nI_pos (by omega)), if_pos (nI_le (by omega) (by decide)), nI_clamp (by omega), nI_clamp (by omega)]
    rfl
  refine And.intro (fun h => hT 38 _ _ _ xIO rfl rfl (bad ?_)) (And.intro (fun h => ?_) (And.intro (fun h => ?_) (And.intro (fun h => ?_) (And.intro (fun h => ?_) trivial))))
  · unfold okPart
    rw [if_neg h1, if_neg h2']
    rcases h with h | h
    · rw [if_pos (Int32.lt_iff_toInt_lt.mpr h)]
    · have h3 : ¬ w ≤ nI 3 := fun z => by
        have := Int32.le_iff_toInt_le.mp z
        rw [nI_toInt (by decide)] at this
        omega
      rw [if_neg h3]
      split <;> rfl
  · refine ⟨q, rfl, by omega, by decide, ?_⟩
    show yPost _ _ _
    rw [fin 0 (by decide) (i32_of (w := w) (n := 0) (by decide) (by omega))]
    exact ⟨rfl, rfl, rfl⟩
  · refine ⟨q, rfl, by omega, by decide, ?_⟩
    show yPost _ _ _
    rw [fin 1 (by decide) (i32_of (w := w) (n := 1) (by decide) (by omega))]
    exact ⟨rfl, rfl, rfl⟩
  · refine ⟨q, rfl, by omega, by decide, ?_⟩
    show yPost _ _ _
    rw [fin 2 (by decide) (i32_of (w := w) (n := 2) (by decide) (by omega))]
    exact ⟨rfl, rfl, rfl⟩
  · refine ⟨q, rfl, by omega, by decide, ?_⟩
    show yPost _ _ _
    rw [fin 3 (by decide) (i32_of (w := w) (n := 3) (by decide) (by omega))]
    exact ⟨rfl, rfl, rfl⟩
set_option maxRecDepth 100000 in
set_option maxHeartbeats 4000000 in
theorem n_pressure (hst : l.stackTraces = false) (S : cS) (x y : Int32) : yMet l yX4_pressure cX4_pressure 3 (some .double) 6 D ad cy [.ref 0, .int x, .int y] (cW S) (yPost (qPres S x y)) (yPx xIO xIS (qPres S x y)) := by
  refine ymet (Fd := xlk xfl4) (Cn := xlk xcl4) (Cl := xCt [(117, t_isCell), (169, t_cellIndex)]) hst (by decide) rfl (by decide) xk_X4_pressure xt_X4_pressure ⟨_, _, rfl, rfl⟩ xpl4 (xEnt_ok (List.forall_mem_cons.mpr ⟨f_isCell4 (by omega), List.forall_mem_cons.mpr ⟨f_cellIndex4 (by omega), fun q h => by cases h⟩⟩)) (Nat.le_of_ble_eq_true rfl) (fun WC hW hT => ?_)
  refine hW.1 (fun pc => Nat.beq pc 8) 100 0 _ _ _ ?_
  refine And.intro (fun h1 => ?_) (fun h1 => ?_)
  · have h1 := xb_ne h1
    obtain ⟨i, j, hi6, hj6, rfl, rfl⟩ := inB_nI h1
    refine ⟨6 * j + i, by rw [pk_mul, nI_add, Nat.mul_comm], by omega, by decide, ?_⟩
    have e : qPres S (nI i) (nI j) = (0, [.double (cD S 35 (6 * j + i))], S) := by
      unfold qPres
      rw [if_pos h1, nI_clamp (show i < 2 ^ 31 by omega), nI_clamp (show j < 2 ^ 31 by omega)]
    show yPost _ _ _
    rw [e]
    exact ⟨rfl, rfl, rfl⟩
  · have h1 := xb_eq h1
    have e : qPres S x y = (1, [], S) := by unfold qPres; rw [h1]; rfl
    exact hT 4 _ _ _ xIO rfl rfl (by rw [e]; exact ⟨Or.inl ⟨rfl, rfl⟩, rfl⟩)
set_option maxRecDepth 100000 in
set_option maxHeartbeats 4000000 in
theorem n_face (hst : l.stackTraces = false) (S : cS) (a x y : Int32) : yMet l yX4_face cX4_face 5 (some .double) 6 D ad cy [.ref 0, .int a, .int x, .int y] (cW S) (yPost (qFace S a x y)) (yPx xIO xIS (qFace S a x y)) := by
  refine ymet (Fd := xlk xfl4) (Cn := xlk xcl4) (Cl := xCt [(394, t_isFace), (411, t_faceIndex)]) hst (by decide) rfl (by decide) xk_X4_face xt_X4_face ⟨_, _, rfl, rfl⟩ xpl4 (xEnt_ok (List.forall_mem_cons.mpr ⟨f_isFace (by omega), List.forall_mem_cons.mpr ⟨f_faceIndex4 (by omega), fun q h => by cases h⟩⟩)) (Nat.le_of_ble_eq_true rfl) (fun WC hW hT => ?_)
  have r1 : yPx xIO xIS (1, [], S) xIO (cW S) := ⟨Or.inl ⟨rfl, rfl⟩, rfl⟩
  have h10 : a = 0 ∨ a = nI 1 → WC (xL_X4_face.drop 10) [some (.ref 0), some (.int a), some (.int x), some (.int y), none] [] (cW S) := by
    intro ha
    refine hW.1 (fun pc => Nat.beq pc 52) 100 10 _ _ _ ?_
    refine And.intro (fun h1 => ?_) (fun h1 => ?_)
    · have h2 : a = nI 1 := by
        rcases ha with h | h
        · exact absurd h h1
        · exact h
      refine ⟨S, rfl, Or.inr ⟨rfl, ?_⟩⟩
      have e0 : qFace S a x y = if fcB 5 6 x y then (0, [.double (cD S 26 (7 * y.toNatClampNeg + x.toNatClampNeg))], S) else (1, [], S) := by unfold qFace; rw [if_neg h1, if_pos h2]
      refine And.intro (fun h3 => ?_) (fun h3 => ?_)
      · have h3 := xb_ne h3
        rw [if_pos h3] at e0
        obtain ⟨i, j, hi, hj, rfl, rfl⟩ := fcB_nI (by decide) (by decide) h3
        rw [nI_clamp (show i < 2 ^ 31 by omega), nI_clamp (show j < 2 ^ 31 by omega)] at e0
        refine ⟨7 * j + i, by rw [pk_mul, nI_add, Nat.mul_comm], by omega, by decide, ?_⟩
        show yPost _ _ _
        rw [e0]
        exact ⟨rfl, rfl, rfl⟩
      · have h3 := xb_eq h3
        rw [h3] at e0
        exact hT 25 _ _ _ xIO rfl rfl (by rw [e0]; exact r1)
    · have h1 : a = 0 := h1
      refine ⟨S, rfl, Or.inl ⟨rfl, ?_⟩⟩
      have e0 : qFace S a x y = if fcB 6 5 x y then (0, [.double (cD S 25 (7 * y.toNatClampNeg + x.toNatClampNeg))], S) else (1, [], S) := by unfold qFace; rw [if_pos h1]
      refine And.intro (fun h3 => ?_) (fun h3 => ?_)
      · have h3 := xb_ne h3
        rw [if_pos h3] at e0
        obtain ⟨i, j, hi, hj, rfl, rfl⟩ := fcB_nI (by decide) (by decide) h3
        rw [nI_clamp (show i < 2 ^ 31 by omega), nI_clamp (show j < 2 ^ 31 by omega)] at e0
        refine ⟨7 * j + i, by rw [pk_mul, nI_add, Nat.mul_comm], by omega, by decide, ?_⟩
        show yPost _ _ _
        rw [e0]
        exact ⟨rfl, rfl, rfl⟩
      · have h3 := xb_eq h3
        rw [h3] at e0
        exact hT 25 _ _ _ xIO rfl rfl (by rw [e0]; exact r1)
  refine hW.1 (fun pc => Nat.beq pc 9 || Nat.beq pc 19) 100 0 _ _ _ ?_
  refine And.intro (fun h1 => h10 (Or.inl h1)) (fun h1 => ?_)
  refine And.intro (fun h2 => h10 (Or.inr h2)) (fun h2 => ?_)
  have e0 : qFace S a x y = (1, [], S) := by unfold qFace; rw [if_neg h1, if_neg h2]
  exact hT 5 _ _ _ xIO rfl rfl (by rw [e0]; exact r1)
end Y2
