/-! the class: fluidCells, State.takeFrom, rest, energy, drift, count, back, buildGrids -/
def cntB (f : Nat → Bool) : Nat → Nat
  | 0 => 0
  | n + 1 => cntB f n + (if f n then 1 else 0)
theorem cntB_le (f : Nat → Bool) : ∀ n, cntB f n ≤ n
  | 0 => Nat.le_refl 0
  | n + 1 => by have := cntB_le f n; unfold cntB; split <;> omega
abbrev flC (S : cS) (np c : Nat) : Bool := flB (cA S 11) (cF S 12) (cF S 13) np (nI (c % 6)) (nI (c / 6))
section C14
variable {l : Launch} {D : va_G} {ad : Nat → Nat} {cy : Nat → ClassId}
set_option maxRecDepth 100000 in
set_option maxHeartbeats 4000000 in
theorem n_fluidCells (S : cS) (np : Nat) (hnp : cI S 1 = nI np) (h24 : np ≤ 24) : xMet l yX3_fluidCells cX3_fluidCells 4 (some .int) 3 D ad cy [.ref 1] (cW S) (fun vs aw' => vs = [.int (nI (cntB (flC S np) 36))] ∧ aw' = cW S) := by
  refine xmet (Fd := xlk xfl3) (Cn := xlk xcl3) (Cl := xCt [(142, t_isFluid)]) (by decide) xk_X3_fluidCells xt_X3_fluidCells ⟨_, _, rfl, rfl⟩ xpl3 (xEnt_ok (List.forall_mem_cons.mpr ⟨f_isFluid3 (by omega), fun q h => by cases h⟩)) (Nat.le_of_ble_eq_true rfl) (fun WC hW => ?_)
  have h9 := loop2 5 5 (fun j i => WC (xL_X3_fluidCells.drop 9) [some (.ref 1), some (.int (nI (cntB (flC S np) (6 * j + i)))), some (.int (nI j)), some (.int (nI i))] [] (cW S)) (fun j => WC (xL_X3_fluidCells.drop 4) [some (.ref 1), some (.int (nI (cntB (flC S np) (6 * j)))), some (.int (nI j)), none] [] (cW S))
    (fun j i hj hi next => by
      have en : cntB (flC S np) (6 * j + (i + 1)) = cntB (flC S np) (6 * j + i) + (if flB (cA S 11) (cF S 12) (cF S 13) np (nI i) (nI j) then 1 else 0) := by
        rw [show 6 * j + (i + 1) = 6 * j + i + 1 by omega, cntB]
        unfold flC
        rw [show (6 * j + i) % 6 = i by omega, show (6 * j + i) / 6 = j by omega]
      rw [en, ← nI_add i 1] at next
      generalize cntB (flC S np) (6 * j + i) = n at next ⊢
      refine hW.1 (fun pc => Nat.beq pc 12) 200 9 _ _ _ ?_
      refine And.intro (fun h1 => absurd h1 (nI_ge (b := 6) (by omega) (by decide))) (fun h1 => ?_)
      refine ⟨S, np, rfl, hnp, h24, ?_⟩
      refine And.intro (fun h2 => ?_) (fun h2 => ?_)
      · rw [xb_eq h2] at next
        exact next
      · rw [xb_ne h2] at next
        have e2 : nI (n + (if true = true then 1 else 0)) = nI n + nI 1 := (nI_add n 1).symm
        rw [e2] at next
        exact next)
    (fun j hj next => by
      rw [← nI_add j 1, show 6 * (j + 1) = 6 * j + (5 + 1) by omega] at next
      refine hW.1 (fun pc => Nat.beq pc 4 || Nat.beq pc 12) 200 9 _ _ _ ?_
      refine And.intro (fun h1 => ?_) (fun h1 => absurd (Int32.le_refl _) h1)
      refine hW.2 4 _ _ _ _ ?_ ?_ next
      · exact And.intro rfl (And.intro rfl (And.intro rfl (trivial)))
      · rfl)
    (fun j hj next => by
      refine hW.1 (fun pc => Nat.beq pc 4 || Nat.beq pc 12) 200 4 _ _ _ ?_
      exact And.intro (fun h1 => absurd h1 (nI_ge (b := 6) (by omega) (by decide))) (fun h1 => next))
    (by
      refine hW.1 (fun pc => Nat.beq pc 4 || Nat.beq pc 12) 200 4 _ _ _ ?_
      exact And.intro (fun h1 => And.intro rfl rfl) (fun h1 => absurd (Int32.le_refl _) h1))
  exact hW.1 (fun pc => Nat.beq pc 4) 200 0 _ _ _ h9
def t_fluidCells (st : List Value) (aw : xA) (k : List Value → xA → Prop) : Prop := match st with
  | .ref 1 :: st => match xsm st with
    | true => ∃ (S : cS) (np : Nat), aw = cW S ∧ cI S 1 = nI np ∧ np ≤ 24 ∧ k (.int (nI (cntB (flC S np) 36)) :: st) (cW S)
    | false => False
  | _ => False
theorem f_fluidCells {d : Nat} (hd : 4 ≤ d) : xEnt l d D ad cy RX4 426 t_fluidCells := xEnt_V (y' := yX3_fluidCells) (cc' := cX3_fluidCells) (n' := 4) (ret' := some .int) (d' := 3) (j := 213) 0 (by decide +kernel) (by decide +kernel) (by omega) (fun st aw k h => by
  match st, h with
  | .ref 1 :: st, h =>
    cases hs : xsm st with
    | false => simp only [t_fluidCells, hs] at h
    | true =>
      simp only [t_fluidCells, hs] at h
      obtain ⟨S, np, rfl, hnp, h24, h2⟩ := h
      exact ⟨[], st, _, 1, 3, _, rfl, rfl, hs, rfl, ⟨_, rfl, rfl⟩, n_fluidCells S np hnp h24, fun vs aw' h9 => by obtain ⟨rfl, rfl⟩ := h9; exact h2⟩)
def tk2A (S : cS) : cS := cI' (cG' (cH' (cG' S 2 (cG S 0)) 1 (cH S 0)) 3 (cG S 1)) 2 (cI S 0)
def tk2S (S : cS) : cS := cF' (cF' (cF' (cF' (cI' (cA' (tk2A S) 16 (filR (cA S 11) (cA S 16) (36))) 3 (cI S 1)) 17 (va_cpy (cF S 12) (cF S 17) 0 0 24)) 18 (va_cpy (cF S 13) (cF S 18) 0 0 24)) 19 (va_cpy (cF S 14) (cF S 19) 0 0 24)) 20 (va_cpy (cF S 15) (cF S 20) 0 0 24)
set_option maxRecDepth 100000 in
set_option maxHeartbeats 4000000 in
theorem tk2_l (Q V : cS) (WC : xC → xO → List Value → xA → Prop) (hW : xSys xL_X3_takeFrom (xlk xfl3) (xlk xcl3) (xCt [(103, t_copyF)]) (xRt none (fun vs aw' => vs = [] ∧ aw' = cW Q)) WC) (c : Nat) (hc : c < 36) (b : Bool) (hb : cA V 11 c = xb b) (next : WC (xL_X3_takeFrom.drop 18) [some (.ref 2), some (.ref 1), some (.int (nI c + nI 1))] [] (cW (cA' V 16 (upd (cA V 16) c (cA V 11 c))))) : WC (xL_X3_takeFrom.drop 18) [some (.ref 2), some (.ref 1), some (.int (nI c))] [] (cW V) := by
  rw [hb] at next
  refine hW.1 (fun pc => Nat.beq pc 34) 200 18 _ _ _ ?_
  refine And.intro (fun h1 => absurd h1 (nI_ge (b := 36) hc (by decide))) (fun h1 => ?_)
  refine ⟨c, rfl, by omega, by decide, ?_⟩
  refine ⟨c, b, hb, rfl, by omega, by decide, ?_⟩
  exact next
set_option maxRecDepth 100000 in
set_option maxHeartbeats 4000000 in
theorem tk2_e (Q V : cS) (WC : xC → xO → List Value → xA → Prop) (hW : xSys xL_X3_takeFrom (xlk xfl3) (xlk xcl3) (xCt [(103, t_copyF)]) (xRt none (fun vs aw' => vs = [] ∧ aw' = cW Q)) WC) (hQ : cW Q = cW (cF' (cF' (cF' (cF' (cI' (V) 3 (cI V 1)) 17 (va_cpy (cF V 12) (cF V 17) 0 0 24)) 18 (va_cpy (cF V 13) (cF V 18) 0 0 24)) 19 (va_cpy (cF V 14) (cF V 19) 0 0 24)) 20 (va_cpy (cF V 15) (cF V 20) 0 0 24))) : WC (xL_X3_takeFrom.drop 18) [some (.ref 2), some (.ref 1), some (.int (nI 36))] [] (cW V) := by
  refine hW.1 (fun _ => false) 200 18 _ _ _ ?_
  refine And.intro (fun h1 => ?_) (fun h1 => absurd (Int32.le_refl _) h1)
  refine ⟨24, rfl, rfl, rfl, by decide, by decide, by decide, ?_⟩
  refine ⟨24, rfl, rfl, rfl, by decide, by decide, by decide, ?_⟩
  refine ⟨24, rfl, rfl, rfl, by decide, by decide, by decide, ?_⟩
  refine ⟨24, rfl, rfl, rfl, by decide, by decide, by decide, ?_⟩
  exact And.intro rfl (by rw [hQ]; rfl)
theorem n_sTake2 (S : cS) (hB : isB (cA S 11)) : xMet l yX3_takeFrom cX3_takeFrom 3 none 1 D ad cy [.ref 2, .ref 1] (cW S) (fun vs aw' => vs = [] ∧ aw' = cW (tk2S S)) := by
  refine xmet (Fd := xlk xfl3) (Cn := xlk xcl3) (Cl := xCt [(103, t_copyF)]) (by decide) xk_X3_takeFrom xt_X3_takeFrom ⟨_, _, rfl, rfl⟩ xpl3 (xEnt_ok (List.forall_mem_cons.mpr ⟨f_copyF (own := RX3) (j := 51) (by decide +kernel) (by omega), fun q h => by cases h⟩)) (Nat.le_of_ble_eq_true rfl) (fun WC hW => ?_)
  have loop : ∀ (n c : Nat), c + n = 36 → WC (xL_X3_takeFrom.drop 18) [some (.ref 2), some (.ref 1), some (.int (nI c))] [] (cW (cA' (tk2A S) 16 (filR (cA S 11) (cA S 16) (c)))) := by
    intro n
    induction n with
    | zero =>
      intro c hc
      have : c = 36 := by omega
      subst this
      exact tk2_e _ _ WC hW rfl
    | succ n ih =>
      intro c hc
      have ih' := ih (c + 1) (by omega)
      rw [← nI_add c 1, filR_i] at ih'
      obtain ⟨b, hb⟩ := hB c
      exact tk2_l _ _ WC hW c (by omega) b hb ih'
  have h9 := loop 36 0 (by omega)
  rw [filR_0] at h9
  exact hW.1 (fun pc => Nat.beq pc 34) 200 0 _ _ _ h9
def tk1A (S : cS) : cS := cI' (cG' (cH' (cG' S 0 (cG S 2)) 0 (cH S 1)) 1 (cG S 3)) 0 (cI S 2)
def tk1S (S : cS) : cS := cF' (cF' (cF' (cF' (cI' (cA' (tk1A S) 11 (filR (cA S 16) (cA S 11) (36))) 1 (cI S 3)) 12 (va_cpy (cF S 17) (cF S 12) 0 0 24)) 13 (va_cpy (cF S 18) (cF S 13) 0 0 24)) 14 (va_cpy (cF S 19) (cF S 14) 0 0 24)) 15 (va_cpy (cF S 20) (cF S 15) 0 0 24)
set_option maxRecDepth 100000 in
set_option maxHeartbeats 4000000 in
theorem tk1_l (Q V : cS) (WC : xC → xO → List Value → xA → Prop) (hW : xSys xL_X3_takeFrom (xlk xfl3) (xlk xcl3) (xCt [(103, t_copyF)]) (xRt none (fun vs aw' => vs = [] ∧ aw' = cW Q)) WC) (c : Nat) (hc : c < 36) (b : Bool) (hb : cA V 16 c = xb b) (next : WC (xL_X3_takeFrom.drop 18) [some (.ref 1), some (.ref 2), some (.int (nI c + nI 1))] [] (cW (cA' V 11 (upd (cA V 11) c (cA V 16 c))))) : WC (xL_X3_takeFrom.drop 18) [some (.ref 1), some (.ref 2), some (.int (nI c))] [] (cW V) := by
  rw [hb] at next
  refine hW.1 (fun pc => Nat.beq pc 34) 200 18 _ _ _ ?_
  refine And.intro (fun h1 => absurd h1 (nI_ge (b := 36) hc (by decide))) (fun h1 => ?_)
  refine ⟨c, rfl, by omega, by decide, ?_⟩
  refine ⟨c, b, hb, rfl, by omega, by decide, ?_⟩
  exact next
set_option maxRecDepth 100000 in
set_option maxHeartbeats 4000000 in
theorem tk1_e (Q V : cS) (WC : xC → xO → List Value → xA → Prop) (hW : xSys xL_X3_takeFrom (xlk xfl3) (xlk xcl3) (xCt [(103, t_copyF)]) (xRt none (fun vs aw' => vs = [] ∧ aw' = cW Q)) WC) (hQ : cW Q = cW (cF' (cF' (cF' (cF' (cI' (V) 1 (cI V 3)) 12 (va_cpy (cF V 17) (cF V 12) 0 0 24)) 13 (va_cpy (cF V 18) (cF V 13) 0 0 24)) 14 (va_cpy (cF V 19) (cF V 14) 0 0 24)) 15 (va_cpy (cF V 20) (cF V 15) 0 0 24))) : WC (xL_X3_takeFrom.drop 18) [some (.ref 1), some (.ref 2), some (.int (nI 36))] [] (cW V) := by
  refine hW.1 (fun _ => false) 200 18 _ _ _ ?_
  refine And.intro (fun h1 => ?_) (fun h1 => absurd (Int32.le_refl _) h1)
  refine ⟨24, rfl, rfl, rfl, by decide, by decide, by decide, ?_⟩
  refine ⟨24, rfl, rfl, rfl, by decide, by decide, by decide, ?_⟩
  refine ⟨24, rfl, rfl, rfl, by decide, by decide, by decide, ?_⟩
  refine ⟨24, rfl, rfl, rfl, by decide, by decide, by decide, ?_⟩
  exact And.intro rfl (by rw [hQ]; rfl)
theorem n_sTake1 (S : cS) (hB : isB (cA S 16)) : xMet l yX3_takeFrom cX3_takeFrom 3 none 1 D ad cy [.ref 1, .ref 2] (cW S) (fun vs aw' => vs = [] ∧ aw' = cW (tk1S S)) := by
  refine xmet (Fd := xlk xfl3) (Cn := xlk xcl3) (Cl := xCt [(103, t_copyF)]) (by decide) xk_X3_takeFrom xt_X3_takeFrom ⟨_, _, rfl, rfl⟩ xpl3 (xEnt_ok (List.forall_mem_cons.mpr ⟨f_copyF (own := RX3) (j := 51) (by decide +kernel) (by omega), fun q h => by cases h⟩)) (Nat.le_of_ble_eq_true rfl) (fun WC hW => ?_)
  have loop : ∀ (n c : Nat), c + n = 36 → WC (xL_X3_takeFrom.drop 18) [some (.ref 1), some (.ref 2), some (.int (nI c))] [] (cW (cA' (tk1A S) 11 (filR (cA S 16) (cA S 11) (c)))) := by
    intro n
    induction n with
    | zero =>
      intro c hc
      have : c = 36 := by omega
      subst this
      exact tk1_e _ _ WC hW rfl
    | succ n ih =>
      intro c hc
      have ih' := ih (c + 1) (by omega)
      rw [← nI_add c 1, filR_i] at ih'
      obtain ⟨b, hb⟩ := hB c
      exact tk1_l _ _ WC hW c (by omega) b hb ih'
  have h9 := loop 36 0 (by omega)
  rw [filR_0] at h9
  exact hW.1 (fun pc => Nat.beq pc 34) 200 0 _ _ _ h9
def t_sTake (st : List Value) (aw : xA) (k : List Value → xA → Prop) : Prop := match st with
  | .ref o :: .ref r :: st => match xsm st with
    | true => ∃ S : cS, aw = cW S ∧ ((r = 2 ∧ o = 1 ∧ isB (cA S 11) ∧ k st (cW (tk2S S))) ∨ (r = 1 ∧ o = 2 ∧ isB (cA S 16) ∧ k st (cW (tk1S S))))
    | false => False
  | _ => False
theorem f_sTake {d : Nat} (hd : 2 ≤ d) : xEnt l d D ad cy RX4 354 t_sTake := xEnt_V (y' := yX3_takeFrom) (cc' := cX3_takeFrom) (n' := 3) (ret' := none) (d' := 1) (j := 177) 1 (by decide +kernel) (by decide +kernel) (by omega) (fun st aw k h => by
  match st, h with
  | .ref o :: .ref r :: st, h =>
    cases hs : xsm st with
    | false => simp only [t_sTake, hs] at h
    | true =>
      simp only [t_sTake, hs] at h
      obtain ⟨S, rfl, h2⟩ := h
      rcases h2 with ⟨rfl, rfl, hB, h2⟩ | ⟨rfl, rfl, hB, h2⟩
      · exact ⟨[.ref 1], st, _, 2, 3, _, rfl, rfl, hs, rfl, ⟨_, rfl, rfl⟩, n_sTake2 S hB, fun vs aw' h9 => by obtain ⟨rfl, rfl⟩ := h9; exact h2⟩
      · exact ⟨[.ref 2], st, _, 1, 3, _, rfl, rfl, hs, rfl, ⟨_, rfl, rfl⟩, n_sTake1 S hB, fun vs aw' h9 => by obtain ⟨rfl, rfl⟩ := h9; exact h2⟩)
set_option maxRecDepth 100000 in
set_option maxHeartbeats 4000000 in
theorem n_rest (S : cS) : xMet l yX4_rest cX4_rest 1 (some .double) 0 D ad cy [.ref 0] (cW S) (fun vs aw' => vs = [.double (cG S 4)] ∧ aw' = cW S) := by
  refine xmet (Fd := xlk xfl4) (Cn := xlk xcl4) (Cl := xCt []) (by decide) xk_X4_rest xt_X4_rest ⟨_, _, rfl, rfl⟩ xpl4 (xEnt_ok (fun q h => by cases h)) (Nat.le_of_ble_eq_true rfl) (fun WC hW => ?_)
  refine hW.1 (fun _ => false) 100 0 _ _ _ ?_
  exact And.intro rfl rfl
set_option maxRecDepth 100000 in
set_option maxHeartbeats 4000000 in
theorem n_energy (S : cS) (np : Nat) (hnp : cI S 1 = nI np) (h24 : np ≤ 24) (hok : ∀ k, k < np → enOk (cF S 14) (cF S 15) k) : xMet l yX4_energy cX4_energy 8 (some .double) 0 D ad cy [.ref 0] (cW S) (fun vs aw' => vs = [.double (enF (cF S 14) (cF S 15) np)] ∧ aw' = cW S) := by
  refine xmet (Fd := xlk xfl4) (Cn := xlk xcl4) (Cl := xCt []) (by decide) xk_X4_energy xt_X4_energy ⟨_, _, rfl, rfl⟩ xpl4 (xEnt_ok (fun q h => by cases h)) (Nat.le_of_ble_eq_true rfl) (fun WC hW => ?_)
  have loop : ∀ (n k : Nat), k + n = np → WC (xL_X4_energy.drop 4) [some (.ref 0), some (.double (enF (cF S 14) (cF S 15) k)), none, some (.int (nI k)), none, none, none, none] [] (cW S) := by
    intro n
    induction n with
    | zero =>
      intro k hk
      have : k = np := by omega
      subst this
      refine hW.1 (fun pc => Nat.beq pc 4) 200 4 _ _ _ ?_
      refine And.intro (fun h1 => And.intro rfl rfl) (fun h1 => absurd ?_ h1)
      show cI S 1 ≤ nI k
      rw [hnp]
      exact Int32.le_refl _
    | succ n ih =>
      intro k hk
      obtain ⟨o1, o2, o3, o4, o5, o6, o7⟩ := hok k (by omega)
      refine hW.1 (fun pc => Nat.beq pc 4) 200 4 _ _ _ ?_
      refine And.intro (fun h1 => absurd (show nI np ≤ nI k by rw [← hnp]; exact h1) (nI_ge (by omega) (by omega))) (fun h1 => ?_)
      refine ⟨k, rfl, by omega, by decide, ?_⟩
      refine And.intro o1 ?_
      refine ⟨k, rfl, by omega, by decide, ?_⟩
      refine And.intro o2 ?_
      refine And.intro o3 ?_
      refine And.intro o4 ?_
      refine And.intro o5 ?_
      refine And.intro o6 ?_
      refine And.intro o7 ?_
      have ih' := ih (k + 1) (by omega)
      rw [← nI_add k 1] at ih'
      refine hW.2 4 _ _ _ _ ?_ ?_ ih'
      · exact And.intro rfl (And.intro rfl (And.intro rfl (trivial)))
      · rfl
  exact hW.1 (fun pc => Nat.beq pc 4) 200 0 _ _ _ (loop np 0 (by omega))
set_option maxRecDepth 100000 in
set_option maxHeartbeats 4000000 in
theorem dr_14 (S : cS) (Q : UInt32) (WC : xC → xO → List Value → xA → Prop) (hW : xSys xL_X4_drift (xlk xfl4) (xlk xcl4) (xCt []) (xRt (some .float) (fun vs aw' => vs = [.float Q] ∧ aw' = cW S)) WC) (x : Int32) (np : Nat) (hnp : cI S 1 = nI np) (h24 : np ≤ 24) (h0 : np ≠ 0) (hok : ∀ k, k < np → vf_n32 (drF (cF S 14) (k + 1))) (hov : vf_n32 (drR (cF S 14) np)) (hQ : Q = drR (cF S 14) np) : ∀ (n k : Nat), k + n = np → WC (xL_X4_drift.drop 20) [some (.ref 0), some (.int x), some (.ref 14), some (.float (drF (cF S 14) k)), some (.int (nI k))] [] (cW S) := by
  have e3 : FP.fdiv (drF (cF S 14) np) (FP.i2f (cI S 1)) = drR (cF S 14) np := by unfold drR; rw [if_neg h0, hnp]
  intro n
  induction n with
  | zero =>
    intro k hk
    have : k = np := by omega
    subst this
    refine hW.1 (fun pc => Nat.beq pc 39) 200 20 _ _ _ ?_
    refine And.intro (fun h1 => ?_) (fun h1 => absurd ?_ h1)
    · refine And.intro ?_ (And.intro ?_ rfl)
      · show vf_n32 (FP.fdiv (drF (cF S 14) k) (FP.i2f (cI S 1)))
        rw [e3]; exact hov
      · show [Value.float (FP.fdiv (drF (cF S 14) k) (FP.i2f (cI S 1)))] = _
        rw [e3, hQ]
    · show cI S 1 ≤ nI k
      rw [hnp]
      exact Int32.le_refl _
  | succ n ih =>
    intro k hk
    have ih' := ih (k + 1) (by omega)
    rw [← nI_add k 1] at ih'
    refine hW.1 (fun pc => Nat.beq pc 39) 200 20 _ _ _ ?_
    refine And.intro (fun h1 => absurd (show nI np ≤ nI k by rw [← hnp]; exact h1) (nI_ge (by omega) (by omega))) (fun h1 => ?_)
    refine ⟨k, rfl, by omega, by decide, ?_⟩
    exact And.intro (hok k (by omega)) ih'
set_option maxRecDepth 100000 in
set_option maxHeartbeats 4000000 in
theorem dr_15 (S : cS) (Q : UInt32) (WC : xC → xO → List Value → xA → Prop) (hW : xSys xL_X4_drift (xlk xfl4) (xlk xcl4) (xCt []) (xRt (some .float) (fun vs aw' => vs = [.float Q] ∧ aw' = cW S)) WC) (x : Int32) (np : Nat) (hnp : cI S 1 = nI np) (h24 : np ≤ 24) (h0 : np ≠ 0) (hok : ∀ k, k < np → vf_n32 (drF (cF S 15) (k + 1))) (hov : vf_n32 (drR (cF S 15) np)) (hQ : Q = drR (cF S 15) np) : ∀ (n k : Nat), k + n = np → WC (xL_X4_drift.drop 20) [some (.ref 0), some (.int x), some (.ref 15), some (.float (drF (cF S 15) k)), some (.int (nI k))] [] (cW S) := by
  have e3 : FP.fdiv (drF (cF S 15) np) (FP.i2f (cI S 1)) = drR (cF S 15) np := by unfold drR; rw [if_neg h0, hnp]
  intro n
  induction n with
  | zero =>
    intro k hk
    have : k = np := by omega
    subst this
    refine hW.1 (fun pc => Nat.beq pc 39) 200 20 _ _ _ ?_
    refine And.intro (fun h1 => ?_) (fun h1 => absurd ?_ h1)
    · refine And.intro ?_ (And.intro ?_ rfl)
      · show vf_n32 (FP.fdiv (drF (cF S 15) k) (FP.i2f (cI S 1)))
        rw [e3]; exact hov
      · show [Value.float (FP.fdiv (drF (cF S 15) k) (FP.i2f (cI S 1)))] = _
        rw [e3, hQ]
    · show cI S 1 ≤ nI k
      rw [hnp]
      exact Int32.le_refl _
  | succ n ih =>
    intro k hk
    have ih' := ih (k + 1) (by omega)
    rw [← nI_add k 1] at ih'
    refine hW.1 (fun pc => Nat.beq pc 39) 200 20 _ _ _ ?_
    refine And.intro (fun h1 => absurd (show nI np ≤ nI k by rw [← hnp]; exact h1) (nI_ge (by omega) (by omega))) (fun h1 => ?_)
    refine ⟨k, rfl, by omega, by decide, ?_⟩
    exact And.intro (hok k (by omega)) ih'
abbrev drC (S : cS) (x : Int32) : Nat → UInt32 := if x = 0 then cF S 14 else cF S 15
set_option maxRecDepth 100000 in
set_option maxHeartbeats 4000000 in
theorem n_drift (S : cS) (np : Nat) (hnp : cI S 1 = nI np) (h24 : np ≤ 24) (x : Int32) (hok : ∀ k, k < np → vf_n32 (drF (drC S x) (k + 1))) (hov : np ≠ 0 → vf_n32 (drR (drC S x) np)) : xMet l yX4_drift cX4_drift 5 (some .float) 0 D ad cy [.ref 0, .int x] (cW S) (fun vs aw' => vs = [.float (drR (drC S x) np)] ∧ aw' = cW S) := by
  refine xmet (Fd := xlk xfl4) (Cn := xlk xcl4) (Cl := xCt []) (by decide) xk_X4_drift xt_X4_drift ⟨_, _, rfl, rfl⟩ xpl4 (xEnt_ok (fun q h => by cases h)) (Nat.le_of_ble_eq_true rfl) (fun WC hW => ?_)
  refine hW.1 (fun pc => Nat.beq pc 39) 200 0 _ _ _ ?_
  refine And.intro (fun h1 => ?_) (fun h1 => ?_)
  · have h1 : ¬ cI S 1 = 0 := h1
    rw [hnp] at h1
    have h0 : np ≠ 0 := fun z => h1 (by rw [z]; exact nI_0)
    have hov := hov h0
    unfold drC at hok hov hW
    refine And.intro (fun h2 => ?_) (fun h2 => ?_)
    · rw [if_neg h2] at hok hov hW
      exact dr_15 S _ WC hW x np hnp h24 h0 hok hov rfl np 0 (by omega)
    · rw [if_pos h2] at hok hov hW
      exact dr_14 S _ WC hW x np hnp h24 h0 hok hov rfl np 0 (by omega)
  · have h1 : cI S 1 = 0 := h1
    rw [hnp] at h1
    have h0 : np = 0 := (nI_eq (by omega) (by decide)).mp (h1.trans nI_0.symm)
    refine And.intro ?_ rfl
    unfold drR
    rw [if_pos h0]
def ctC (S : cS) (np : Nat) (w : Int32) : Int32 := if w = nI 0 then cI S 1 else if w = nI 1 then nI (cntB (flC S np) 36) else if w = nI 2 then cI S 4 else if w = nI 3 then cI S 5 else -1
theorem i32_of {w : Int32} {n : Nat} (hn : n < 2 ^ 31) (h : w.toInt = (n : Int)) : w = nI n := Int32.toInt.inj (by rw [h, nI_toInt hn])
theorem i32_ne {w : Int32} {n : Nat} (hn : n < 2 ^ 31) (h : w.toInt ≠ (n : Int)) : w ≠ nI n := fun z => h (by rw [z, nI_toInt hn])
set_option maxRecDepth 100000 in
set_option maxHeartbeats 4000000 in
theorem n_count (S : cS) (np : Nat) (hnp : cI S 1 = nI np) (h24 : np ≤ 24) (w : Int32) : xMet l yX4_count cX4_count 2 (some .int) 4 D ad cy [.ref 0, .int w] (cW S) (fun vs aw' => vs = [.int (ctC S np w)] ∧ aw' = cW S) := by
  refine xmet (Fd := xlk xfl4) (Cn := xlk xcl4) (Cl := xCt [(426, t_fluidCells)]) (by decide) xk_X4_count xt_X4_count ⟨_, _, rfl, rfl⟩ xpl4 (xEnt_ok (List.forall_mem_cons.mpr ⟨f_fluidCells (by omega), fun q h => by cases h⟩)) (Nat.le_of_ble_eq_true rfl) (fun WC hW => ?_)
  refine hW.1 (fun _ => false) 100 0 _ _ _ ?_
  refine And.intro (fun h => ?_) (And.intro (fun h => ?_) (And.intro (fun h => ?_) (And.intro (fun h => ?_) (And.intro (fun h => ?_) trivial))))
  · refine And.intro ?_ rfl
    unfold ctC
    rw [if_neg (i32_ne (by decide) (by omega)), if_neg (i32_ne (by decide) (by omega)), if_neg (i32_ne (by decide) (by omega)), if_neg (i32_ne (by decide) (by omega))]
  · refine And.intro ?_ rfl
    rw [i32_of (w := w) (n := 0) (by decide) (by omega)]; rfl
  · refine ⟨S, np, rfl, hnp, h24, ?_⟩
    refine And.intro ?_ rfl
    rw [i32_of (w := w) (n := 1) (by decide) (by omega)]; rfl
  · refine And.intro ?_ rfl
    rw [i32_of (w := w) (n := 2) (by decide) (by omega)]; rfl
  · refine And.intro ?_ rfl
    rw [i32_of (w := w) (n := 3) (by decide) (by omega)]; rfl
set_option maxRecDepth 100000 in
set_option maxHeartbeats 4000000 in
theorem n_back (S : cS) (hB1 : isB (cA S 11)) (hB2 : isB (cA S 16)) (b : Bool) : xMet l yX4_back cX4_back 2 (some .boolean) 2 D ad cy [.ref 0, .int (xb b)] (cW S) (fun vs aw' => vs = [.int (xb (!b))] ∧ aw' = cW (if b then tk2S S else tk1S S)) := by
  refine xmet (Fd := xlk xfl4) (Cn := xlk xcl4) (Cl := xCt [(354, t_sTake)]) (by decide) xk_X4_back xt_X4_back ⟨_, _, rfl, rfl⟩ xpl4 (xEnt_ok (List.forall_mem_cons.mpr ⟨f_sTake (by omega), fun q h => by cases h⟩)) (Nat.le_of_ble_eq_true rfl) (fun WC hW => ?_)
  refine hW.1 (fun _ => false) 100 0 _ _ _ ?_
  refine And.intro (fun h1 => ?_) (fun h1 => ?_)
  · have h1 := xb_eq h1
    subst h1
    exact ⟨S, rfl, Or.inr ⟨rfl, rfl, hB2, Exists.intro true ⟨rfl, rfl, rfl⟩⟩⟩
  · have h1 := xb_ne h1
    subst h1
    exact ⟨S, rfl, Or.inl ⟨rfl, rfl, hB1, Exists.intro false ⟨rfl, rfl, rfl⟩⟩⟩
def bgA (S : cS) (np : Nat) : cS := cD' S 21 (rwF 6 (fun i j => gF (cF S 12) (cF S 13) (cF S 14) (mdU i) (mdV j) np) (cD S 21) 6 0)
def bgB (S : cS) (np : Nat) : cS := cD' S 22 (rwF 5 (fun i j => gF (cF S 12) (cF S 13) (cF S 15) (mdV i) (mdU j) np) (cD S 22) 7 0)
def bgC (S : cS) : cS := cD' S 23 (va_cpy (cD S 21) (cD S 23) 0 0 49)
def bgD (S : cS) : cS := cD' S 24 (va_cpy (cD S 22) (cD S 24) 0 0 49)
def bgE (S : cS) (x : UInt64) : cS := cD' S 24 (rwF 5 (fun i j => FP.dadd (cD S 24 (7 * j + i)) x) (cD S 24) 7 0)
def bgF (S : cS) : cS := cD' S 23 (rwF 6 (clG S 23 (nI 1) (nI 0)) (cD S 23) 6 0)
def bgG (S : cS) : cS := cD' S 24 (rwF 5 (clG S 24 (nI 0) (nI 1)) (cD S 24) 7 0)
def bg4 (S : cS) (np : Nat) : cS := bgD (bgC (bgB (bgA S np) np))
def bgS (S : cS) (np : Nat) (t : UInt64) : cS := bgG (bgF (bgE (bg4 S np) (FP.dmul t (cG S 0))))
def bgOk (S : cS) (np : Nat) (t : UInt64) : Prop := (∀ j i, j ≤ 5 → i ≤ 6 → gOkF (cF S 12) (cF S 13) (cF S 14) (mdU i) (mdV j) np) ∧ (∀ j i, j ≤ 6 → i ≤ 5 → gOkF (cF S 12) (cF S 13) (cF S 15) (mdV i) (mdU j) np) ∧ vf_n64 (FP.dmul t (cG S 0)) ∧ ∀ j i, j ≤ 6 → i ≤ 5 → vf_n64 (FP.dadd (cD (bg4 S np) 24 (7 * j + i)) (FP.dmul t (cG S 0)))
set_option maxRecDepth 100000 in
set_option maxHeartbeats 4000000 in
theorem bg_1 (Q S : cS) (WC : xC → xO → List Value → xA → Prop) (hW : xSys xL_X4_buildGrids (xlk xfl4) (xlk xcl4) (xCt [(434, t_gather), (442, t_fTake), (448, t_addToAll), (454, t_closeFaces)]) (xRt none (fun vs aw' => vs = [] ∧ aw' = cW Q)) WC) (np : Nat) (hnp : cI S 1 = nI np) (h24 : np ≤ 24) (t : UInt64) (o1 : ∀ j i, j ≤ 5 → i ≤ 6 → gOkF (cF S 12) (cF S 13) (cF S 14) (mdU i) (mdV j) np) (next : WC (xL_X4_buildGrids.drop 8) [some (.ref 0), some (.double t), none] [] (cW (bgA S np))) : WC (xL_X4_buildGrids.drop 0) [some (.ref 0), some (.double t), none] [] (cW S) := by
  unfold bgA at next
  refine hW.1 (fun pc => Nat.beq pc 18) 100 0 _ _ _ ?_
  exact ⟨S, np, rfl, hnp, h24, Or.inl ⟨rfl, rfl, o1, next⟩⟩
set_option maxRecDepth 100000 in
set_option maxHeartbeats 4000000 in
theorem bg_2 (Q S : cS) (WC : xC → xO → List Value → xA → Prop) (hW : xSys xL_X4_buildGrids (xlk xfl4) (xlk xcl4) (xCt [(434, t_gather), (442, t_fTake), (448, t_addToAll), (454, t_closeFaces)]) (xRt none (fun vs aw' => vs = [] ∧ aw' = cW Q)) WC) (np : Nat) (hnp : cI S 1 = nI np) (h24 : np ≤ 24) (t : UInt64) (o1 : ∀ j i, j ≤ 6 → i ≤ 5 → gOkF (cF S 12) (cF S 13) (cF S 15) (mdV i) (mdU j) np) (next : WC (xL_X4_buildGrids.drop 16) [some (.ref 0), some (.double t), none] [] (cW (bgB S np))) : WC (xL_X4_buildGrids.drop 8) [some (.ref 0), some (.double t), none] [] (cW S) := by
  unfold bgB at next
  refine hW.1 (fun pc => Nat.beq pc 36) 100 8 _ _ _ ?_
  exact ⟨S, np, rfl, hnp, h24, Or.inr ⟨rfl, rfl, o1, next⟩⟩
set_option maxRecDepth 100000 in
set_option maxHeartbeats 4000000 in
theorem bg_3 (Q S : cS) (WC : xC → xO → List Value → xA → Prop) (hW : xSys xL_X4_buildGrids (xlk xfl4) (xlk xcl4) (xCt [(434, t_gather), (442, t_fTake), (448, t_addToAll), (454, t_closeFaces)]) (xRt none (fun vs aw' => vs = [] ∧ aw' = cW Q)) WC) (t : UInt64) (next : WC (xL_X4_buildGrids.drop 21) [some (.ref 0), some (.double t), none] [] (cW (bgC S))) : WC (xL_X4_buildGrids.drop 16) [some (.ref 0), some (.double t), none] [] (cW S) := by
  unfold bgC at next
  refine hW.1 (fun pc => Nat.beq pc 47) 100 16 _ _ _ ?_
  exact ⟨S, rfl, Or.inl ⟨rfl, rfl, next⟩⟩
set_option maxRecDepth 100000 in
set_option maxHeartbeats 4000000 in
theorem bg_4 (Q S : cS) (WC : xC → xO → List Value → xA → Prop) (hW : xSys xL_X4_buildGrids (xlk xfl4) (xlk xcl4) (xCt [(434, t_gather), (442, t_fTake), (448, t_addToAll), (454, t_closeFaces)]) (xRt none (fun vs aw' => vs = [] ∧ aw' = cW Q)) WC) (t : UInt64) (next : WC (xL_X4_buildGrids.drop 26) [some (.ref 0), some (.double t), none] [] (cW (bgD S))) : WC (xL_X4_buildGrids.drop 21) [some (.ref 0), some (.double t), none] [] (cW S) := by
  unfold bgD at next
  refine hW.1 (fun pc => Nat.beq pc 58) 100 21 _ _ _ ?_
  exact ⟨S, rfl, Or.inr (Or.inl ⟨rfl, rfl, next⟩)⟩
set_option maxRecDepth 100000 in
set_option maxHeartbeats 4000000 in
theorem bg_5 (Q S : cS) (WC : xC → xO → List Value → xA → Prop) (hW : xSys xL_X4_buildGrids (xlk xfl4) (xlk xcl4) (xCt [(434, t_gather), (442, t_fTake), (448, t_addToAll), (454, t_closeFaces)]) (xRt none (fun vs aw' => vs = [] ∧ aw' = cW Q)) WC) (t : UInt64) (o1 : vf_n64 (FP.dmul t (cG S 0))) (o2 : ∀ j i, j ≤ 6 → i ≤ 5 → vf_n64 (FP.dadd (cD S 24 (7 * j + i)) (FP.dmul t (cG S 0)))) (next : WC (xL_X4_buildGrids.drop 34) [some (.ref 0), some (.double t), none] [] (cW (bgE S (FP.dmul t (cG S 0))))) : WC (xL_X4_buildGrids.drop 26) [some (.ref 0), some (.double t), none] [] (cW S) := by
  unfold bgE at next
  refine hW.1 (fun pc => Nat.beq pc 74) 100 26 _ _ _ ?_
  exact And.intro o1 ⟨S, rfl, o2, next⟩
set_option maxRecDepth 100000 in
set_option maxHeartbeats 4000000 in
theorem bg_6 (Q S : cS) (WC : xC → xO → List Value → xA → Prop) (hW : xSys xL_X4_buildGrids (xlk xfl4) (xlk xcl4) (xCt [(434, t_gather), (442, t_fTake), (448, t_addToAll), (454, t_closeFaces)]) (xRt none (fun vs aw' => vs = [] ∧ aw' = cW Q)) WC) (t : UInt64) (next : WC (xL_X4_buildGrids.drop 39) [some (.ref 0), some (.double t), none] [] (cW (bgF S))) : WC (xL_X4_buildGrids.drop 34) [some (.ref 0), some (.double t), none] [] (cW S) := by
  unfold bgF at next
  refine hW.1 (fun pc => Nat.beq pc 85) 100 34 _ _ _ ?_
  exact ⟨S, rfl, Or.inl ⟨rfl, next⟩⟩
set_option maxRecDepth 100000 in
set_option maxHeartbeats 4000000 in
theorem bg_7 (Q S : cS) (WC : xC → xO → List Value → xA → Prop) (hW : xSys xL_X4_buildGrids (xlk xfl4) (xlk xcl4) (xCt [(434, t_gather), (442, t_fTake), (448, t_addToAll), (454, t_closeFaces)]) (xRt none (fun vs aw' => vs = [] ∧ aw' = cW Q)) WC) (t : UInt64) (hQ : Q = bgG S) : WC (xL_X4_buildGrids.drop 39) [some (.ref 0), some (.double t), none] [] (cW S) := by
  refine hW.1 (fun _ => false) 100 39 _ _ _ ?_
  exact ⟨S, rfl, Or.inr ⟨rfl, And.intro rfl (by rw [hQ]; rfl)⟩⟩
theorem n_buildGrids (S : cS) (np : Nat) (hnp : cI S 1 = nI np) (h24 : np ≤ 24) (t : UInt64) (hok : bgOk S np t) : xMet l yX4_buildGrids cX4_buildGrids 3 none 4 D ad cy [.ref 0, .double t] (cW S) (fun vs aw' => vs = [] ∧ aw' = cW (bgS S np t)) := by
  refine xmet (Fd := xlk xfl4) (Cn := xlk xcl4) (Cl := xCt [(434, t_gather), (442, t_fTake), (448, t_addToAll), (454, t_closeFaces)]) (by decide) xk_X4_buildGrids xt_X4_buildGrids ⟨_, _, rfl, rfl⟩ xpl4 (xEnt_ok (List.forall_mem_cons.mpr ⟨f_gather (by omega), List.forall_mem_cons.mpr ⟨f_fTake4 (by omega), List.forall_mem_cons.mpr ⟨f_addToAll (by omega), List.forall_mem_cons.mpr ⟨f_closeFaces (by omega), fun q h => by cases h⟩⟩⟩⟩)) (Nat.le_of_ble_eq_true rfl) (fun WC hW => ?_)
  obtain ⟨o1, o2, o3, o4⟩ := hok
  refine bg_1 _ S WC hW np hnp h24 t o1 ?_
  refine bg_2 _ (bgA S np) WC hW np hnp h24 t o2 ?_
  refine bg_3 _ (bgB (bgA S np) np) WC hW t ?_
  refine bg_4 _ (bgC (bgB (bgA S np) np)) WC hW t ?_
  have e0 : cG (bg4 S np) 0 = cG S 0 := rfl
  refine bg_5 _ (bg4 S np) WC hW t (by rw [e0]; exact o3) (by rw [e0]; exact o4) ?_
  rw [e0]
  refine bg_6 _ (bgE (bg4 S np) (FP.dmul t (cG S 0))) WC hW t ?_
  exact bg_7 _ (bgF (bgE (bg4 S np) (FP.dmul t (cG S 0)))) WC hW t rfl
def t_buildGrids (st : List Value) (aw : xA) (k : List Value → xA → Prop) : Prop := match st with
  | .double t :: .ref 0 :: st => match xsm st with
    | true => ∃ (S : cS) (np : Nat), aw = cW S ∧ cI S 1 = nI np ∧ np ≤ 24 ∧ bgOk S np t ∧ k st (cW (bgS S np t))
    | false => False
  | _ => False
theorem f_buildGrids {d : Nat} (hd : 5 ≤ d) : xEnt l d D ad cy RX4 296 t_buildGrids := xEnt_V (y' := yX4_buildGrids) (cc' := cX4_buildGrids) (n' := 3) (ret' := none) (d' := 4) (j := 148) 1 (by decide +kernel) (by decide +kernel) (by omega) (fun st aw k h => by
  match st, h with
  | .double t :: .ref 0 :: st, h =>
    cases hs : xsm st with
    | false => simp only [t_buildGrids, hs] at h
    | true =>
      simp only [t_buildGrids, hs] at h
      obtain ⟨S, np, rfl, hnp, h24, hok, h2⟩ := h
      exact ⟨[.double t], st, _, 0, 4, _, rfl, rfl, hs, rfl, ⟨_, rfl, rfl⟩, n_buildGrids S np hnp h24 t hok, fun vs aw' h9 => by obtain ⟨rfl, rfl⟩ := h9; exact h2⟩)
end C14
