/-! the reference: solve -/
section M12
variable {l : Launch} {D : va_G} {ad : Nat → Nat} {cy : Nat → ClassId}
set_option maxRecDepth 100000 in
set_option maxHeartbeats 4000000 in
theorem sv_d4 (S : mS) (R : Nat) (WC : xC → xO → List Value → xA → Prop) (hW : xSys xL_X5_solve (xlk xfl5) (xlk xcl5) (xCt [(276, s_rests), (284, s_makeZ), (290, s_product), (298, s_times)]) (xRt (some .int) (fun vs aw' => vs = [.int (svF S R).1] ∧ aw' = mW (svF S R).2)) WC) (rd : Nat) (V : mS) (now q : UInt64) (k1 : vf_n64 (FP.ddiv now q)) (next : WC (xL_X5_solve.drop 65) [some (.ref 0), some (.double now), none, some (.int (nI rd)), some (.double q), none, some (.double (FP.ddiv now q)), none, some (.int (nI 0)), none, none] [] (mW V)) : WC (xL_X5_solve.drop 59) [some (.ref 0), some (.double now), none, some (.int (nI rd)), some (.double q), none, none, none, none, none, none] [] (mW V) := by
  refine hW.1 (fun pc => Nat.beq pc 105) 300 59 _ _ _ ?_
  exact And.intro k1 next
set_option maxRecDepth 100000 in
set_option maxHeartbeats 4000000 in
theorem sv_d3 (S : mS) (R : Nat) (WC : xC → xO → List Value → xA → Prop) (hW : xSys xL_X5_solve (xlk xfl5) (xlk xcl5) (xCt [(276, s_rests), (284, s_makeZ), (290, s_product), (298, s_times)]) (xRt (some .int) (fun vs aw' => vs = [.int (svF S R).1] ∧ aw' = mW (svF S R).2)) WC) (rd : Nat) (V : mS) (now q : UInt64) (g3 : vf_n64 (FP.dmul now 4562146422526312448)) (ne : ¬ 0 < cvd q (FP.dmul now 4562146422526312448) .l → svF S R = (-1, V)) (next : 0 < cvd q (FP.dmul now 4562146422526312448) .l → WC (xL_X5_solve.drop 59) [some (.ref 0), some (.double now), none, some (.int (nI rd)), some (.double q), none, none, none, none, none, none] [] (mW V)) : WC (xL_X5_solve.drop 50) [some (.ref 0), some (.double now), none, some (.int (nI rd)), none, none, none, none, none, none, none] [.double q] (mW V) := by
  refine hW.1 (fun pc => Nat.beq pc 96) 300 50 _ _ _ ?_
  refine And.intro g3 ?_
  refine And.intro (fun h3 => next h3) (fun h3 => ?_)
  exact And.intro (by rw [ne h3]) (by rw [ne h3])
set_option maxRecDepth 100000 in
set_option maxHeartbeats 4000000 in
theorem sv_d2 (S : mS) (R : Nat) (WC : xC → xO → List Value → xA → Prop) (hW : xSys xL_X5_solve (xlk xfl5) (xlk xcl5) (xCt [(276, s_rests), (284, s_makeZ), (290, s_product), (298, s_times)]) (xRt (some .int) (fun vs aw' => vs = [.int (svF S R).1] ∧ aw' = mW (svF S R).2)) WC) (rd : Nat) (V : mS) (now : UInt64) (g2 : prOk (mD V 18) (mD V 19)) (next : WC (xL_X5_solve.drop 50) [some (.ref 0), some (.double now), none, some (.int (nI rd)), none, none, none, none, none, none, none] [.double (dotZS V)] (mW V)) : WC (xL_X5_solve.drop 47) [some (.ref 0), some (.double now), none, some (.int (nI rd)), none, none, none, none, none, none, none] [] (mW V) := by
  refine hW.1 (fun pc => Nat.beq pc 81) 300 47 _ _ _ ?_
  exact ⟨V, false, rfl, rfl, g2, next⟩
set_option maxRecDepth 100000 in
set_option maxHeartbeats 4000000 in
theorem sv_d1 (S : mS) (R : Nat) (WC : xC → xO → List Value → xA → Prop) (hW : xSys xL_X5_solve (xlk xfl5) (xlk xcl5) (xCt [(276, s_rests), (284, s_makeZ), (290, s_product), (298, s_times)]) (xRt (some .int) (fun vs aw' => vs = [.int (svF S R).1] ∧ aw' = mW (svF S R).2)) WC) (rd : Nat) (T : mS) (now : UInt64) (g1 : tmOk (mD T 14) (mD T 19) (mA T 11)) (next : WC (xL_X5_solve.drop 47) [some (.ref 0), some (.double now), none, some (.int (nI rd)), none, none, none, none, none, none, none] [] (mW (tmS T))) : WC (xL_X5_solve.drop 45) [some (.ref 0), some (.double now), none, some (.int (nI rd)), none, none, none, none, none, none, none] [] (mW T) := by
  refine hW.1 (fun pc => Nat.beq pc 76) 300 45 _ _ _ ?_
  exact ⟨T, rfl, g1, next⟩
set_option maxRecDepth 100000 in
set_option maxHeartbeats 4000000 in
theorem sv_h0 (S : mS) (R : Nat) (WC : xC → xO → List Value → xA → Prop) (hW : xSys xL_X5_solve (xlk xfl5) (xlk xcl5) (xCt [(276, s_rests), (284, s_makeZ), (290, s_product), (298, s_times)]) (xRt (some .int) (fun vs aw' => vs = [.int (svF S R).1] ∧ aw' = mW (svF S R).2)) WC) (rd : Nat) (T : mS) (now : UInt64) (hlt : mA T 7 0 < nI rd) (he : svF S R = (-1, T)) : WC (xL_X5_solve.drop 33) [some (.ref 0), some (.double now), none, some (.int (nI rd)), none, none, none, none, none, none, none] [] (mW T) := by
  refine hW.1 (fun pc => Nat.beq pc 54) 300 33 _ _ _ ?_
  refine ⟨0, rfl, by decide, by decide, ?_⟩
  refine And.intro (fun h1 => ?_) (fun h1 => absurd hlt h1)
  exact And.intro (by rw [he]) (by rw [he])
set_option maxRecDepth 100000 in
set_option maxHeartbeats 4000000 in
theorem sv_h1 (S : mS) (R : Nat) (WC : xC → xO → List Value → xA → Prop) (hW : xSys xL_X5_solve (xlk xfl5) (xlk xcl5) (xCt [(276, s_rests), (284, s_makeZ), (290, s_product), (298, s_times)]) (xRt (some .int) (fun vs aw' => vs = [.int (svF S R).1] ∧ aw' = mW (svF S R).2)) WC) (rd : Nat) (T : mS) (now : UInt64) (hle : ¬ mA T 7 0 < nI rd) (ne : ¬ 0 < cvd now FP.dconst0 .l → svF S R = (-1, T)) (next : 0 < cvd now FP.dconst0 .l → WC (xL_X5_solve.drop 45) [some (.ref 0), some (.double now), none, some (.int (nI rd)), none, none, none, none, none, none, none] [] (mW T)) : WC (xL_X5_solve.drop 33) [some (.ref 0), some (.double now), none, some (.int (nI rd)), none, none, none, none, none, none, none] [] (mW T) := by
  refine hW.1 (fun pc => Nat.beq pc 72) 300 33 _ _ _ ?_
  refine ⟨0, rfl, by decide, by decide, ?_⟩
  refine And.intro (fun h1 => absurd h1 hle) (fun h1 => ?_)
  refine And.intro (fun h2 => next h2) (fun h2 => ?_)
  exact And.intro (by rw [ne h2]) (by rw [ne h2])
theorem svOk_s (n : Nat) (S : mS) (now : UInt64) (h : svOk (n + 1) S now) (h0 : 0 < cvd now FP.dconst0 .l) : tmOk (mD S 14) (mD S 19) (mA S 11) ∧ prOk (mD (tmS S) 18) (mD (tmS S) 19) ∧ vf_n64 (FP.dmul now 4562146422526312448) ∧
      (0 < cvd (dotZS (tmS S)) (FP.dmul now 4562146422526312448) .l → vf_n64 (FP.ddiv now (dotZS (tmS S))) ∧ avOk (tmS S) (FP.ddiv now (dotZS (tmS S))) ∧ rsOk (svA S now) ∧
        (0 < cvd (rsF (mD (svA S now) 17) 36) (mD S 6 0) .g →
          mzOk (svA S now) ∧ prOk (mD (svZ S now) 18) (mD (svZ S now) 17) ∧ vf_n64 (FP.ddiv (dotZR (svZ S now)) now) ∧
          tuOk (svZ S now) (FP.ddiv (dotZR (svZ S now)) now) ∧
          svOk n (svT S now) (dotZR (svZ S now)))) := by
  rw [svOk] at h
  exact h h0
theorem sv_rounds (S : mS) (R : Nat) (h40 : R ≤ 40) (WC : xC → xO → List Value → xA → Prop) (hW : xSys xL_X5_solve (xlk xfl5) (xlk xcl5) (xCt [(276, s_rests), (284, s_makeZ), (290, s_product), (298, s_times)]) (xRt (some .int) (fun vs aw' => vs = [.int (svF S R).1] ∧ aw' = mW (svF S R).2)) WC) : ∀ (n rd : Nat) (T : mS) (now : UInt64), mA T 7 0 = nI R → rd + n = R + 1 → svOk n T now → svF S R = svL n rd T now → WC (xL_X5_solve.drop 33) [some (.ref 0), some (.double now), none, some (.int (nI rd)), none, none, none, none, none, none, none] [] (mW T) := by
  intro n
  induction n with
  | zero =>
    intro rd T now hTR hrd _ he
    rw [svL] at he
    exact sv_h0 S R WC hW rd T now (by rw [hTR]; exact nI_lt (by omega) (by omega)) he
  | succ n ih =>
    intro rd T now hTR hrd hok he
    have L2 := sv_L2 S R h40 WC hW n ih rd T now hTR hrd he
    refine sv_h1 S R WC hW rd T now (by rw [hTR]; exact nI_nlt (by omega) (by omega)) (fun h2 => by rw [he, svL_s, if_neg h2]) (fun h2 => ?_)
    obtain ⟨g1, g2, g3, g4⟩ := svOk_s n T now hok h2
    refine sv_d1 S R WC hW rd T now g1 ?_
    refine sv_d2 S R WC hW rd (tmS T) now g2 ?_
    refine sv_d3 S R WC hW rd (tmS T) now (dotZS (tmS T)) g3 (fun h3 => by rw [he, svL_s, if_pos h2, if_neg h3]) (fun h3 => ?_)
    obtain ⟨k1, k2, k3, k4⟩ := g4 h3
    refine sv_d4 S R WC hW rd (tmS T) now (dotZS (tmS T)) k1 ?_
    have l1 := sv_L1 S R WC hW rd T now (FP.ddiv now (dotZS (tmS T))) (dotZS (tmS T)) rfl k2 (L2 h2 h3 k3 k4) 36 0 (by omega)
    rw [avS_0] at l1
    exact l1
set_option maxRecDepth 100000 in
set_option maxHeartbeats 4000000 in
theorem sv_cp (S : mS) (R : Nat) (WC : xC → xO → List Value → xA → Prop) (hW : xSys xL_X5_solve (xlk xfl5) (xlk xcl5) (xCt [(276, s_rests), (284, s_makeZ), (290, s_product), (298, s_times)]) (xRt (some .int) (fun vs aw' => vs = [.int (svF S R).1] ∧ aw' = mW (svF S R).2)) WC) (Z : mS) (next : WC (xL_X5_solve.drop 27) [some (.ref 0), none, none, none, none, none, none, none, none, none, none] [] (mW (cpS Z 36))) : ∀ (n c : Nat), c + n = 36 → WC (xL_X5_solve.drop 14) [some (.ref 0), some (.int (nI c)), none, none, none, none, none, none, none, none, none] [] (mW (cpS Z c)) := by
  intro n
  induction n with
  | zero =>
    intro c hc
    have : c = 36 := by omega
    subst this
    refine hW.1 (fun pc => Nat.beq pc 22 || Nat.beq pc 46) 300 14 _ _ _ ?_
    refine And.intro (fun h2 => ?_) (fun h2 => absurd (Int32.le_refl _) h2)
    refine hW.2 27 _ _ _ _ ?_ ?_ next
    · exact And.intro rfl (trivial)
    · rfl
  | succ n ih =>
    intro c hc
    have ih' := ih (c + 1) (by omega)
    have e1 : nI c + nI 1 = nI (c + 1) := nI_add c 1
    unfold cpS at ih'
    rw [← e1, filR_s] at ih'
    refine hW.1 (fun pc => Nat.beq pc 22) 300 14 _ _ _ ?_
    refine And.intro (fun h2 => absurd h2 (nI_ge (b := 36) (by omega) (by decide))) (fun h2 => ?_)
    refine ⟨c, rfl, by omega, by decide, ?_⟩
    refine ⟨c, rfl, by omega, by decide, ?_⟩
    exact ih'
set_option maxRecDepth 100000 in
set_option maxHeartbeats 4000000 in
theorem sv_e1 (S : mS) (R : Nat) (WC : xC → xO → List Value → xA → Prop) (hW : xSys xL_X5_solve (xlk xfl5) (xlk xcl5) (xCt [(276, s_rests), (284, s_makeZ), (290, s_product), (298, s_times)]) (xRt (some .int) (fun vs aw' => vs = [.int (svF S R).1] ∧ aw' = mW (svF S R).2)) WC) (Z : mS) (k2 : prOk (mD Z 18) (mD Z 17)) (next : WC (xL_X5_solve.drop 33) [some (.ref 0), some (.double (dotZR Z)), none, some (.int (nI 1)), none, none, none, none, none, none, none] [] (mW Z)) : WC (xL_X5_solve.drop 27) [some (.ref 0), none, none, none, none, none, none, none, none, none, none] [] (mW Z) := by
  refine hW.1 (fun pc => Nat.beq pc 54) 300 27 _ _ _ ?_
  exact ⟨Z, true, rfl, rfl, k2, next⟩
set_option maxRecDepth 100000 in
set_option maxHeartbeats 4000000 in
theorem sv_e2 (S : mS) (R : Nat) (WC : xC → xO → List Value → xA → Prop) (hW : xSys xL_X5_solve (xlk xfl5) (xlk xcl5) (xCt [(276, s_rests), (284, s_makeZ), (290, s_product), (298, s_times)]) (xRt (some .int) (fun vs aw' => vs = [.int (svF S R).1] ∧ aw' = mW (svF S R).2)) WC) (hrs : rsOk S) (ne : ¬ 0 < cvd (rsF (mD S 17) 36) (mD S 6 0) .g → svF S R = (nI 0, S)) (next : 0 < cvd (rsF (mD S 17) 36) (mD S 6 0) .g → WC (xL_X5_solve.drop 10) [some (.ref 0), none, none, none, none, none, none, none, none, none, none] [] (mW S)) : WC (xL_X5_solve.drop 0) [some (.ref 0), none, none, none, none, none, none, none, none, none, none] [] (mW S) := by
  refine hW.1 (fun pc => Nat.beq pc 16) 300 0 _ _ _ ?_
  refine ⟨S, rfl, hrs, ?_⟩
  refine ⟨0, rfl, by decide, by decide, ?_⟩
  refine And.intro (fun h1 => next h1) (fun h1 => ?_)
  exact And.intro (by rw [ne h1]) (by rw [ne h1])
set_option maxRecDepth 100000 in
set_option maxHeartbeats 4000000 in
theorem sv_e3 (S : mS) (R : Nat) (WC : xC → xO → List Value → xA → Prop) (hW : xSys xL_X5_solve (xlk xfl5) (xlk xcl5) (xCt [(276, s_rests), (284, s_makeZ), (290, s_product), (298, s_times)]) (xRt (some .int) (fun vs aw' => vs = [.int (svF S R).1] ∧ aw' = mW (svF S R).2)) WC) (k1 : mzOk S) (next : WC (xL_X5_solve.drop 14) [some (.ref 0), some (.int (nI 0)), none, none, none, none, none, none, none, none, none] [] (mW (mzS S))) : WC (xL_X5_solve.drop 10) [some (.ref 0), none, none, none, none, none, none, none, none, none, none] [] (mW S) := by
  refine hW.1 (fun pc => Nat.beq pc 22) 300 10 _ _ _ ?_
  exact ⟨S, rfl, k1, next⟩
theorem m_solve (S : mS) (R : Nat) (hR : mA S 7 0 = nI R) (h40 : R ≤ 40) (hok : sfOk S R) : xMet l yX5_solve cX5_solve 11 (some .int) 3 D ad cy [.ref 0] (mW S) (fun vs aw' => vs = [.int (svF S R).1] ∧ aw' = mW (svF S R).2) := by
  refine xmet (Fd := xlk xfl5) (Cn := xlk xcl5) (Cl := xCt [(276, s_rests), (284, s_makeZ), (290, s_product), (298, s_times)]) (by decide) xk_X5_solve xt_X5_solve ⟨_, _, rfl, rfl⟩ xpl5 (xEnt_ok (List.forall_mem_cons.mpr ⟨e_rests (by omega), List.forall_mem_cons.mpr ⟨e_makeZ (by omega), List.forall_mem_cons.mpr ⟨e_product (by omega), List.forall_mem_cons.mpr ⟨e_times (by omega), fun q h => by cases h⟩⟩⟩⟩)) (Nat.le_of_ble_eq_true rfl) (fun WC hW => ?_)
  obtain ⟨hrs, hrest⟩ := hok
  refine sv_e2 S R WC hW hrs (fun h1 => by unfold svF; rw [if_neg h1]) (fun h1 => ?_)
  obtain ⟨k1, k2, k3⟩ := hrest h1
  refine sv_e3 S R WC hW k1 ?_
  have hR2 : mA (cpS (mzS S) 36) 7 0 = nI R := by rw [cpS_A, mzS_A]; exact hR
  have h9 := sv_cp S R WC hW (mzS S) (sv_e1 S R WC hW (cpS (mzS S) 36) k2 (sv_rounds S R h40 WC hW R 1 (cpS (mzS S) 36) (dotZR (cpS (mzS S) 36)) hR2 (by omega) k3 (by unfold svF; rw [if_pos h1]))) 36 0 (by omega)
  rw [cpS_0] at h9
  exact h9
def s_solve (st : List Value) (aw : xA) (k : List Value → xA → Prop) : Prop := match st with
  | .ref 0 :: st => match xsm st with
    | true => ∃ (S : mS) (R : Nat), aw = mW S ∧ mA S 7 0 = nI R ∧ R ≤ 40 ∧ sfOk S R ∧ k (.int (svF S R).1 :: st) (mW (svF S R).2)
    | false => False
  | _ => False
theorem e_solve {d : Nat} (hd : 4 ≤ d) : xEnt l d D ad cy RX5 364 s_solve := xEnt_V (y' := yX5_solve) (cc' := cX5_solve) (n' := 11) (ret' := some .int) (d' := 3) (j := 182) 0 (by decide +kernel) (by decide +kernel) (by omega) (fun st aw k h => by
  match st, h with
  | .ref 0 :: st, h =>
    cases hs : xsm st with
    | false => simp only [s_solve, hs] at h
    | true =>
      simp only [s_solve, hs] at h
      obtain ⟨S, R, rfl, hR, h40, hok, h2⟩ := h
      exact ⟨[], st, _, 0, 5, _, rfl, rfl, hs, rfl, ⟨_, rfl, rfl⟩, m_solve S R hR h40 hok, fun vs aw' h9 => by obtain ⟨rfl, rfl⟩ := h9; exact h2⟩)
end M12
