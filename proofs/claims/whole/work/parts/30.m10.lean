/-! the reference: solve -/
def avP (S : mS) (k : UInt64) (c : Nat) : UInt64 := FP.dadd (mD S 16 c) (FP.dmul k (mD S 19 c))
def avR (S : mS) (k : UInt64) (c : Nat) : UInt64 := FP.dsub (mD S 17 c) (FP.dmul k (mD S 18 c))
def avS (S : mS) (k : UInt64) (c : Nat) : mS := mD' (mD' S 16 (filR (avP S k) (mD S 16) c)) 17 (filR (avR S k) (mD S 17) c)
def avOk (S : mS) (k : UInt64) : Prop := ∀ c, c < 36 → vf_n64 (FP.dmul k (mD S 19 c)) ∧ vf_n64 (avP S k c) ∧ vf_n64 (FP.dmul k (mD S 18 c)) ∧ vf_n64 (avR S k c)
def tuG (S : mS) (k : UInt64) (c : Nat) : UInt64 := FP.dadd (mD S 18 c) (FP.dmul k (mD S 19 c))
def tuS (S : mS) (k : UInt64) (c : Nat) : mS := mD' S 19 (filR (tuG S k) (mD S 19) c)
def tuOk (S : mS) (k : UInt64) : Prop := ∀ c, c < 36 → vf_n64 (FP.dmul k (mD S 19 c)) ∧ vf_n64 (tuG S k c)
def cpS (S : mS) (c : Nat) : mS := mD' S 19 (filR (mD S 18) (mD S 19) c)
def tmS (S : mS) : mS := mD' S 18 (filR (tmG (mD S 14) (mD S 19) (mA S 11)) (mD S 18) 36)
def rsOk (S : mS) : Prop := ∀ c, c < 36 → vf_n64 (amtF (mD S 17 c))
abbrev dotZR (S : mS) : UInt64 := prd (mD S 18) (mD S 17) 6
abbrev dotZS (S : mS) : UInt64 := prd (mD S 18) (mD S 19) 6
/-- p and r moved along s -/
def svA (S : mS) (now : UInt64) : mS := avS (tmS S) (FP.ddiv now (dotZS (tmS S))) 36
def svZ (S : mS) (now : UInt64) : mS := mzS (svA S now)
def svT (S : mS) (now : UInt64) : mS := tuS (svZ S now) (FP.ddiv (dotZR (svZ S now)) now) 36
/-- the rounds of SOLVING: n are left, the next is the rd-th -/
def svL : Nat → Nat → mS → UInt64 → Int32 × mS
  | 0, _, S, _ => (-1, S)
  | n + 1, rd, S, now => if 0 < cvd now FP.dconst0 .l then
      (if 0 < cvd (dotZS (tmS S)) (FP.dmul now 4562146422526312448) .l then
        (if 0 < cvd (rsF (mD (svA S now) 17) 36) (mD S 6 0) .g then
          svL n (rd + 1) (svT S now) (dotZR (svZ S now))
        else (nI rd, svA S now))
      else (-1, tmS S))
    else (-1, S)
def svOk : Nat → mS → UInt64 → Prop
  | 0, _, _ => True
  | n + 1, S, now => 0 < cvd now FP.dconst0 .l → tmOk (mD S 14) (mD S 19) (mA S 11) ∧ prOk (mD (tmS S) 18) (mD (tmS S) 19) ∧ vf_n64 (FP.dmul now 4562146422526312448) ∧
      (0 < cvd (dotZS (tmS S)) (FP.dmul now 4562146422526312448) .l → vf_n64 (FP.ddiv now (dotZS (tmS S))) ∧ avOk (tmS S) (FP.ddiv now (dotZS (tmS S))) ∧ rsOk (svA S now) ∧
        (0 < cvd (rsF (mD (svA S now) 17) 36) (mD S 6 0) .g →
          mzOk (svA S now) ∧ prOk (mD (svZ S now) 18) (mD (svZ S now) 17) ∧ vf_n64 (FP.ddiv (dotZR (svZ S now)) now) ∧
          tuOk (svZ S now) (FP.ddiv (dotZR (svZ S now)) now) ∧
          svOk n (svT S now) (dotZR (svZ S now))))
def svF (S : mS) (R : Nat) : Int32 × mS := if 0 < cvd (rsF (mD S 17) 36) (mD S 6 0) .g then svL R 1 (cpS (mzS S) 36) (dotZR (cpS (mzS S) 36)) else (nI 0, S)
def sfOk (S : mS) (R : Nat) : Prop := rsOk S ∧ (0 < cvd (rsF (mD S 17) 36) (mD S 6 0) .g → mzOk S ∧ prOk (mD (cpS (mzS S) 36) 18) (mD (cpS (mzS S) 36) 17) ∧ svOk R (cpS (mzS S) 36) (dotZR (cpS (mzS S) 36)))
section M10
variable {l : Launch} {D : va_G} {ad : Nat → Nat} {cy : Nat → ClassId}
set_option maxRecDepth 100000 in
set_option maxHeartbeats 4000000 in
theorem sv_turn (S : mS) (R : Nat) (WC : xC → xO → List Value → xA → Prop) (hW : xSys xL_X5_solve (xlk xfl5) (xlk xcl5) (xCt [(276, s_rests), (284, s_makeZ), (290, s_product), (298, s_times)]) (xRt (some .int) (fun vs aw' => vs = [.int (svF S R).1] ∧ aw' = mW (svF S R).2)) WC) (n : Nat) (ih : ∀ (rd : Nat) (T : mS) (now : UInt64), mA T 7 0 = nI R → rd + n = R + 1 → svOk n T now → svF S R = svL n rd T now → WC (xL_X5_solve.drop 33) [some (.ref 0), some (.double now), none, some (.int (nI rd)), none, none, none, none, none, none, none] [] (mW T)) (rd : Nat) (V : mS) (now : UInt64) (h7 : mA V 7 0 = nI R) (hrd : rd + (n + 1) = R + 1) (g4 : tuOk V (FP.ddiv (dotZR V) now)) (g5 : svOk n (tuS V (FP.ddiv (dotZR V) now) 36) (dotZR V)) (he : svF S R = svL n (rd + 1) (tuS V (FP.ddiv (dotZR V) now) 36) (dotZR V)) : ∀ (n' c : Nat), c + n' = 36 → WC (xL_X5_solve.drop 122) [some (.ref 0), some (.double now), none, some (.int (nI rd)), none, none, some (.double (FP.ddiv (dotZR V) now)), none, some (.double (dotZR V)), none, some (.int (nI c))] [] (mW (tuS V (FP.ddiv (dotZR V) now) c)) := by
  intro n'
  induction n' with
  | zero =>
    intro c hc
    have : c = 36 := by omega
    subst this
    refine hW.1 (fun pc => Nat.beq pc 54 || Nat.beq pc 204) 300 122 _ _ _ ?_
    refine And.intro (fun h2 => ?_) (fun h2 => absurd (Int32.le_refl _) h2)
    have ih' := ih (rd + 1) (tuS V (FP.ddiv (dotZR V) now) 36) (dotZR V) h7 (by omega) g5 he
    have e1 : nI rd + nI 1 = nI (rd + 1) := nI_add rd 1
    rw [← e1] at ih'
    refine hW.2 33 _ _ _ _ ?_ ?_ ih'
    · exact And.intro rfl (And.intro rfl (And.intro rfl (trivial)))
    · rfl
  | succ n' ihn =>
    intro c hc
    have ihn' := ihn (c + 1) (by omega)
    have e1 : nI c + nI 1 = nI (c + 1) := nI_add c 1
    unfold tuS at ihn'
    rw [← e1, filR_s] at ihn'
    obtain ⟨q1, q2⟩ := g4 c (by omega)
    refine hW.1 (fun pc => Nat.beq pc 204) 300 122 _ _ _ ?_
    refine And.intro (fun h2 => absurd h2 (nI_ge (b := 36) (by omega) (by decide))) (fun h2 => ?_)
    have es : filR (tuG V (FP.ddiv (dotZR V) now)) (mD V 19) c c = mD V 19 c := by unfold filR; rw [if_neg (by omega)]
    have es2 : mD (tuS V (FP.ddiv (dotZR V) now) c) 19 c = mD V 19 c := es
    refine ⟨c, rfl, by omega, by decide, ?_⟩
    refine ⟨c, rfl, by omega, by decide, ?_⟩
    rw [es2]
    refine And.intro q1 (And.intro q2 ?_)
    refine ⟨c, rfl, by omega, by decide, ?_⟩
    exact ihn'
set_option maxRecDepth 100000 in
set_option maxHeartbeats 4000000 in
theorem sv_L1 (S : mS) (R : Nat) (WC : xC → xO → List Value → xA → Prop) (hW : xSys xL_X5_solve (xlk xfl5) (xlk xcl5) (xCt [(276, s_rests), (284, s_makeZ), (290, s_product), (298, s_times)]) (xRt (some .int) (fun vs aw' => vs = [.int (svF S R).1] ∧ aw' = mW (svF S R).2)) WC) (rd : Nat) (T : mS) (now : UInt64) : ∀ (k d : UInt64), k = FP.ddiv now (dotZS (tmS T)) → avOk (tmS T) k → WC (xL_X5_solve.drop 100) [some (.ref 0), some (.double now), none, some (.int (nI rd)), none, none, none, none, none, none, none] [] (mW (avS (tmS T) k 36)) → ∀ (n' c : Nat), c + n' = 36 → WC (xL_X5_solve.drop 65) [some (.ref 0), some (.double now), none, some (.int (nI rd)), some (.double d), none, some (.double k), none, some (.int (nI c)), none, none] [] (mW (avS (tmS T) k c)) := by
  intro k d hk hav hnext n'
  generalize tmS T = V at hav hnext ⊢
  induction n' with
  | zero =>
    intro c hc
    have : c = 36 := by omega
    subst this
    refine hW.1 (fun pc => Nat.beq pc 105 || Nat.beq pc 168) 300 65 _ _ _ ?_
    refine And.intro (fun h2 => ?_) (fun h2 => absurd (Int32.le_refl _) h2)
    refine hW.2 100 _ _ _ _ ?_ ?_ hnext
    · exact And.intro rfl (And.intro rfl (And.intro rfl (trivial)))
    · rfl
  | succ n' ihn =>
    intro c hc
    have ihn' := ihn (c + 1) (by omega)
    have e1 : nI c + nI 1 = nI (c + 1) := nI_add c 1
    unfold avS at ihn'
    rw [← e1, filR_s, filR_s] at ihn'
    obtain ⟨q1, q2, q3, q4⟩ := hav c (by omega)
    refine hW.1 (fun pc => Nat.beq pc 105) 300 65 _ _ _ ?_
    refine And.intro (fun h2 => absurd h2 (nI_ge (b := 36) (by omega) (by decide))) (fun h2 => ?_)
    have es : mD (avS V k c) 16 c = mD V 16 c := by show filR _ _ _ _ = _; unfold filR; rw [if_neg (by omega)]
    have es2 : mD (avS V k c) 17 c = mD V 17 c := by show filR _ _ _ _ = _; unfold filR; rw [if_neg (by omega)]
    refine ⟨c, rfl, by omega, by decide, ?_⟩
    refine ⟨c, rfl, by omega, by decide, ?_⟩
    rw [es]
    refine And.intro q1 (And.intro q2 ?_)
    refine ⟨c, rfl, by omega, by decide, ?_⟩
    refine ⟨c, rfl, by omega, by decide, ?_⟩
    refine ⟨c, rfl, by omega, by decide, ?_⟩
    refine And.intro q3 ?_
    have q4' : vf_n64 (FP.dsub (mD (avS V k c) 17 c) (FP.dmul k (mD V 18 c))) := by rw [es2]; exact q4
    refine And.intro q4' ?_
    refine ⟨c, rfl, by omega, by decide, ?_⟩
    have e5 : avR V k c = FP.dsub (mD (avS V k c) 17 c) (FP.dmul k (mD V 18 c)) := by rw [es2]; rfl
    rw [e5] at ihn'
    exact ihn'
set_option maxRecDepth 100000 in
set_option maxHeartbeats 4000000 in
theorem sv_L2 (S : mS) (R : Nat) (h40 : R ≤ 40) (WC : xC → xO → List Value → xA → Prop) (hW : xSys xL_X5_solve (xlk xfl5) (xlk xcl5) (xCt [(276, s_rests), (284, s_makeZ), (290, s_product), (298, s_times)]) (xRt (some .int) (fun vs aw' => vs = [.int (svF S R).1] ∧ aw' = mW (svF S R).2)) WC) (n : Nat) (ih : ∀ (rd : Nat) (T : mS) (now : UInt64), mA T 7 0 = nI R → rd + n = R + 1 → svOk n T now → svF S R = svL n rd T now → WC (xL_X5_solve.drop 33) [some (.ref 0), some (.double now), none, some (.int (nI rd)), none, none, none, none, none, none, none] [] (mW T)) (rd : Nat) (T : mS) (now : UInt64) (hTR : mA T 7 0 = nI R) (hrd : rd + (n + 1) = R + 1) (he : svF S R = svL (n + 1) rd T now) : ∀ (hgo : 0 < cvd now FP.dconst0 .l) (hgo2 : 0 < cvd (dotZS (tmS T)) (FP.dmul now 4562146422526312448) .l) (hrs2 : rsOk (svA T now))
    (hnx : 0 < cvd (rsF (mD (svA T now) 17) 36) (mD T 6 0) .g → mzOk (svA T now) ∧ prOk (mD (svZ T now) 18) (mD (svZ T now) 17) ∧ vf_n64 (FP.ddiv (dotZR (svZ T now)) now) ∧
      tuOk (svZ T now) (FP.ddiv (dotZR (svZ T now)) now) ∧ svOk n (svT T now) (dotZR (svZ T now))),
    WC (xL_X5_solve.drop 100) [some (.ref 0), some (.double now), none, some (.int (nI rd)), none, none, none, none, none, none, none] [] (mW (svA T now)) := by
  intro hgo hgo2 hrs2 hnx
  have hsv : svL (n + 1) rd T now = if 0 < cvd (rsF (mD (svA T now) 17) 36) (mD T 6 0) .g then svL n (rd + 1) (svT T now) (dotZR (svZ T now)) else (nI rd, svA T now) := by
    show ite _ _ _ = _
    rw [if_pos hgo, if_pos hgo2]
  have h7 : mA (svA T now) 7 0 = nI R := hTR
  have h6 : mD T 6 0 = mD (svA T now) 6 0 := rfl
  rw [hsv] at he
  rw [h6] at he hnx
  unfold svT svZ at he hnx
  generalize svA T now = U at he hrs2 hnx h7 ⊢
  refine hW.1 (fun pc => Nat.beq pc 184) 300 100 _ _ _ ?_
  refine ⟨U, rfl, hrs2, ?_⟩
  refine ⟨0, rfl, by decide, by decide, ?_⟩
  refine And.intro (fun h1 => ?_) (fun h1 => ?_)
  rotate_left
  · rw [if_neg h1] at he
    rw [he]
    exact And.intro rfl rfl
  obtain ⟨g1, g2, g3, g4, g5⟩ := hnx h1
  rw [if_pos h1] at he
  have P110 : WC (xL_X5_solve.drop 110) [some (.ref 0), some (.double now), none, some (.int (nI rd)), none, none, none, none, none, none, none] [] (mW U) := by
    have h7 : mA (mzS U) 7 0 = nI R := h7
    have P112 : WC (xL_X5_solve.drop 112) [some (.ref 0), some (.double now), none, some (.int (nI rd)), none, none, none, none, none, none, none] [] (mW (mzS U)) := by
      generalize mzS U = V at he g2 g3 g4 g5 h7 ⊢
      have turn := sv_turn S R WC hW n ih rd V now h7 hrd g4 g5 he 36 0 (by omega)
      unfold tuS at turn
      rw [filR_0] at turn
      have P115 : WC (xL_X5_solve.drop 115) [some (.ref 0), some (.double now), none, some (.int (nI rd)), none, none, none, none, none, none, none] [.double (dotZR V)] (mW V) := by
        refine hW.1 (fun pc => Nat.beq pc 204) 300 115 _ _ _ ?_
        exact And.intro g3 turn
      refine hW.1 (fun pc => Nat.beq pc 193) 300 112 _ _ _ ?_
      exact ⟨V, true, rfl, rfl, g2, P115⟩
    refine hW.1 (fun pc => Nat.beq pc 188) 300 110 _ _ _ ?_
    exact ⟨U, rfl, g1, P112⟩
  exact P110
set_option maxRecDepth 100000 in
set_option maxHeartbeats 4000000 in
theorem m_solve (S : mS) (R : Nat) (hR : mA S 7 0 = nI R) (h40 : R ≤ 40) (hok : sfOk S R) : xMet l yX5_solve cX5_solve 11 (some .int) 3 D ad cy [.ref 0] (mW S) (fun vs aw' => vs = [.int (svF S R).1] ∧ aw' = mW (svF S R).2) := by
  refine xmet (Fd := xlk xfl5) (Cn := xlk xcl5) (Cl := xCt [(276, s_rests), (284, s_makeZ), (290, s_product), (298, s_times)]) (by decide) xk_X5_solve xt_X5_solve ⟨_, _, rfl, rfl⟩ xpl5 (xEnt_ok (List.forall_mem_cons.mpr ⟨e_rests (by omega), List.forall_mem_cons.mpr ⟨e_makeZ (by omega), List.forall_mem_cons.mpr ⟨e_product (by omega), List.forall_mem_cons.mpr ⟨e_times (by omega), fun q h => by cases h⟩⟩⟩⟩)) (Nat.le_of_ble_eq_true rfl) (fun WC hW => ?_)
  obtain ⟨hrs, hrest⟩ := hok
  have rounds : ∀ (n rd : Nat) (T : mS) (now : UInt64), mA T 7 0 = nI R → rd + n = R + 1 → svOk n T now → svF S R = svL n rd T now → WC (xL_X5_solve.drop 33) [some (.ref 0), some (.double now), none, some (.int (nI rd)), none, none, none, none, none, none, none] [] (mW T) := by
    intro n
    induction n with
    | zero =>
      intro rd T now hTR hrd _ he
      refine hW.1 (fun pc => Nat.beq pc 54) 300 33 _ _ _ ?_
      refine ⟨0, rfl, by decide, by decide, ?_⟩
      refine And.intro (fun h1 => ?_) (fun h1 => absurd (show mA T 7 0 < nI rd by rw [hTR]; exact nI_lt (by omega) (by omega)) h1)
      rw [he]
      exact And.intro rfl rfl
    | succ n ih =>
      intro rd T now hTR hrd hok he
      have hle : ¬ mA T 7 0 < nI rd := by rw [hTR]; exact nI_nlt (by omega) (by omega)
      have L2 := sv_L2 S R h40 WC hW n ih rd T now hTR hrd he
      have L1 := sv_L1 S R WC hW rd T now
      have P45 : 0 < cvd now FP.dconst0 .l → WC (xL_X5_solve.drop 45) [some (.ref 0), some (.double now), none, some (.int (nI rd)), none, none, none, none, none, none, none] [] (mW T) := by
        intro h2
        obtain ⟨g1, g2, g3, g4⟩ := hok h2
        have P47 : WC (xL_X5_solve.drop 47) [some (.ref 0), some (.double now), none, some (.int (nI rd)), none, none, none, none, none, none, none] [] (mW (tmS T)) := by
          have P50 : WC (xL_X5_solve.drop 50) [some (.ref 0), some (.double now), none, some (.int (nI rd)), none, none, none, none, none, none, none] [.double (dotZS (tmS T))] (mW (tmS T)) := by
            have P59 : 0 < cvd (dotZS (tmS T)) (FP.dmul now 4562146422526312448) .l → WC (xL_X5_solve.drop 59) [some (.ref 0), some (.double now), none, some (.int (nI rd)), some (.double (dotZS (tmS T))), none, none, none, none, none, none] [] (mW (tmS T)) := by
              intro h3
              obtain ⟨k1, k2, k3, k4⟩ := g4 h3
              have l2 := L2 h2 h3 k3 k4
              have l1 := L1 (FP.ddiv now (dotZS (tmS T))) (dotZS (tmS T)) rfl k2 l2 36 0 (by omega)
              have e0 : mW (avS (tmS T) (FP.ddiv now (dotZS (tmS T))) 0) = mW (tmS T) := by unfold avS; rw [filR_0, filR_0]; rfl
              rw [e0] at l1
              refine hW.1 (fun pc => Nat.beq pc 105) 300 59 _ _ _ ?_
              exact And.intro k1 l1
            have hno : ¬ 0 < cvd (dotZS (tmS T)) (FP.dmul now 4562146422526312448) .l → svF S R = (-1, tmS T) := by
              intro h3
              rw [he]
              show ite _ _ _ = _
              rw [if_pos h2, if_neg h3]
            refine hW.1 (fun pc => Nat.beq pc 96) 300 50 _ _ _ ?_
            refine And.intro g3 ?_
            refine And.intro (fun h3 => P59 h3) (fun h3 => ?_)
            rw [hno h3]
            exact And.intro rfl rfl
          refine hW.1 (fun pc => Nat.beq pc 81) 300 47 _ _ _ ?_
          exact ⟨tmS T, false, rfl, rfl, g2, P50⟩
        refine hW.1 (fun pc => Nat.beq pc 76) 300 45 _ _ _ ?_
        exact ⟨T, rfl, g1, P47⟩
      have hno : ¬ 0 < cvd now FP.dconst0 .l → svF S R = (-1, T) := by
        intro h2
        rw [he]
        show ite _ _ _ = _
        rw [if_neg h2]
      refine hW.1 (fun pc => Nat.beq pc 72) 300 33 _ _ _ ?_
      refine ⟨0, rfl, by decide, by decide, ?_⟩
      refine And.intro (fun h1 => absurd h1 hle) (fun h1 => ?_)
      refine And.intro (fun h2 => P45 h2) (fun h2 => ?_)
      rw [hno h2]
      exact And.intro rfl rfl
  have copy : ∀ (hz : mzOk S) (h1 : 0 < cvd (rsF (mD S 17) 36) (mD S 6 0) .g) (n c : Nat), c + n = 36 → WC (xL_X5_solve.drop 14) [some (.ref 0), some (.int (nI c)), none, none, none, none, none, none, none, none, none] [] (mW (cpS (mzS S) c)) := by
    intro hz h1 n
    obtain ⟨-, k2, k3⟩ := hrest h1
    induction n with
    | zero =>
      intro c hc
      have : c = 36 := by omega
      subst this
      have hR2 : mA (cpS (mzS S) 36) 7 0 = nI R := hR
      refine hW.1 (fun pc => Nat.beq pc 22 || Nat.beq pc 54) 300 14 _ _ _ ?_
      refine And.intro (fun h2 => ?_) (fun h2 => absurd (Int32.le_refl _) h2)
      refine ⟨cpS (mzS S) 36, true, rfl, rfl, k2, ?_⟩
      exact rounds R 1 (cpS (mzS S) 36) (dotZR (cpS (mzS S) 36)) hR2 (by omega) k3 (by unfold svF; rw [if_pos h1])
    | succ n ih =>
      intro c hc
      have ih' := ih (c + 1) (by omega)
      have e1 : nI c + nI 1 = nI (c + 1) := nI_add c 1
      unfold cpS at ih'
      rw [← e1, filR_s] at ih'
      refine hW.1 (fun pc => Nat.beq pc 22) 300 14 _ _ _ ?_
      refine And.intro (fun h2 => absurd h2 (nI_ge (b := 36) (by omega) (by decide))) (fun h2 => ?_)
      refine ⟨c, rfl, by omega, by decide, ?_⟩
      refine ⟨c, rfl, by omega, by decide, ?_⟩
      exact ih'
  refine hW.1 (fun pc => Nat.beq pc 22) 300 0 _ _ _ ?_
  refine ⟨S, rfl, hrs, ?_⟩
  refine ⟨0, rfl, by decide, by decide, ?_⟩
  refine And.intro (fun h1 => ?_) (fun h1 => ?_)
  · obtain ⟨k1, -, -⟩ := hrest h1
    refine ⟨S, rfl, k1, ?_⟩
    have h9 := copy k1 h1 36 0 (by omega)
    unfold cpS at h9
    rw [filR_0] at h9
    exact h9
  · have : svF S R = (nI 0, S) := by unfold svF; rw [if_neg h1]
    rw [this]
    exact And.intro rfl rfl
def s_solve (st : List Value) (aw : xA) (k : List Value → xA → Prop) : Prop := match st with
  | .ref 0 :: st => match xsm st with
    | true => ∃ (S : mS) (R : Nat), aw = mW S ∧ mA S 7 0 = nI R ∧ R ≤ 40 ∧ sfOk S R ∧ k (.int (svF S R).1 :: st) (mW (svF S R).2)
    | false => False
  | _ => False
theorem e_solve {d : Nat} (hd : 4 ≤ d) : xEnt l d D ad cy RX5 364 s_solve := xEnt_V (y' := yX5_solve) (cc' := cX5_solve) (n' := 11) (ret' := some .int) (d' := 3) (j := 182) 0 (by decide +kernel) (by decide +kernel) (by omega) (fun st aw k h => by
  match st, h with
  | .ref 0 :: st, h =>
    cases hs : xsm st with
    | false => simp only [s_solve, hs] at h
    | true =>
      simp only [s_solve, hs] at h
      obtain ⟨S, R, rfl, hR, h40, hok, h2⟩ := h
      exact ⟨[], st, _, 0, 5, _, rfl, rfl, hs, rfl, ⟨_, rfl, rfl⟩, m_solve S R hR h40 hok, fun vs aw' h9 => by obtain ⟨rfl, rfl⟩ := h9; exact h2⟩)
end M10
