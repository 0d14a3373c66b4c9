/-! the reference: solve -/
def avP (S : mS) (k : UInt64) (c : Nat) : UInt64 := FP.dadd (mD S 16 c) (FP.dmul k (mD S 19 c))
def avR (S : mS) (k : UInt64) (c : Nat) : UInt64 := FP.dsub (mD S 17 c) (FP.dmul k (mD S 18 c))
def avS (S : mS) (k : UInt64) (c : Nat) : mS := mD' (mD' S 16 (filR (avP S k) (mD S 16) c)) 17 (filR (avR S k) (mD S 17) c)
def avOk (S : mS) (k : UInt64) : Prop := ∀ c, c < 36 → vf_n64 (FP.dmul k (mD S 19 c)) ∧ vf_n64 (avP S k c) ∧ vf_n64 (FP.dmul k (mD S 18 c)) ∧ vf_n64 (avR S k c)
def tuG (S : mS) (k : UInt64) (c : Nat) : UInt64 := FP.dadd (mD S 18 c) (FP.dmul k (mD S 19 c))
def tuS (S : mS) (k : UInt64) (c : Nat) : mS := mD' S 19 (filR (tuG S k) (mD S 19) c)
def tuOk (S : mS) (k : UInt64) : Prop := ∀ c, c < 36 → vf_n64 (FP.dmul k (mD S 19 c)) ∧ vf_n64 (tuG S k c)
def cpS (S : mS) (c : Nat) : mS := mD' S 19 (filR (mD S 18) (mD S 19) c)
def tmS (S : mS) : mS := mD' S 18 (filR (tmG (mD S 14) (mD S 19) (mA S 11)) (mD S 18) 36)
def rsOk (S : mS) : Prop := ∀ c, c < 36 → vf_n64 (amtF (mD S 17 c))
abbrev dotZR (S : mS) : UInt64 := prd (mD S 18) (mD S 17) 6
abbrev dotZS (S : mS) : UInt64 := prd (mD S 18) (mD S 19) 6
/-- p and r moved along s -/
def svA (S : mS) (now : UInt64) : mS := avS (tmS S) (FP.ddiv now (dotZS (tmS S))) 36
def svZ (S : mS) (now : UInt64) : mS := mzS (svA S now)
def svT (S : mS) (now : UInt64) : mS := tuS (svZ S now) (FP.ddiv (dotZR (svZ S now)) now) 36
/-- the rounds of SOLVING: n are left, the next is the rd-th -/
def svL : Nat → Nat → mS → UInt64 → Int32 × mS
  | 0, _, S, _ => (-1, S)
  | n + 1, rd, S, now => if 0 < cvd now FP.dconst0 .l then
      (if 0 < cvd (dotZS (tmS S)) (FP.dmul now 4562146422526312448) .l then
        (if 0 < cvd (rsF (mD (svA S now) 17) 36) (mD S 6 0) .g then
          svL n (rd + 1) (svT S now) (dotZR (svZ S now))
        else (nI rd, svA S now))
      else (-1, tmS S))
    else (-1, S)
def svOk : Nat → mS → UInt64 → Prop
  | 0, _, _ => True
  | n + 1, S, now => 0 < cvd now FP.dconst0 .l → tmOk (mD S 14) (mD S 19) (mA S 11) ∧ prOk (mD (tmS S) 18) (mD (tmS S) 19) ∧ vf_n64 (FP.dmul now 4562146422526312448) ∧
      (0 < cvd (dotZS (tmS S)) (FP.dmul now 4562146422526312448) .l → vf_n64 (FP.ddiv now (dotZS (tmS S))) ∧ avOk (tmS S) (FP.ddiv now (dotZS (tmS S))) ∧ rsOk (svA S now) ∧
        (0 < cvd (rsF (mD (svA S now) 17) 36) (mD S 6 0) .g →
          mzOk (svA S now) ∧ prOk (mD (svZ S now) 18) (mD (svZ S now) 17) ∧ vf_n64 (FP.ddiv (dotZR (svZ S now)) now) ∧
          tuOk (svZ S now) (FP.ddiv (dotZR (svZ S now)) now) ∧
          svOk n (svT S now) (dotZR (svZ S now))))
def svF (S : mS) (R : Nat) : Int32 × mS := if 0 < cvd (rsF (mD S 17) 36) (mD S 6 0) .g then svL R 1 (cpS (mzS S) 36) (dotZR (cpS (mzS S) 36)) else (nI 0, S)
def sfOk (S : mS) (R : Nat) : Prop := rsOk S ∧ (0 < cvd (rsF (mD S 17) 36) (mD S 6 0) .g → mzOk S ∧ prOk (mD (cpS (mzS S) 36) 18) (mD (cpS (mzS S) 36) 17) ∧ svOk R (cpS (mzS S) 36) (dotZR (cpS (mzS S) 36)))
theorem avS_A (S : mS) (k : UInt64) (c j : Nat) : mA (avS S k c) j = mA S j := rfl
theorem avS_6 (S : mS) (k : UInt64) (c : Nat) : mD (avS S k c) 6 = mD S 6 := rfl
theorem avS_0 (S : mS) (k : UInt64) : mW (avS S k 0) = mW S := by unfold avS; rw [filR_0, filR_0]; rfl
theorem tmS_A (S : mS) (j : Nat) : mA (tmS S) j = mA S j := rfl
theorem tmS_6 (S : mS) : mD (tmS S) 6 = mD S 6 := rfl
theorem mzS_A (S : mS) (j : Nat) : mA (mzS S) j = mA S j := rfl
theorem cpS_A (S : mS) (c j : Nat) : mA (cpS S c) j = mA S j := rfl
theorem cpS_0 (S : mS) : mW (cpS S 0) = mW S := by unfold cpS; rw [filR_0]; rfl
theorem tuS_0 (S : mS) (k : UInt64) : mW (tuS S k 0) = mW S := by unfold tuS; rw [filR_0]; rfl
theorem tuS_A (S : mS) (k : UInt64) (c j : Nat) : mA (tuS S k c) j = mA S j := rfl
theorem svA_A (S : mS) (now : UInt64) (j : Nat) : mA (svA S now) j = mA S j := by unfold svA; rw [avS_A, tmS_A]
theorem svA_6 (S : mS) (now : UInt64) : mD (svA S now) 6 = mD S 6 := by unfold svA; rw [avS_6, tmS_6]
theorem svL_s (n rd : Nat) (S : mS) (now : UInt64) : svL (n + 1) rd S now = if 0 < cvd now FP.dconst0 .l then
      (if 0 < cvd (dotZS (tmS S)) (FP.dmul now 4562146422526312448) .l then
        (if 0 < cvd (rsF (mD (svA S now) 17) 36) (mD S 6 0) .g then
          svL n (rd + 1) (svT S now) (dotZR (svZ S now))
        else (nI rd, svA S now))
      else (-1, tmS S))
    else (-1, S) := by rw [svL]
section M10
variable {l : Launch} {D : va_G} {ad : Nat → Nat} {cy : Nat → ClassId}
set_option maxRecDepth 100000 in
set_option maxHeartbeats 4000000 in
theorem sv_turn (S : mS) (R : Nat) (WC : xC → xO → List Value → xA → Prop) (hW : xSys xL_X5_solve (xlk xfl5) (xlk xcl5) (xCt [(276, s_rests), (284, s_makeZ), (290, s_product), (298, s_times)]) (xRt (some .int) (fun vs aw' => vs = [.int (svF S R).1] ∧ aw' = mW (svF S R).2)) WC) (n : Nat) (ih : ∀ (rd : Nat) (T : mS) (now : UInt64), mA T 7 0 = nI R → rd + n = R + 1 → svOk n T now → svF S R = svL n rd T now → WC (xL_X5_solve.drop 33) [some (.ref 0), some (.double now), none, some (.int (nI rd)), none, none, none, none, none, none, none] [] (mW T)) (rd : Nat) (V : mS) (now : UInt64) (h7 : mA V 7 0 = nI R) (hrd : rd + (n + 1) = R + 1) (g4 : tuOk V (FP.ddiv (dotZR V) now)) (g5 : svOk n (tuS V (FP.ddiv (dotZR V) now) 36) (dotZR V)) (he : svF S R = svL n (rd + 1) (tuS V (FP.ddiv (dotZR V) now) 36) (dotZR V)) : ∀ (n' c : Nat), c + n' = 36 → WC (xL_X5_solve.drop 122) [some (.ref 0), some (.double now), none, some (.int (nI rd)), none, none, some (.double (FP.ddiv (dotZR V) now)), none, some (.double (dotZR V)), none, some (.int (nI c))] [] (mW (tuS V (FP.ddiv (dotZR V) now) c)) := by
  intro n'
  induction n' with
  | zero =>
    intro c hc
    have : c = 36 := by omega
    subst this
    refine hW.1 (fun pc => Nat.beq pc 54 || Nat.beq pc 204) 300 122 _ _ _ ?_
    refine And.intro (fun h2 => ?_) (fun h2 => absurd (Int32.le_refl _) h2)
    have ih' := ih (rd + 1) (tuS V (FP.ddiv (dotZR V) now) 36) (dotZR V) (by rw [tuS_A]; exact h7) (by omega) g5 he
    have e1 : nI rd + nI 1 = nI (rd + 1) := nI_add rd 1
    rw [← e1] at ih'
    refine hW.2 33 _ _ _ _ ?_ ?_ ih'
    · exact And.intro rfl (And.intro rfl (And.intro rfl (trivial)))
    · rfl
  | succ n' ihn =>
    intro c hc
    have ihn' := ihn (c + 1) (by omega)
    have e1 : nI c + nI 1 = nI (c + 1) := nI_add c 1
    unfold tuS at ihn'
    rw [← e1, filR_s] at ihn'
    obtain ⟨q1, q2⟩ := g4 c (by omega)
    refine hW.1 (fun pc => Nat.beq pc 204) 300 122 _ _ _ ?_
    refine And.intro (fun h2 => absurd h2 (nI_ge (b := 36) (by omega) (by decide))) (fun h2 => ?_)
    have es : filR (tuG V (FP.ddiv (dotZR V) now)) (mD V 19) c c = mD V 19 c := by unfold filR; rw [if_neg (by omega)]
    have es2 : mD (tuS V (FP.ddiv (dotZR V) now) c) 19 c = mD V 19 c := es
    refine ⟨c, rfl, by omega, by decide, ?_⟩
    refine ⟨c, rfl, by omega, by decide, ?_⟩
    rw [es2]
    refine And.intro q1 (And.intro q2 ?_)
    refine ⟨c, rfl, by omega, by decide, ?_⟩
    exact ihn'
set_option maxRecDepth 100000 in
set_option maxHeartbeats 4000000 in
theorem sv_L1 (S : mS) (R : Nat) (WC : xC → xO → List Value → xA → Prop) (hW : xSys xL_X5_solve (xlk xfl5) (xlk xcl5) (xCt [(276, s_rests), (284, s_makeZ), (290, s_product), (298, s_times)]) (xRt (some .int) (fun vs aw' => vs = [.int (svF S R).1] ∧ aw' = mW (svF S R).2)) WC) (rd : Nat) (T : mS) (now : UInt64) : ∀ (k d : UInt64), k = FP.ddiv now (dotZS (tmS T)) → avOk (tmS T) k → WC (xL_X5_solve.drop 100) [some (.ref 0), some (.double now), none, some (.int (nI rd)), none, none, none, none, none, none, none] [] (mW (avS (tmS T) k 36)) → ∀ (n' c : Nat), c + n' = 36 → WC (xL_X5_solve.drop 65) [some (.ref 0), some (.double now), none, some (.int (nI rd)), some (.double d), none, some (.double k), none, some (.int (nI c)), none, none] [] (mW (avS (tmS T) k c)) := by
  intro k d hk hav hnext n'
  generalize tmS T = V at hav hnext ⊢
  induction n' with
  | zero =>
    intro c hc
    have : c = 36 := by omega
    subst this
    refine hW.1 (fun pc => Nat.beq pc 105 || Nat.beq pc 168) 300 65 _ _ _ ?_
    refine And.intro (fun h2 => ?_) (fun h2 => absurd (Int32.le_refl _) h2)
    refine hW.2 100 _ _ _ _ ?_ ?_ hnext
    · exact And.intro rfl (And.intro rfl (And.intro rfl (trivial)))
    · rfl
  | succ n' ihn =>
    intro c hc
    have ihn' := ihn (c + 1) (by omega)
    have e1 : nI c + nI 1 = nI (c + 1) := nI_add c 1
    unfold avS at ihn'
    rw [← e1, filR_s, filR_s] at ihn'
    obtain ⟨q1, q2, q3, q4⟩ := hav c (by omega)
    refine hW.1 (fun pc => Nat.beq pc 105) 300 65 _ _ _ ?_
    refine And.intro (fun h2 => absurd h2 (nI_ge (b := 36) (by omega) (by decide))) (fun h2 => ?_)
    have es : mD (avS V k c) 16 c = mD V 16 c := by show filR _ _ _ _ = _; unfold filR; rw [if_neg (by omega)]
    have es2 : mD (avS V k c) 17 c = mD V 17 c := by show filR _ _ _ _ = _; unfold filR; rw [if_neg (by omega)]
    refine ⟨c, rfl, by omega, by decide, ?_⟩
    refine ⟨c, rfl, by omega, by decide, ?_⟩
    rw [es]
    refine And.intro q1 (And.intro q2 ?_)
    refine ⟨c, rfl, by omega, by decide, ?_⟩
    refine ⟨c, rfl, by omega, by decide, ?_⟩
    refine ⟨c, rfl, by omega, by decide, ?_⟩
    refine And.intro q3 ?_
    have q4' : vf_n64 (FP.dsub (mD (avS V k c) 17 c) (FP.dmul k (mD V 18 c))) := by rw [es2]; exact q4
    refine And.intro q4' ?_
    refine ⟨c, rfl, by omega, by decide, ?_⟩
    have e5 : avR V k c = FP.dsub (mD (avS V k c) 17 c) (FP.dmul k (mD V 18 c)) := by rw [es2]; rfl
    rw [e5] at ihn'
    exact ihn'
end M10
