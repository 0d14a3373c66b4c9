/-! the reference: solve, a round's pieces -/
section M11
variable {l : Launch} {D : va_G} {ad : Nat → Nat} {cy : Nat → ClassId}
set_option maxRecDepth 100000 in
set_option maxHeartbeats 4000000 in
theorem sv_c0 (S : mS) (R : Nat) (WC : xC → xO → List Value → xA → Prop) (hW : xSys xL_X5_solve (xlk xfl5) (xlk xcl5) (xCt [(276, s_rests), (284, s_makeZ), (290, s_product), (298, s_times)]) (xRt (some .int) (fun vs aw' => vs = [.int (svF S R).1] ∧ aw' = mW (svF S R).2)) WC) (rd : Nat) (V : mS) (now : UInt64) (g3 : vf_n64 (FP.ddiv (dotZR V) now)) (turn : WC (xL_X5_solve.drop 122) [some (.ref 0), some (.double now), none, some (.int (nI rd)), none, none, some (.double (FP.ddiv (dotZR V) now)), none, some (.double (dotZR V)), none, some (.int (nI 0))] [] (mW V)) : WC (xL_X5_solve.drop 115) [some (.ref 0), some (.double now), none, some (.int (nI rd)), none, none, none, none, none, none, none] [.double (dotZR V)] (mW V) := by
  generalize dotZR V = q at g3 turn ⊢
  refine hW.1 (fun pc => Nat.beq pc 204) 300 115 _ _ _ ?_
  exact And.intro g3 turn
set_option maxRecDepth 100000 in
set_option maxHeartbeats 4000000 in
theorem sv_c1 (S : mS) (R : Nat) (WC : xC → xO → List Value → xA → Prop) (hW : xSys xL_X5_solve (xlk xfl5) (xlk xcl5) (xCt [(276, s_rests), (284, s_makeZ), (290, s_product), (298, s_times)]) (xRt (some .int) (fun vs aw' => vs = [.int (svF S R).1] ∧ aw' = mW (svF S R).2)) WC) (rd : Nat) (V : mS) (now : UInt64) (g2 : prOk (mD V 18) (mD V 17)) (next : WC (xL_X5_solve.drop 115) [some (.ref 0), some (.double now), none, some (.int (nI rd)), none, none, none, none, none, none, none] [.double (dotZR V)] (mW V)) : WC (xL_X5_solve.drop 112) [some (.ref 0), some (.double now), none, some (.int (nI rd)), none, none, none, none, none, none, none] [] (mW V) := by
  refine hW.1 (fun pc => Nat.beq pc 193) 300 112 _ _ _ ?_
  exact ⟨V, true, rfl, rfl, g2, next⟩
set_option maxRecDepth 100000 in
set_option maxHeartbeats 4000000 in
theorem sv_c2 (S : mS) (R : Nat) (WC : xC → xO → List Value → xA → Prop) (hW : xSys xL_X5_solve (xlk xfl5) (xlk xcl5) (xCt [(276, s_rests), (284, s_makeZ), (290, s_product), (298, s_times)]) (xRt (some .int) (fun vs aw' => vs = [.int (svF S R).1] ∧ aw' = mW (svF S R).2)) WC) (rd : Nat) (U : mS) (now : UInt64) (g1 : mzOk U) (next : WC (xL_X5_solve.drop 112) [some (.ref 0), some (.double now), none, some (.int (nI rd)), none, none, none, none, none, none, none] [] (mW (mzS U))) : WC (xL_X5_solve.drop 110) [some (.ref 0), some (.double now), none, some (.int (nI rd)), none, none, none, none, none, none, none] [] (mW U) := by
  refine hW.1 (fun pc => Nat.beq pc 188) 300 110 _ _ _ ?_
  exact ⟨U, rfl, g1, next⟩
set_option maxRecDepth 100000 in
set_option maxHeartbeats 4000000 in
theorem sv_c3 (S : mS) (R : Nat) (WC : xC → xO → List Value → xA → Prop) (hW : xSys xL_X5_solve (xlk xfl5) (xlk xcl5) (xCt [(276, s_rests), (284, s_makeZ), (290, s_product), (298, s_times)]) (xRt (some .int) (fun vs aw' => vs = [.int (svF S R).1] ∧ aw' = mW (svF S R).2)) WC) (rd : Nat) (U : mS) (now : UInt64) (hrs2 : rsOk U) (ne : ¬ 0 < cvd (rsF (mD U 17) 36) (mD U 6 0) .g → svF S R = (nI rd, U)) (next : 0 < cvd (rsF (mD U 17) 36) (mD U 6 0) .g → WC (xL_X5_solve.drop 110) [some (.ref 0), some (.double now), none, some (.int (nI rd)), none, none, none, none, none, none, none] [] (mW U)) : WC (xL_X5_solve.drop 100) [some (.ref 0), some (.double now), none, some (.int (nI rd)), none, none, none, none, none, none, none] [] (mW U) := by
  refine hW.1 (fun pc => Nat.beq pc 184) 300 100 _ _ _ ?_
  refine ⟨U, rfl, hrs2, ?_⟩
  refine ⟨0, rfl, by decide, by decide, ?_⟩
  refine And.intro (fun h1 => next h1) (fun h1 => ?_)
  exact And.intro (by rw [ne h1]) (by rw [ne h1])
set_option maxRecDepth 100000 in
set_option maxHeartbeats 4000000 in
theorem sv_L2 (S : mS) (R : Nat) (h40 : R ≤ 40) (WC : xC → xO → List Value → xA → Prop) (hW : xSys xL_X5_solve (xlk xfl5) (xlk xcl5) (xCt [(276, s_rests), (284, s_makeZ), (290, s_product), (298, s_times)]) (xRt (some .int) (fun vs aw' => vs = [.int (svF S R).1] ∧ aw' = mW (svF S R).2)) WC) (n : Nat) (ih : ∀ (rd : Nat) (T : mS) (now : UInt64), mA T 7 0 = nI R → rd + n = R + 1 → svOk n T now → svF S R = svL n rd T now → WC (xL_X5_solve.drop 33) [some (.ref 0), some (.double now), none, some (.int (nI rd)), none, none, none, none, none, none, none] [] (mW T)) (rd : Nat) (T : mS) (now : UInt64) (hTR : mA T 7 0 = nI R) (hrd : rd + (n + 1) = R + 1) (he : svF S R = svL (n + 1) rd T now) : ∀ (hgo : 0 < cvd now FP.dconst0 .l) (hgo2 : 0 < cvd (dotZS (tmS T)) (FP.dmul now 4562146422526312448) .l) (hrs2 : rsOk (svA T now))
    (hnx : 0 < cvd (rsF (mD (svA T now) 17) 36) (mD T 6 0) .g → mzOk (svA T now) ∧ prOk (mD (svZ T now) 18) (mD (svZ T now) 17) ∧ vf_n64 (FP.ddiv (dotZR (svZ T now)) now) ∧
      tuOk (svZ T now) (FP.ddiv (dotZR (svZ T now)) now) ∧ svOk n (svT T now) (dotZR (svZ T now))),
    WC (xL_X5_solve.drop 100) [some (.ref 0), some (.double now), none, some (.int (nI rd)), none, none, none, none, none, none, none] [] (mW (svA T now)) := by
  intro hgo hgo2 hrs2 hnx
  have hsv : svL (n + 1) rd T now = if 0 < cvd (rsF (mD (svA T now) 17) 36) (mD T 6 0) .g then svL n (rd + 1) (svT T now) (dotZR (svZ T now)) else (nI rd, svA T now) := by
    rw [svL_s, if_pos hgo, if_pos hgo2]
  have h7 : mA (svA T now) 7 0 = nI R := by rw [svA_A]; exact hTR
  have h6 : mD T 6 0 = mD (svA T now) 6 0 := by rw [svA_6]
  rw [hsv] at he
  rw [h6] at he hnx
  unfold svT svZ at he hnx
  generalize svA T now = U at he hrs2 hnx h7 ⊢
  refine sv_c3 S R WC hW rd U now hrs2 (fun h1 => by rw [if_neg h1] at he; exact he) (fun h1 => ?_)
  obtain ⟨g1, g2, g3, g4, g5⟩ := hnx h1
  rw [if_pos h1] at he
  refine sv_c2 S R WC hW rd U now g1 ?_
  have h7 : mA (mzS U) 7 0 = nI R := by rw [mzS_A]; exact h7
  generalize mzS U = V at he g2 g3 g4 g5 h7 ⊢
  refine sv_c1 S R WC hW rd V now g2 ?_
  have turn := sv_turn S R WC hW n ih rd V now h7 hrd g4 g5 he 36 0 (by omega)
  rw [tuS_0] at turn
  exact sv_c0 S R WC hW rd V now g3 turn
end M11
