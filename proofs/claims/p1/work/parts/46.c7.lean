/-! the class: findPressure -/
def cpC (S : cS) : cS := cD' S 34 (va_cpy (cD S 33) (cD S 34) 0 0 36)
abbrev dC1 (S : cS) : UInt64 := prd (cD S 33) (cD S 31) 6
abbrev dC4 (S : cS) : UInt64 := prd (cD S 33) (cD S 34) 6
def fpA (S : cS) (c9 : UInt64) : cS := adS (mlS S 36) (FP.ddiv c9 (dC4 (mlS S 36))) 36
def fpZ (S : cS) (c9 : UInt64) : cS := mzC (fpA S c9)
def fpT (S : cS) (c9 : UInt64) : cS := trS (fpZ S c9) (FP.ddiv (dC1 (fpZ S c9)) c9) 36
/-- the rounds: n are left, the next is the rd-th -/
def fpL (lim : UInt64) : Nat → Nat → cS → UInt64 → Int32 × cS
  | 0, _, S, _ => (-1, S)
  | n + 1, rd, S, c9 => if 0 < cvd c9 FP.dconst0 .l then
      (if 0 < cvd (dC4 (mlS S 36)) (FP.dmul c9 4562146422526312448) .l then
        (if 0 < cvd (rsC (cD (fpA S c9) 31) 36) lim .g then fpL lim n (rd + 1) (fpT S c9) (dC1 (fpZ S c9)) else (nI rd, fpA S c9))
      else (-1, mlS S 36))
    else (-1, S)
def fpOk (lim : UInt64) : Nat → cS → UInt64 → Prop
  | 0, _, _ => True
  | n + 1, S, c9 => 0 < cvd c9 FP.dconst0 .l → mlOk S ∧ prOk (cD (mlS S 36) 33) (cD (mlS S 36) 34) ∧ vf_n64 (FP.dmul c9 4562146422526312448) ∧
      (0 < cvd (dC4 (mlS S 36)) (FP.dmul c9 4562146422526312448) .l → vf_n64 (FP.ddiv c9 (dC4 (mlS S 36))) ∧ adOk (mlS S 36) (FP.ddiv c9 (dC4 (mlS S 36))) ∧
        (0 < cvd (rsC (cD (fpA S c9) 31) 36) lim .g → mzcOk (fpA S c9) ∧ prOk (cD (fpZ S c9) 33) (cD (fpZ S c9) 31) ∧ vf_n64 (FP.ddiv (dC1 (fpZ S c9)) c9) ∧ trOk (fpZ S c9) (FP.ddiv (dC1 (fpZ S c9)) c9) ∧
          fpOk lim n (fpT S c9) (dC1 (fpZ S c9))))
def fpF (S : cS) (lim : UInt64) (R : Nat) : Int32 × cS := if 0 < cvd (rsC (cD S 31) 36) lim .g then fpL lim R 1 (cpC (mzC S)) (dC1 (cpC (mzC S))) else (nI 0, S)
def fpOkF (S : cS) (lim : UInt64) (R : Nat) : Prop := 0 < cvd (rsC (cD S 31) 36) lim .g → mzcOk S ∧ prOk (cD (cpC (mzC S)) 33) (cD (cpC (mzC S)) 31) ∧ fpOk lim R (cpC (mzC S)) (dC1 (cpC (mzC S)))
section C7
variable {l : Launch} {D : va_G} {ad : Nat → Nat} {cy : Nat → ClassId}
set_option maxRecDepth 100000 in
set_option maxHeartbeats 4000000 in
theorem fp_0 (Q : cS) (q : Int32) (WC : xC → xO → List Value → xA → Prop) (hW : xSys xL_X2_findPressure (xlk xfl2) (xlk xcl2) (xCt [(148, t_greatestLeft), (156, t_makeZ), (163, t_copyD), (175, t_product), (182, t_multiplyS), (192, t_advance), (200, t_turn)]) (xRt (some .int) (fun vs aw' => vs = [.int q] ∧ aw' = cW Q)) WC) (S : cS) (lim : UInt64) (R : Int32) (bad : ¬ 0 < cvd (rsC (cD S 31) 36) lim .g → (q, Q) = (nI 0, S)) (next : 0 < cvd (rsC (cD S 31) 36) lim .g → WC (xL_X2_findPressure.drop 7) [some (.ref 7), some (.double lim), none, some (.int R), none, none, none, none, none, none, none] [] (cW (S))) : WC (xL_X2_findPressure.drop 0) [some (.ref 7), some (.double lim), none, some (.int R), none, none, none, none, none, none, none] [] (cW (S)) := by
  refine hW.1 (fun pc => Nat.beq pc 11) 200 0 _ _ _ ?_
  refine ⟨S, rfl, ?_⟩
  generalize rsC (cD S 31) 36 = v at bad next ⊢
  refine And.intro (fun h1 => next h1) (fun h1 => ?_)
  exact And.intro (by rw [(Prod.mk.inj (bad h1)).1]) (by rw [(Prod.mk.inj (bad h1)).2])
set_option maxRecDepth 100000 in
set_option maxHeartbeats 4000000 in
theorem fp_1 (Q : cS) (q : Int32) (WC : xC → xO → List Value → xA → Prop) (hW : xSys xL_X2_findPressure (xlk xfl2) (xlk xcl2) (xCt [(148, t_greatestLeft), (156, t_makeZ), (163, t_copyD), (175, t_product), (182, t_multiplyS), (192, t_advance), (200, t_turn)]) (xRt (some .int) (fun vs aw' => vs = [.int q] ∧ aw' = cW Q)) WC) (S : cS) (lim : UInt64) (R : Int32) (ok : mzcOk S) (next : WC (xL_X2_findPressure.drop 9) [some (.ref 7), some (.double lim), none, some (.int R), none, none, none, none, none, none, none] [] (cW (mzC S))) : WC (xL_X2_findPressure.drop 7) [some (.ref 7), some (.double lim), none, some (.int R), none, none, none, none, none, none, none] [] (cW (S)) := by
  refine hW.1 (fun pc => Nat.beq pc 15) 200 7 _ _ _ ?_
  exact ⟨S, rfl, ok, next⟩
set_option maxRecDepth 100000 in
set_option maxHeartbeats 4000000 in
theorem fp_2 (Q : cS) (q : Int32) (WC : xC → xO → List Value → xA → Prop) (hW : xSys xL_X2_findPressure (xlk xfl2) (xlk xcl2) (xCt [(148, t_greatestLeft), (156, t_makeZ), (163, t_copyD), (175, t_product), (182, t_multiplyS), (192, t_advance), (200, t_turn)]) (xRt (some .int) (fun vs aw' => vs = [.int q] ∧ aw' = cW Q)) WC) (S : cS) (lim : UInt64) (R : Int32) (next : WC (xL_X2_findPressure.drop 17) [some (.ref 7), some (.double lim), none, some (.int R), none, none, none, none, none, none, none] [] (cW (cpC S))) : WC (xL_X2_findPressure.drop 9) [some (.ref 7), some (.double lim), none, some (.int R), none, none, none, none, none, none, none] [] (cW (S)) := by
  refine hW.1 (fun pc => Nat.beq pc 30) 200 9 _ _ _ ?_
  exact ⟨36, rfl, rfl, rfl, by decide, by decide, by decide, next⟩
set_option maxRecDepth 100000 in
set_option maxHeartbeats 4000000 in
theorem fp_3 (Q : cS) (q : Int32) (WC : xC → xO → List Value → xA → Prop) (hW : xSys xL_X2_findPressure (xlk xfl2) (xlk xcl2) (xCt [(148, t_greatestLeft), (156, t_makeZ), (163, t_copyD), (175, t_product), (182, t_multiplyS), (192, t_advance), (200, t_turn)]) (xRt (some .int) (fun vs aw' => vs = [.int q] ∧ aw' = cW Q)) WC) (S : cS) (lim : UInt64) (R : Int32) (ok : prOk (cD S 33) (cD S 31)) (next : WC (xL_X2_findPressure.drop 25) [some (.ref 7), some (.double lim), none, some (.int R), some (.double (dC1 S)), none, some (.int (nI 1)), none, none, none, none] [] (cW (S))) : WC (xL_X2_findPressure.drop 17) [some (.ref 7), some (.double lim), none, some (.int R), none, none, none, none, none, none, none] [] (cW (S)) := by
  refine hW.1 (fun pc => Nat.beq pc 46) 200 17 _ _ _ ?_
  exact ⟨S, true, rfl, rfl, ok, next⟩
set_option maxRecDepth 100000 in
set_option maxHeartbeats 4000000 in
theorem fp_h0 (Q : cS) (q : Int32) (WC : xC → xO → List Value → xA → Prop) (hW : xSys xL_X2_findPressure (xlk xfl2) (xlk xcl2) (xCt [(148, t_greatestLeft), (156, t_makeZ), (163, t_copyD), (175, t_product), (182, t_multiplyS), (192, t_advance), (200, t_turn)]) (xRt (some .int) (fun vs aw' => vs = [.int q] ∧ aw' = cW Q)) WC) (S : cS) (lim : UInt64) (R : Int32) (rd : Int32) (c9 : UInt64) (hlt : R < rd) (e : (q, Q) = (-1, S)) : WC (xL_X2_findPressure.drop 25) [some (.ref 7), some (.double lim), none, some (.int R), some (.double c9), none, some (.int rd), none, none, none, none] [] (cW (S)) := by
  refine hW.1 (fun pc => Nat.beq pc 46) 200 25 _ _ _ ?_
  refine And.intro (fun h1 => ?_) (fun h1 => absurd hlt h1)
  exact And.intro (by rw [(Prod.mk.inj e).1]) (by rw [(Prod.mk.inj e).2])
set_option maxRecDepth 100000 in
set_option maxHeartbeats 4000000 in
theorem fp_h1 (Q : cS) (q : Int32) (WC : xC → xO → List Value → xA → Prop) (hW : xSys xL_X2_findPressure (xlk xfl2) (xlk xcl2) (xCt [(148, t_greatestLeft), (156, t_makeZ), (163, t_copyD), (175, t_product), (182, t_multiplyS), (192, t_advance), (200, t_turn)]) (xRt (some .int) (fun vs aw' => vs = [.int q] ∧ aw' = cW Q)) WC) (S : cS) (lim : UInt64) (R : Int32) (rd : Int32) (c9 : UInt64) (hle : ¬ R < rd) (bad : ¬ 0 < cvd c9 FP.dconst0 .l → (q, Q) = (-1, S)) (next : 0 < cvd c9 FP.dconst0 .l → WC (xL_X2_findPressure.drop 34) [some (.ref 7), some (.double lim), none, some (.int R), some (.double c9), none, some (.int rd), none, none, none, none] [] (cW (S))) : WC (xL_X2_findPressure.drop 25) [some (.ref 7), some (.double lim), none, some (.int R), some (.double c9), none, some (.int rd), none, none, none, none] [] (cW (S)) := by
  refine hW.1 (fun pc => Nat.beq pc 46 || Nat.beq pc 61) 200 25 _ _ _ ?_
  refine And.intro (fun h1 => absurd h1 hle) (fun h1 => ?_)
  refine And.intro (fun h2 => next h2) (fun h2 => ?_)
  exact And.intro (by rw [(Prod.mk.inj (bad h2)).1]) (by rw [(Prod.mk.inj (bad h2)).2])
set_option maxRecDepth 100000 in
set_option maxHeartbeats 4000000 in
theorem fp_4 (Q : cS) (q : Int32) (WC : xC → xO → List Value → xA → Prop) (hW : xSys xL_X2_findPressure (xlk xfl2) (xlk xcl2) (xCt [(148, t_greatestLeft), (156, t_makeZ), (163, t_copyD), (175, t_product), (182, t_multiplyS), (192, t_advance), (200, t_turn)]) (xRt (some .int) (fun vs aw' => vs = [.int q] ∧ aw' = cW Q)) WC) (S : cS) (lim : UInt64) (R : Int32) (rd : Int32) (c9 : UInt64) (ok : mlOk S) (next : WC (xL_X2_findPressure.drop 36) [some (.ref 7), some (.double lim), none, some (.int R), some (.double c9), none, some (.int rd), none, none, none, none] [] (cW (mlS S 36))) : WC (xL_X2_findPressure.drop 34) [some (.ref 7), some (.double lim), none, some (.int R), some (.double c9), none, some (.int rd), none, none, none, none] [] (cW (S)) := by
  refine hW.1 (fun pc => Nat.beq pc 65) 200 34 _ _ _ ?_
  exact ⟨S, rfl, ok, next⟩
set_option maxRecDepth 100000 in
set_option maxHeartbeats 4000000 in
theorem fp_5 (Q : cS) (q : Int32) (WC : xC → xO → List Value → xA → Prop) (hW : xSys xL_X2_findPressure (xlk xfl2) (xlk xcl2) (xCt [(148, t_greatestLeft), (156, t_makeZ), (163, t_copyD), (175, t_product), (182, t_multiplyS), (192, t_advance), (200, t_turn)]) (xRt (some .int) (fun vs aw' => vs = [.int q] ∧ aw' = cW Q)) WC) (S : cS) (lim : UInt64) (R : Int32) (rd : Int32) (c9 : UInt64) (ok : prOk (cD S 33) (cD S 34)) (next : WC (xL_X2_findPressure.drop 42) [some (.ref 7), some (.double lim), none, some (.int R), some (.double c9), none, some (.int rd), some (.double (dC4 S)), none, none, none] [] (cW (S))) : WC (xL_X2_findPressure.drop 36) [some (.ref 7), some (.double lim), none, some (.int R), some (.double c9), none, some (.int rd), none, none, none, none] [] (cW (S)) := by
  refine hW.1 (fun pc => Nat.beq pc 78) 200 36 _ _ _ ?_
  exact ⟨S, false, rfl, rfl, ok, next⟩
set_option maxRecDepth 100000 in
set_option maxHeartbeats 4000000 in
theorem fp_6 (Q : cS) (q : Int32) (WC : xC → xO → List Value → xA → Prop) (hW : xSys xL_X2_findPressure (xlk xfl2) (xlk xcl2) (xCt [(148, t_greatestLeft), (156, t_makeZ), (163, t_copyD), (175, t_product), (182, t_multiplyS), (192, t_advance), (200, t_turn)]) (xRt (some .int) (fun vs aw' => vs = [.int q] ∧ aw' = cW Q)) WC) (S : cS) (lim : UInt64) (R : Int32) (rd : Int32) (c9 d9 : UInt64) (ok : vf_n64 (FP.dmul c9 4562146422526312448)) (bad : ¬ 0 < cvd d9 (FP.dmul c9 4562146422526312448) .l → (q, Q) = (-1, S)) (next : 0 < cvd d9 (FP.dmul c9 4562146422526312448) .l → WC (xL_X2_findPressure.drop 50) [some (.ref 7), some (.double lim), none, some (.int R), some (.double c9), none, some (.int rd), some (.double d9), none, none, none] [] (cW (S))) : WC (xL_X2_findPressure.drop 42) [some (.ref 7), some (.double lim), none, some (.int R), some (.double c9), none, some (.int rd), some (.double d9), none, none, none] [] (cW (S)) := by
  refine hW.1 (fun pc => Nat.beq pc 92) 200 42 _ _ _ ?_
  refine And.intro ok ?_
  refine And.intro (fun h2 => next h2) (fun h2 => ?_)
  exact And.intro (by rw [(Prod.mk.inj (bad h2)).1]) (by rw [(Prod.mk.inj (bad h2)).2])
set_option maxRecDepth 100000 in
set_option maxHeartbeats 4000000 in
theorem fp_7 (Q : cS) (q : Int32) (WC : xC → xO → List Value → xA → Prop) (hW : xSys xL_X2_findPressure (xlk xfl2) (xlk xcl2) (xCt [(148, t_greatestLeft), (156, t_makeZ), (163, t_copyD), (175, t_product), (182, t_multiplyS), (192, t_advance), (200, t_turn)]) (xRt (some .int) (fun vs aw' => vs = [.int q] ∧ aw' = cW Q)) WC) (S : cS) (lim : UInt64) (R : Int32) (rd : Int32) (c9 d9 : UInt64) (v : vf_n64 (FP.ddiv c9 d9)) (ok : adOk S (FP.ddiv c9 d9)) (next : WC (xL_X2_findPressure.drop 55) [some (.ref 7), some (.double lim), none, some (.int R), some (.double c9), none, some (.int rd), none, none, none, none] [] (cW (adS S (FP.ddiv c9 d9) 36))) : WC (xL_X2_findPressure.drop 50) [some (.ref 7), some (.double lim), none, some (.int R), some (.double c9), none, some (.int rd), some (.double d9), none, none, none] [] (cW (S)) := by
  refine hW.1 (fun pc => Nat.beq pc 101) 200 50 _ _ _ ?_
  refine And.intro v ?_
  refine ⟨S, rfl, ok, ?_⟩
  refine hW.2 55 _ _ _ _ ?_ ?_ next
  · exact And.intro rfl (And.intro rfl (And.intro rfl (And.intro rfl (And.intro rfl (trivial)))))
  · rfl
set_option maxRecDepth 100000 in
set_option maxHeartbeats 4000000 in
theorem fp_8 (Q : cS) (q : Int32) (WC : xC → xO → List Value → xA → Prop) (hW : xSys xL_X2_findPressure (xlk xfl2) (xlk xcl2) (xCt [(148, t_greatestLeft), (156, t_makeZ), (163, t_copyD), (175, t_product), (182, t_multiplyS), (192, t_advance), (200, t_turn)]) (xRt (some .int) (fun vs aw' => vs = [.int q] ∧ aw' = cW Q)) WC) (S : cS) (lim : UInt64) (R : Int32) (rd : Int32) (c9 : UInt64) (bad : ¬ 0 < cvd (rsC (cD S 31) 36) lim .g → (q, Q) = (rd, S)) (next : 0 < cvd (rsC (cD S 31) 36) lim .g → WC (xL_X2_findPressure.drop 62) [some (.ref 7), some (.double lim), none, some (.int R), some (.double c9), none, some (.int rd), none, none, none, none] [] (cW (S))) : WC (xL_X2_findPressure.drop 55) [some (.ref 7), some (.double lim), none, some (.int R), some (.double c9), none, some (.int rd), none, none, none, none] [] (cW (S)) := by
  refine hW.1 (fun pc => Nat.beq pc 113) 200 55 _ _ _ ?_
  refine ⟨S, rfl, ?_⟩
  generalize rsC (cD S 31) 36 = v at bad next ⊢
  refine And.intro (fun h1 => next h1) (fun h1 => ?_)
  exact And.intro (by rw [(Prod.mk.inj (bad h1)).1]) (by rw [(Prod.mk.inj (bad h1)).2])
set_option maxRecDepth 100000 in
set_option maxHeartbeats 4000000 in
theorem fp_9 (Q : cS) (q : Int32) (WC : xC → xO → List Value → xA → Prop) (hW : xSys xL_X2_findPressure (xlk xfl2) (xlk xcl2) (xCt [(148, t_greatestLeft), (156, t_makeZ), (163, t_copyD), (175, t_product), (182, t_multiplyS), (192, t_advance), (200, t_turn)]) (xRt (some .int) (fun vs aw' => vs = [.int q] ∧ aw' = cW Q)) WC) (S : cS) (lim : UInt64) (R : Int32) (rd : Int32) (c9 : UInt64) (ok : mzcOk S) (next : WC (xL_X2_findPressure.drop 64) [some (.ref 7), some (.double lim), none, some (.int R), some (.double c9), none, some (.int rd), none, none, none, none] [] (cW (mzC S))) : WC (xL_X2_findPressure.drop 62) [some (.ref 7), some (.double lim), none, some (.int R), some (.double c9), none, some (.int rd), none, none, none, none] [] (cW (S)) := by
  refine hW.1 (fun pc => Nat.beq pc 117) 200 62 _ _ _ ?_
  exact ⟨S, rfl, ok, next⟩
set_option maxRecDepth 100000 in
set_option maxHeartbeats 4000000 in
theorem fp_a (Q : cS) (q : Int32) (WC : xC → xO → List Value → xA → Prop) (hW : xSys xL_X2_findPressure (xlk xfl2) (xlk xcl2) (xCt [(148, t_greatestLeft), (156, t_makeZ), (163, t_copyD), (175, t_product), (182, t_multiplyS), (192, t_advance), (200, t_turn)]) (xRt (some .int) (fun vs aw' => vs = [.int q] ∧ aw' = cW Q)) WC) (S : cS) (lim : UInt64) (R : Int32) (rd : Int32) (c9 : UInt64) (ok : prOk (cD S 33) (cD S 31)) (next : WC (xL_X2_findPressure.drop 70) [some (.ref 7), some (.double lim), none, some (.int R), some (.double c9), none, some (.int rd), none, none, some (.double (dC1 S)), none] [] (cW (S))) : WC (xL_X2_findPressure.drop 64) [some (.ref 7), some (.double lim), none, some (.int R), some (.double c9), none, some (.int rd), none, none, none, none] [] (cW (S)) := by
  refine hW.1 (fun pc => Nat.beq pc 130) 200 64 _ _ _ ?_
  exact ⟨S, true, rfl, rfl, ok, next⟩
set_option maxRecDepth 100000 in
set_option maxHeartbeats 4000000 in
theorem fp_b (Q : cS) (q : Int32) (WC : xC → xO → List Value → xA → Prop) (hW : xSys xL_X2_findPressure (xlk xfl2) (xlk xcl2) (xCt [(148, t_greatestLeft), (156, t_makeZ), (163, t_copyD), (175, t_product), (182, t_multiplyS), (192, t_advance), (200, t_turn)]) (xRt (some .int) (fun vs aw' => vs = [.int q] ∧ aw' = cW Q)) WC) (S : cS) (lim : UInt64) (R : Int32) (rd : Int32) (c9 d9 : UInt64) (v : vf_n64 (FP.ddiv d9 c9)) (ok : trOk S (FP.ddiv d9 c9)) (next : WC (xL_X2_findPressure.drop 25) [some (.ref 7), some (.double lim), none, some (.int R), some (.double d9), none, some (.int (rd + nI 1)), none, none, none, none] [] (cW (trS S (FP.ddiv d9 c9) 36))) : WC (xL_X2_findPressure.drop 70) [some (.ref 7), some (.double lim), none, some (.int R), some (.double c9), none, some (.int rd), none, none, some (.double d9), none] [] (cW (S)) := by
  refine hW.1 (fun pc => Nat.beq pc 46) 200 70 _ _ _ ?_
  refine And.intro v ?_
  refine ⟨S, rfl, ok, ?_⟩
  refine hW.2 25 _ _ _ _ ?_ ?_ next
  · exact And.intro rfl (And.intro rfl (And.intro rfl (And.intro rfl (And.intro rfl (trivial)))))
  · rfl
theorem fpL_s (lim : UInt64) (n rd : Nat) (S : cS) (c9 : UInt64) : fpL lim (n + 1) rd S c9 = if 0 < cvd c9 FP.dconst0 .l then
      (if 0 < cvd (dC4 (mlS S 36)) (FP.dmul c9 4562146422526312448) .l then
        (if 0 < cvd (rsC (cD (fpA S c9) 31) 36) lim .g then fpL lim n (rd + 1) (fpT S c9) (dC1 (fpZ S c9)) else (nI rd, fpA S c9))
      else (-1, mlS S 36))
    else (-1, S) := by rw [fpL]
theorem fpOk_s (lim : UInt64) (n : Nat) (S : cS) (c9 : UInt64) (h : fpOk lim (n + 1) S c9) (h0 : 0 < cvd c9 FP.dconst0 .l) : mlOk S ∧ prOk (cD (mlS S 36) 33) (cD (mlS S 36) 34) ∧ vf_n64 (FP.dmul c9 4562146422526312448) ∧
      (0 < cvd (dC4 (mlS S 36)) (FP.dmul c9 4562146422526312448) .l → vf_n64 (FP.ddiv c9 (dC4 (mlS S 36))) ∧ adOk (mlS S 36) (FP.ddiv c9 (dC4 (mlS S 36))) ∧
        (0 < cvd (rsC (cD (fpA S c9) 31) 36) lim .g → mzcOk (fpA S c9) ∧ prOk (cD (fpZ S c9) 33) (cD (fpZ S c9) 31) ∧ vf_n64 (FP.ddiv (dC1 (fpZ S c9)) c9) ∧ trOk (fpZ S c9) (FP.ddiv (dC1 (fpZ S c9)) c9) ∧
          fpOk lim n (fpT S c9) (dC1 (fpZ S c9)))) := by
  rw [fpOk] at h
  exact h h0
theorem fp_rounds (Q : cS) (q : Int32) (WC : xC → xO → List Value → xA → Prop) (hW : xSys xL_X2_findPressure (xlk xfl2) (xlk xcl2) (xCt [(148, t_greatestLeft), (156, t_makeZ), (163, t_copyD), (175, t_product), (182, t_multiplyS), (192, t_advance), (200, t_turn)]) (xRt (some .int) (fun vs aw' => vs = [.int q] ∧ aw' = cW Q)) WC) (lim : UInt64) (R : Nat) (h40 : R ≤ 40) : ∀ (n rd : Nat) (S : cS) (c9 : UInt64), rd + n = R + 1 → fpOk lim n S c9 → (q, Q) = fpL lim n rd S c9 → WC (xL_X2_findPressure.drop 25) [some (.ref 7), some (.double lim), none, some (.int (nI R)), some (.double c9), none, some (.int (nI rd)), none, none, none, none] [] (cW (S)) := by
  intro n
  induction n with
  | zero =>
    intro rd S c9 hrd _ he
    rw [fpL] at he
    exact fp_h0 Q q WC hW S lim _ _ c9 (nI_lt (by omega) (by omega)) he
  | succ n ih =>
    intro rd S c9 hrd hok he
    refine fp_h1 Q q WC hW S lim _ _ c9 (nI_nlt (by omega) (by omega)) (fun h2 => by rw [he, fpL_s, if_neg h2]) (fun h2 => ?_)
    obtain ⟨g1, g2, g3, g4⟩ := fpOk_s lim n S c9 hok h2
    rw [fpL_s, if_pos h2] at he
    refine fp_4 Q q WC hW S lim _ _ c9 g1 ?_
    refine fp_5 Q q WC hW (mlS S 36) lim _ _ c9 g2 ?_
    refine fp_6 Q q WC hW (mlS S 36) lim _ _ c9 _ g3 (fun h3 => by rw [he, if_neg h3]) (fun h3 => ?_)
    obtain ⟨k1, k2, k3⟩ := g4 h3
    rw [if_pos h3] at he
    refine fp_7 Q q WC hW (mlS S 36) lim _ _ c9 _ k1 k2 ?_
    refine fp_8 Q q WC hW (fpA S c9) lim _ _ c9 (fun h4 => by rw [he, if_neg h4]) (fun h4 => ?_)
    obtain ⟨m1, m2, m3, m4, m5⟩ := k3 h4
    rw [if_pos h4] at he
    refine fp_9 Q q WC hW (fpA S c9) lim _ _ c9 m1 ?_
    refine fp_a Q q WC hW (fpZ S c9) lim _ _ c9 m2 ?_
    refine fp_b Q q WC hW (fpZ S c9) lim _ _ c9 _ m3 m4 ?_
    have h9 := ih (rd + 1) (fpT S c9) (dC1 (fpZ S c9)) (by omega) m5 he
    have e1 : nI rd + nI 1 = nI (rd + 1) := nI_add rd 1
    rw [← e1] at h9
    exact h9
theorem n_findPressure (S : cS) (lim : UInt64) (R : Nat) (h40 : R ≤ 40) (hok : fpOkF S lim R) : xMet l yX2_findPressure cX2_findPressure 11 (some .int) 4 D ad cy [.ref 7, .double lim, .int (nI R)] (cW S) (fun vs aw' => vs = [.int (fpF S lim R).1] ∧ aw' = cW (fpF S lim R).2) := by
  refine xmet (Fd := xlk xfl2) (Cn := xlk xcl2) (Cl := xCt [(148, t_greatestLeft), (156, t_makeZ), (163, t_copyD), (175, t_product), (182, t_multiplyS), (192, t_advance), (200, t_turn)]) (by decide) xk_X2_findPressure xt_X2_findPressure ⟨_, _, rfl, rfl⟩ xpl2 (xEnt_ok (List.forall_mem_cons.mpr ⟨f_greatestLeft2 (by omega), List.forall_mem_cons.mpr ⟨f_makeZ (by omega), List.forall_mem_cons.mpr ⟨f_copyD (own := RX2) (j := 81) (by decide +kernel) (by omega), List.forall_mem_cons.mpr ⟨f_product (by omega), List.forall_mem_cons.mpr ⟨f_multiplyS (by omega), List.forall_mem_cons.mpr ⟨f_advance (by omega), List.forall_mem_cons.mpr ⟨f_turn (by omega), fun q h => by cases h⟩⟩⟩⟩⟩⟩⟩)) (Nat.le_of_ble_eq_true rfl) (fun WC hW => ?_)
  refine fp_0 _ _ WC hW S lim _ (fun h1 => by unfold fpF; rw [if_neg h1]) (fun h1 => ?_)
  obtain ⟨k1, k2, k3⟩ := hok h1
  refine fp_1 _ _ WC hW S lim _ k1 ?_
  refine fp_2 _ _ WC hW (mzC S) lim _ ?_
  refine fp_3 _ _ WC hW (cpC (mzC S)) lim _ k2 ?_
  exact fp_rounds _ _ WC hW lim R h40 R 1 (cpC (mzC S)) (dC1 (cpC (mzC S))) (by omega) k3 (by unfold fpF; rw [if_pos h1])
def t_findPressure (st : List Value) (aw : xA) (k : List Value → xA → Prop) : Prop := match st with
  | .int r :: .double x :: .ref 7 :: st => match xsm st with
    | true => ∃ (S : cS) (R : Nat), aw = cW S ∧ r = nI R ∧ R ≤ 40 ∧ fpOkF S x R ∧ k (.int (fpF S x R).1 :: st) (cW (fpF S x R).2)
    | false => False
  | _ => False
theorem f_findPressure {d : Nat} (hd : 5 ≤ d) : xEnt l d D ad cy RX4 312 t_findPressure := xEnt_V (y' := yX2_findPressure) (cc' := cX2_findPressure) (n' := 11) (ret' := some .int) (d' := 4) (j := 156) 2 (by decide +kernel) (by decide +kernel) (by omega) (fun st aw k h => by
  match st, h with
  | .int r :: .double x :: .ref 7 :: st, h =>
    cases hs : xsm st with
    | false => simp only [t_findPressure, hs] at h
    | true =>
      simp only [t_findPressure, hs] at h
      obtain ⟨S, R, rfl, rfl, h40, hok, h2⟩ := h
      exact ⟨[.double x, .int (nI R)], st, _, 7, 2, _, rfl, rfl, hs, rfl, ⟨_, rfl, rfl⟩, n_findPressure S x R h40 hok, fun vs aw' h9 => by obtain ⟨rfl, rfl⟩ := h9; exact h2⟩)
end C7
