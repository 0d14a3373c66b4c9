/-! the two solvers tied: their rounds -/
def frC (S S' : cS) : Prop := S'.1 = S.1 ∧ S'.2.1 = S.2.1 ∧ S'.2.2.1 = S.2.2.1 ∧ S'.2.2.2.1 = S.2.2.2.1 ∧ S'.2.2.2.2.1 = S.2.2.2.2.1 ∧ ∀ p, (p < 30 ∨ 34 < p) → cD S' p = cD S p
def frM (T T' : mS) : Prop := T'.1 = T.1 ∧ T'.2.1 = T.2.1 ∧ T'.2.2.1 = T.2.2.1 ∧ T'.2.2.2.1 = T.2.2.2.1 ∧ ∀ p, p < 16 → mD T' p = mD T p
theorem frC_r (S : cS) : frC S S := ⟨rfl, rfl, rfl, rfl, rfl, fun _ _ => rfl⟩
theorem frM_r (T : mS) : frM T T := ⟨rfl, rfl, rfl, rfl, fun _ _ => rfl⟩
theorem frC_t {S S' S'' : cS} (a : frC S S') (b : frC S' S'') : frC S S'' := ⟨b.1.trans a.1, b.2.1.trans a.2.1, b.2.2.1.trans a.2.2.1, b.2.2.2.1.trans a.2.2.2.1, b.2.2.2.2.1.trans a.2.2.2.2.1, fun p hp => (b.2.2.2.2.2 p hp).trans (a.2.2.2.2.2 p hp)⟩
theorem frM_t {S S' S'' : mS} (a : frM S S') (b : frM S' S'') : frM S S'' := ⟨b.1.trans a.1, b.2.1.trans a.2.1, b.2.2.1.trans a.2.2.1, b.2.2.2.1.trans a.2.2.2.1, fun p hp => (b.2.2.2.2 p hp).trans (a.2.2.2.2 p hp)⟩
theorem frC_D (S : cS) {q : Nat} (f : Nat → UInt64) (hq : 30 ≤ q ∧ q ≤ 34) : frC S (cD' S q f) := ⟨rfl, rfl, rfl, rfl, rfl, fun p hp => by show mu S.2.2.2.2.2 q f p = _; rw [mu_ne _ _ (by omega)]⟩
theorem frM_D (T : mS) {q : Nat} (f : Nat → UInt64) (hq : 16 ≤ q) : frM T (mD' T q f) := ⟨rfl, rfl, rfl, rfl, fun p hp => by show mu T.2.2.2.2 q f p = _; rw [mu_ne _ _ (by omega)]⟩
theorem frC_ml (S : cS) : frC S (mlS S 36) := frC_D S _ (by omega)
theorem frC_ad (S : cS) (k : UInt64) : frC S (adS S k 36) := frC_t (frC_D S _ (by omega)) (frC_D _ _ (by omega))
theorem frC_tr (S : cS) (k : UInt64) : frC S (trS S k 36) := frC_D S _ (by omega)
theorem frC_mz (S : cS) : frC S (mzC S) := frC_t (frC_D S _ (by omega)) (frC_D _ _ (by omega))
theorem frC_cp (S : cS) : frC S (cpC S) := frC_D S _ (by omega)
theorem frM_tm (T : mS) : frM T (tmS T) := frM_D T _ (by omega)
theorem frM_av (T : mS) (k : UInt64) : frM T (avS T k 36) := frM_t (frM_D T _ (by omega)) (frM_D _ _ (by omega))
theorem frM_tu (T : mS) (k : UInt64) : frM T (tuS T k 36) := frM_D T _ (by omega)
theorem frM_mz (T : mS) : frM T (mzS T) := frM_t (frM_D T _ (by omega)) (frM_D _ _ (by omega))
theorem frM_cp (T : mS) : frM T (cpS T 36) := frM_D T _ (by omega)
theorem dot_zs {S : cS} {T : mS} (hz : zT S T) (hs : sT S T) : dC4 S = dotZS T := prd_eq hz hs 6 (Nat.le_refl 6)
theorem dot_zr {S : cS} {T : mS} (h : slT S T) (hz : zT S T) : dC1 S = dotZR T := prd_eq hz h.2.2.2.2.1 6 (Nat.le_refl 6)
theorem rs_tie {S : cS} {T : mS} (h : slT S T) : rsC (cD S 31) 36 = rsF (mD T 17) 36 := rs_eq h.2.2.2.2.1 36 (Nat.le_refl 36)
theorem svL_e (n rd : Nat) (S : mS) (now : UInt64) : svL (n + 1) rd S now = if 0 < cvd now FP.dconst0 .l then (if 0 < cvd (dotZS (tmS S)) (FP.dmul now 4562146422526312448) .l then (if 0 < cvd (rsF (mD (svA S now) 17) 36) (mD S 6 0) .g then svL n (rd + 1) (svT S now) (dotZR (svZ S now)) else (nI rd, svA S now)) else (-1, tmS S)) else (-1, S) := rfl
theorem fpL_e (lim : UInt64) (n rd : Nat) (S : cS) (c9 : UInt64) : fpL lim (n + 1) rd S c9 = if 0 < cvd c9 FP.dconst0 .l then (if 0 < cvd (dC4 (mlS S 36)) (FP.dmul c9 4562146422526312448) .l then (if 0 < cvd (rsC (cD (fpA S c9) 31) 36) lim .g then fpL lim n (rd + 1) (fpT S c9) (dC1 (fpZ S c9)) else (nI rd, fpA S c9)) else (-1, mlS S 36)) else (-1, S) := rfl
def svR (r : Int32 × cS) (q : Int32 × mS) (S : cS) (T : mS) : Prop := r.1 = q.1 ∧ slT r.2 q.2 ∧ frC S r.2 ∧ frM T q.2
theorem sv_tie (lim : UInt64) : ∀ (n rd : Nat) (S : cS) (T : mS) (now : UInt64), mD T 6 0 = lim → slT S T → sT S T → svOk n T now → svR (fpL lim n rd S now) (svL n rd T now) S T ∧ fpOk lim n S now
  | 0, rd, S, T, now, hl, h, hs, ok => ⟨⟨rfl, h, frC_r S, frM_r T⟩, trivial⟩
  | n + 1, rd, S, T, now, hl, h, hs, ok => by
    rw [svL_e, fpL_e]
    obtain ⟨a1, a2, a3, a4⟩ := ml_tie h hs
    have d1 := dot_zs a2 a3
    have eA : fpA S now = adS (mlS S 36) (FP.ddiv now (dotZS (tmS T))) 36 := by unfold fpA; rw [d1]
    obtain ⟨b1, b2⟩ := av_tie a1 a2 a3 (FP.ddiv now (dotZS (tmS T)))
    have b1 : slT (fpA S now) (svA T now) := by rw [eA]; exact b1
    have fA : frC S (fpA S now) := frC_t (frC_ml S) (frC_ad _ _)
    have fB : frM T (svA T now) := frM_t (frM_tm T) (frM_av _ _)
    have sA : sT (fpA S now) (svA T now) := a3
    obtain ⟨c1, c2, c3⟩ := mz_tie b1
    have sZ : sT (fpZ S now) (svZ T now) := sA
    have d2 : dC1 (fpZ S now) = dotZR (svZ T now) := dot_zr c1 c2
    have eT : fpT S now = trS (fpZ S now) (FP.ddiv (dotZR (svZ T now)) now) 36 := by unfold fpT; rw [d2]
    obtain ⟨t1, t2, t3⟩ := tu_tie (S := fpZ S now) (T := svZ T now) c1 c2 sZ (FP.ddiv (dotZR (svZ T now)) now)
    have t1 : slT (fpT S now) (svT T now) := by rw [eT]; exact t1
    have t2 : sT (fpT S now) (svT T now) := by rw [eT]; exact t2
    have fT : frC S (fpT S now) := frC_t fA (frC_t (frC_mz _) (frC_tr _ _))
    have fU : frM T (svT T now) := frM_t fB (frM_t (frM_mz _) (frM_tu _ _))
    have hlT : mD (svT T now) 6 0 = lim := hl
    have ih := sv_tie lim n (rd + 1) (fpT S now) (svT T now) (dotZR (svZ T now)) hlT t1 t2
    have ok' : fpOk lim (n + 1) S now ∧ ((0 < cvd now FP.dconst0 .l) → (0 < cvd (dotZS (tmS T)) (FP.dmul now 4562146422526312448) .l) → (0 < cvd (rsF (mD (svA T now) 17) 36) lim .g) → svOk n (svT T now) (dotZR (svZ T now))) := by
      refine ⟨fun g1 => ?_, fun g1 g2 g3 => ?_⟩
      · obtain ⟨k1, k2, k3, k4⟩ := ok g1
        refine ⟨a4 k1, prOk_eq a2 a3 k2, k3, fun g2 => ?_⟩
        rw [d1] at g2 ⊢
        obtain ⟨m1, m2, m3, m4⟩ := k4 g2
        refine ⟨m1, b2 m2, fun g3 => ?_⟩
        rw [rs_tie b1, ← hl] at g3
        obtain ⟨q1, q2, q3, q4, q5⟩ := m4 g3
        refine ⟨c3 q1, prOk_eq c2 c1.2.2.2.2.1 q2, ?_, ?_, ?_⟩
        · rw [d2]; exact q3
        · rw [d2]; exact t3 q4
        · rw [d2]; exact (ih q5).2
      · obtain ⟨k1, k2, k3, k4⟩ := ok g1
        obtain ⟨m1, m2, m3, m4⟩ := k4 g2
        rw [← hl] at g3
        exact (m4 g3).2.2.2.2
    refine ⟨?_, ok'.1⟩
    rw [d1, rs_tie b1, hl]
    by_cases g1 : 0 < cvd now FP.dconst0 .l
    · rw [if_pos g1, if_pos g1]
      by_cases g2 : 0 < cvd (dotZS (tmS T)) (FP.dmul now 4562146422526312448) .l
      · rw [if_pos g2, if_pos g2]
        by_cases g3 : 0 < cvd (rsF (mD (svA T now) 17) 36) lim .g
        · rw [if_pos g3, if_pos g3, d2]
          obtain ⟨r1, r2, r3, r4⟩ := (ih (ok'.2 g1 g2 g3)).1
          exact ⟨r1, r2, frC_t fT r3, frM_t fU r4⟩
        · rw [if_neg g3, if_neg g3]
          exact ⟨rfl, b1, fA, fB⟩
      · rw [if_neg g2, if_neg g2]
        exact ⟨rfl, a1, frC_ml S, frM_tm T⟩
    · rw [if_neg g1, if_neg g1]
      exact ⟨rfl, h, frC_r S, frM_r T⟩
theorem cp_z {S : cS} {T : mS} (h : zT S T) : zT (cpC S) (cpS T 36) := h
theorem cp_6 (T : mS) : mD (cpS T 36) 6 = mD T 6 := rfl
theorem mz_6 (T : mS) : mD (mzS T) 6 = mD T 6 := rfl
theorem fp_tie {S : cS} {T : mS} (lim : UInt64) (hl : mD T 6 0 = lim) (h : slT S T) (R : Nat) (ok : sfOk T R) : svR (fpF S lim R) (svF T R) S T ∧ fpOkF S lim R := by
  obtain ⟨-, ok⟩ := ok
  obtain ⟨c1, c2, c3⟩ := mz_tie h
  obtain ⟨p1, p2⟩ := cp_tie c1 c2
  have pz : zT (cpC (mzC S)) (cpS (mzS T) 36) := cp_z c2
  have d := dot_zr p1 pz
  have hl2 : mD (cpS (mzS T) 36) 6 0 = lim := by rw [cp_6, mz_6]; exact hl
  have key := sv_tie lim R 1 (cpC (mzC S)) (cpS (mzS T) 36) (dotZR (cpS (mzS T) 36)) hl2 p1 p2
  unfold fpF svF fpOkF
  rw [rs_tie h, hl]
  rw [hl] at ok
  by_cases g : 0 < cvd (rsF (mD T 17) 36) lim .g
  · rw [if_pos g, if_pos g, d]
    obtain ⟨o1, o2, o3⟩ := ok g
    obtain ⟨⟨r1, r2, r3, r4⟩, r5⟩ := key o3
    exact ⟨⟨r1, r2, frC_t (frC_t (frC_mz S) (frC_cp _)) r3, frM_t (frM_t (frM_mz T) (frM_cp _)) r4⟩, fun _ => ⟨c3 o1, prOk_eq pz p1.2.2.2.2.1 o2, r5⟩⟩
  · rw [if_neg g, if_neg g]
    exact ⟨⟨rfl, h, frC_r S, frM_r T⟩, fun z => absurd z g⟩
