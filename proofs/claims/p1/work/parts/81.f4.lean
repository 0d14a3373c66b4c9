/-! the first call on the fresh objects, case by case -/
section F4
variable {l : Launch} {D : va_G} {ad : Nat → Nat} {cy : Nat → ClassId} {Ln : Nat} {xs : Nat → Int32} {WC : Nat → xC → xO → List Value → xA → Prop}
def finT (WC : Nat → xC → xO → List Value → xA → Prop) : Prop := ∀ (n : Nat) (S : cS) (T : mS) (o : Nat → Int64) (od : Nat → UInt64), n ≤ 1 → WC n (xL_L_law.drop 681) [some (.ref 1000), some (.ref 0), some (.ref 38), some (.ref 36), some (.ref 37), some (.int (nI 0)), none, none, none, none] [] (lwW S T o od)
set_option maxRecDepth 100000 in
set_option maxHeartbeats 2000000 in
theorem fc_solid (hst : l.stackTraces = false) (hs : lwSys l D ad cy (some (Ln, xs)) 1 WC) (hi : 0 + 5 ≤ Ln) (o : Nat → Int64) (od : Nat → UInt64) (fin : finT WC) : WC 0 (xL_L_law.drop 28) [some (.ref 1000), some (.ref 0), some (.ref 38), some (.ref 36), some (.ref 37), some (.int (nI 0)), none, none, none, none] [] (lwW S00 T00 o od) := by
  generalize hb : decide (xs (0 + 3) ≠ 0) = b
  have hB : isB (mA T00 1) := isB0
  have hM1 := n_solid (D := D) (ad := ad) (cy := cy) hst S00 0 rfl (by decide) (xs (0 + 1)) (xs (0 + 2)) b
  have hM2 := m_solid (l := l) (D := D) (ad := ad38 ad) (cy := cy) T00 0 rfl (by decide) hB (xs (0 + 1)) (xs (0 + 2)) b
  by_cases hin : inB (xs (0 + 1)) (xs (0 + 2)) = true
  · have er : qSolid S00 0 (xs (0 + 1)) (xs (0 + 2)) b = (0, [.int (xb false)], cA' S00 11 (upd (cA S00 11) (6 * (xs (0 + 2)).toNatClampNeg + (xs (0 + 1)).toNatClampNeg) (xb b))) := by
      unfold qSolid
      rw [if_pos hin, hp_0, Bool.and_false, show isSolB (cA S00 11) (xs (0 + 1)) (xs (0 + 2)) = false from sol0 _ _ hin]
      rfl
    have em : rSolid T00 0 (xs (0 + 1)) (xs (0 + 2)) b = (0, mA' (mI' T00 0 (nI 0)) 1 (upd (mA T00 1) (6 * (xs (0 + 2)).toNatClampNeg + (xs (0 + 1)).toNatClampNeg) (xb b))) := by
      unfold rSolid
      rw [if_pos hin, show hasC (mF T00 3) (nI 6 * xs (0 + 2) + xs (0 + 1)) 0 = false from rfl, Bool.and_false]
      rfl
    rw [er] at hM1
    rw [em] at hM2
    refine la_solid hs 0 (by decide) 0 hi S00 T00 o od _ (Nat.le_of_ble_eq_true rfl) _ _ b hb.symm (w_solid S00 _ _ b o od _ ⟨fun _ => ⟨_, rfl⟩, fun h => absurd rfl h⟩ hM1) hM2 rfl (fun _ => rfl) (fin _ _ _ _ _ (by decide))
  · have er : qSolid S00 0 (xs (0 + 1)) (xs (0 + 2)) b = (1, [], S00) := by unfold qSolid; rw [if_neg hin]
    have em : rSolid T00 0 (xs (0 + 1)) (xs (0 + 2)) b = (0, mI' (mI' T00 0 (nI 0)) 0 (nI 1)) := by unfold rSolid; rw [if_neg hin]
    rw [er] at hM1
    rw [em] at hM2
    refine la_solid hs 0 (by decide) 0 hi S00 T00 o od _ (Nat.le_of_ble_eq_true rfl) _ _ b hb.symm (w_solid S00 _ _ b o od _ ⟨fun h => (by cases h), fun _ => rfl⟩ hM1) hM2 rfl (fun h => by cases h) (fin _ _ _ _ _ (by decide))
set_option maxRecDepth 100000 in
set_option maxHeartbeats 2000000 in
theorem fc_add (hst : l.stackTraces = false) (hs : lwSys l D ad cy (some (Ln, xs)) 1 WC) (hi : 0 + 5 ≤ Ln) (o : Nat → Int64) (od : Nat → UInt64) (fin : finT WC) : WC 0 (xL_L_law.drop 94) [some (.ref 1000), some (.ref 0), some (.ref 38), some (.ref 36), some (.ref 37), some (.int (nI 0)), none, none, none, none] [] (lwW S00 T00 o od) := by
  have hM1 := n_add (D := D) (ad := ad) (cy := cy) hst S00 0 rfl (by decide) (FP.fmul (FP.i2f (xs (0 + 1))) 1040187392) (FP.fmul (FP.i2f (xs (0 + 2))) 1040187392) (FP.fmul (FP.i2f (xs (0 + 3))) 1040187392) (FP.fmul (FP.i2f (xs (0 + 4))) 1040187392)
  have hM2 := m_add (l := l) (D := D) (ad := ad38 ad) (cy := cy) T00 0 rfl (by decide) (FP.fmul (FP.i2f (xs (0 + 1))) 1040187392) (FP.fmul (FP.i2f (xs (0 + 2))) 1040187392) (FP.fmul (FP.i2f (xs (0 + 3))) 1040187392) (FP.fmul (FP.i2f (xs (0 + 4))) 1040187392)
  have hob := ok_bad (FP.fmul (FP.i2f (xs (0 + 1))) 1040187392) (FP.fmul (FP.i2f (xs (0 + 2))) 1040187392) (FP.fmul (FP.i2f (xs (0 + 3))) 1040187392) (FP.fmul (FP.i2f (xs (0 + 4))) 1040187392)
  by_cases hbad : badA (FP.fmul (FP.i2f (xs (0 + 1))) 1040187392) (FP.fmul (FP.i2f (xs (0 + 2))) 1040187392) (FP.fmul (FP.i2f (xs (0 + 3))) 1040187392) (FP.fmul (FP.i2f (xs (0 + 4))) 1040187392) = true
  · rw [hbad] at hob
    have er : qAdd S00 0 (FP.fmul (FP.i2f (xs (0 + 1))) 1040187392) (FP.fmul (FP.i2f (xs (0 + 2))) 1040187392) (FP.fmul (FP.i2f (xs (0 + 3))) 1040187392) (FP.fmul (FP.i2f (xs (0 + 4))) 1040187392) = (1, [], S00) := by unfold qAdd; rw [hob]; rfl
    have em : rAdd T00 0 (FP.fmul (FP.i2f (xs (0 + 1))) 1040187392) (FP.fmul (FP.i2f (xs (0 + 2))) 1040187392) (FP.fmul (FP.i2f (xs (0 + 3))) 1040187392) (FP.fmul (FP.i2f (xs (0 + 4))) 1040187392) = (nI 0, mI' (mS0 T00) 0 (nI 1)) := by unfold rAdd; rw [if_pos hbad]
    rw [er] at hM1
    rw [em] at hM2
    refine la_add hs 0 (by decide) 0 hi S00 T00 o od _ (Nat.le_of_ble_eq_true rfl) _ _ (fq_n _) (fq_n _) (fq_n _) (fq_n _) (w_add S00 _ _ _ _ o od _ ⟨fun h => (by cases h), fun _ => rfl⟩ hM1) hM2 rfl (fun h => by cases h) (fin _ _ _ _ _ (by decide))
  · have hbad : badA (FP.fmul (FP.i2f (xs (0 + 1))) 1040187392) (FP.fmul (FP.i2f (xs (0 + 2))) 1040187392) (FP.fmul (FP.i2f (xs (0 + 3))) 1040187392) (FP.fmul (FP.i2f (xs (0 + 4))) 1040187392) = false := by cases h : badA (FP.fmul (FP.i2f (xs (0 + 1))) 1040187392) (FP.fmul (FP.i2f (xs (0 + 2))) 1040187392) (FP.fmul (FP.i2f (xs (0 + 3))) 1040187392) (FP.fmul (FP.i2f (xs (0 + 4))) 1040187392) <;> simp_all
    rw [hbad] at hob
    have hx := hbad
    unfold badA at hx
    rw [Bool.or_eq_false_iff, Bool.or_eq_false_iff] at hx
    obtain ⟨a1, ha1, ea⟩ := place_cell hx.1
    obtain ⟨b1, hb1, eb⟩ := place_cell hx.2.1
    have hsol : isSolB (cA S00 11) (FP.f2i (FP.fmul (FP.i2f (xs (0 + 1))) 1040187392)) (FP.f2i (FP.fmul (FP.i2f (xs (0 + 2))) 1040187392)) = false := by
      rw [ea, eb]
      exact sol0 _ _ (nI_inB ha1 hb1)
    have er : qAdd S00 0 (FP.fmul (FP.i2f (xs (0 + 1))) 1040187392) (FP.fmul (FP.i2f (xs (0 + 2))) 1040187392) (FP.fmul (FP.i2f (xs (0 + 3))) 1040187392) (FP.fmul (FP.i2f (xs (0 + 4))) 1040187392) = (0, [.int (nI 0)], adC S00 0 (FP.fmul (FP.i2f (xs (0 + 1))) 1040187392) (FP.fmul (FP.i2f (xs (0 + 2))) 1040187392) (FP.fmul (FP.i2f (xs (0 + 3))) 1040187392) (FP.fmul (FP.i2f (xs (0 + 4))) 1040187392)) := by
      unfold qAdd
      rw [hob, hsol]
      rfl
    have em : rAdd T00 0 (FP.fmul (FP.i2f (xs (0 + 1))) 1040187392) (FP.fmul (FP.i2f (xs (0 + 2))) 1040187392) (FP.fmul (FP.i2f (xs (0 + 3))) 1040187392) (FP.fmul (FP.i2f (xs (0 + 4))) 1040187392) = (nI 0, mA' (mF' (mS0 T00) 3 (vf_upd (vf_upd (vf_upd (vf_upd (mF T00 3) (4 * 0) (FP.fmul (FP.i2f (xs (0 + 1))) 1040187392)) (4 * 0 + 1) (FP.fmul (FP.i2f (xs (0 + 2))) 1040187392)) (4 * 0 + 2) (FP.fmul (FP.i2f (xs (0 + 3))) 1040187392)) (4 * 0 + 3) (FP.fmul (FP.i2f (xs (0 + 4))) 1040187392))) 2 (upd (mA T00 2) 0 (nI (0 + 1)))) := by
      unfold rAdd
      rw [hbad, if_neg (by decide), if_neg (fun h => h rfl), if_neg (by decide)]
    rw [er] at hM1
    rw [em] at hM2
    refine la_add hs 0 (by decide) 0 hi S00 T00 o od _ (Nat.le_of_ble_eq_true rfl) _ _ (fq_n _) (fq_n _) (fq_n _) (fq_n _) (w_add S00 _ _ _ _ o od _ ⟨fun _ => ⟨_, rfl⟩, fun h => absurd rfl h⟩ hM1) hM2 rfl (fun _ => rfl) (fin _ _ _ _ _ (by decide))
set_option maxRecDepth 100000 in
set_option maxHeartbeats 2000000 in
theorem fc_pull (hst : l.stackTraces = false) (hs : lwSys l D ad cy (some (Ln, xs)) 1 WC) (hi : 0 + 5 ≤ Ln) (o : Nat → Int64) (od : Nat → UInt64) (fin : finT WC) : WC 0 (xL_L_law.drop 183) [some (.ref 1000), some (.ref 0), some (.ref 38), some (.ref 36), some (.ref 37), some (.int (nI 0)), none, none, none, none] [] (lwW S00 T00 o od) := by
  have hM1 := n_pull (D := D) (ad := ad) (cy := cy) hst S00 (FP.dmul (FP.i2d (xs (0 + 1))) 4593671619917905920)
  have hM2 := m_pull (l := l) (D := D) (ad := ad38 ad) (cy := cy) T00 (FP.dmul (FP.i2d (xs (0 + 1))) 4593671619917905920)
  by_cases hok : okPull (FP.dmul (FP.i2d (xs (0 + 1))) 4593671619917905920) = true
  · have er : ∃ S', qPull S00 (FP.dmul (FP.i2d (xs (0 + 1))) 4593671619917905920) = (0, [.double 13830554455654793216], S') := ⟨_, by unfold qPull; rw [if_pos hok]; rfl⟩
    have em : ∃ T', rPull T00 (FP.dmul (FP.i2d (xs (0 + 1))) 4593671619917905920) = (13830554455654793216, T') ∧ mI T' 0 = nI 0 := ⟨_, by unfold rPull; rw [if_pos hok]; rfl, rfl⟩
    obtain ⟨S', er⟩ := er
    obtain ⟨T', em, et⟩ := em
    rw [er] at hM1
    rw [em] at hM2
    refine la_pull hs 0 (by decide) 0 hi S00 T00 o od _ (Nat.le_of_ble_eq_true rfl) _ _ (tq_n _) (w_pull S00 _ o od _ ⟨fun _ => ⟨_, rfl⟩, fun h => absurd rfl h⟩ hM1) hM2 et (fun _ => show cvd 13830554455654793216 13830554455654793216 .l = 0 by decide +kernel) (fin _ _ _ _ _ (by decide))
  · have er : qPull S00 (FP.dmul (FP.i2d (xs (0 + 1))) 4593671619917905920) = (1, [], S00) := by unfold qPull; rw [if_neg hok]
    have em : rPull T00 (FP.dmul (FP.i2d (xs (0 + 1))) 4593671619917905920) = (FP.i2d (nI 0), mI' (mS0 T00) 0 (nI 1)) := by unfold rPull; rw [if_neg hok]
    rw [er] at hM1
    rw [em] at hM2
    refine la_pull hs 0 (by decide) 0 hi S00 T00 o od _ (Nat.le_of_ble_eq_true rfl) _ _ (tq_n _) (w_pull S00 _ o od _ ⟨fun h => (by cases h), fun _ => ⟨rfl, rfl⟩⟩ hM1) hM2 rfl (fun h => by cases h) (fin _ _ _ _ _ (by decide))
set_option maxRecDepth 100000 in
set_option maxHeartbeats 2000000 in
theorem fc_share (hst : l.stackTraces = false) (hs : lwSys l D ad cy (some (Ln, xs)) 1 WC) (hi : 0 + 5 ≤ Ln) (o : Nat → Int64) (od : Nat → UInt64) (fin : finT WC) : WC 0 (xL_L_law.drop 235) [some (.ref 1000), some (.ref 0), some (.ref 38), some (.ref 36), some (.ref 37), some (.int (nI 0)), none, none, none, none] [] (lwW S00 T00 o od) := by
  have hM1 := n_share (D := D) (ad := ad) (cy := cy) hst S00 (FP.fmul (FP.i2f (xs (0 + 1))) 1040187392)
  have hM2 := m_share (l := l) (D := D) (ad := ad38 ad) (cy := cy) T00 (FP.fmul (FP.i2f (xs (0 + 1))) 1040187392)
  by_cases hok : okShare (FP.fmul (FP.i2f (xs (0 + 1))) 1040187392) = true
  · have er : ∃ S', qShare S00 (FP.fmul (FP.i2f (xs (0 + 1))) 1040187392) = (0, [.float 1056964608], S') := ⟨_, by unfold qShare; rw [if_pos hok]; rfl⟩
    have em : ∃ T', rShare T00 (FP.fmul (FP.i2f (xs (0 + 1))) 1040187392) = (1056964608, T') ∧ mI T' 0 = nI 0 := ⟨_, by unfold rShare; rw [if_pos hok]; rfl, rfl⟩
    obtain ⟨S', er⟩ := er
    obtain ⟨T', em, et⟩ := em
    rw [er] at hM1
    rw [em] at hM2
    refine la_share hs 0 (by decide) 0 hi S00 T00 o od _ (Nat.le_of_ble_eq_true rfl) _ _ (fq_n _) (w_share S00 _ o od _ ⟨fun _ => ⟨_, rfl, by unfold vf_n64; decide +kernel⟩, fun h => absurd rfl h⟩ hM1) hM2 et (fun _ => ⟨show vf_n64 (FP.f2d 1056964608) by unfold vf_n64; decide +kernel, show cvd (FP.f2d 1056964608) (FP.f2d 1056964608) .l = 0 by decide +kernel⟩) (fin _ _ _ _ _ (by decide))
  · have er : qShare S00 (FP.fmul (FP.i2f (xs (0 + 1))) 1040187392) = (1, [], S00) := by unfold qShare; rw [if_neg hok]
    have em : rShare T00 (FP.fmul (FP.i2f (xs (0 + 1))) 1040187392) = (FP.i2f (nI 0), mI' (mS0 T00) 0 (nI 1)) := by unfold rShare; rw [if_neg hok]
    rw [er] at hM1
    rw [em] at hM2
    refine la_share hs 0 (by decide) 0 hi S00 T00 o od _ (Nat.le_of_ble_eq_true rfl) _ _ (fq_n _) (w_share S00 _ o od _ ⟨fun h => (by cases h), fun _ => ⟨rfl, rfl⟩⟩ hM1) hM2 rfl (fun h => by cases h) (fin _ _ _ _ _ (by decide))
set_option maxRecDepth 100000 in
set_option maxHeartbeats 2000000 in
theorem fc_solver (hst : l.stackTraces = false) (hs : lwSys l D ad cy (some (Ln, xs)) 1 WC) (hi : 0 + 5 ≤ Ln) (o : Nat → Int64) (od : Nat → UInt64) (fin : finT WC) : WC 0 (xL_L_law.drop 288) [some (.ref 1000), some (.ref 0), some (.ref 38), some (.ref 36), some (.ref 37), some (.int (nI 0)), none, none, none, none] [] (lwW S00 T00 o od) := by
  have hM1 := n_solver (D := D) (ad := ad) (cy := cy) hst S00 (xs (0 + 1)) (xs (0 + 2))
  have hM2 := m_solver (l := l) (D := D) (ad := ad38 ad) (cy := cy) T00 (xs (0 + 1)) (xs (0 + 2))
  by_cases hok : okSolver (xs (0 + 1)) (xs (0 + 2)) = true
  · have hk : ∃ q : Nat, q < 31 ∧ xs (0 + 1) = nI q := by
      unfold okSolver at hok
      split at hok
      · cases hok
      rename_i h1
      split at hok
      · cases hok
      rename_i h2
      have k1 : ¬ (xs (0 + 1)).toInt < 0 := fun q => h1 (Int32.lt_iff_toInt_lt.mpr q)
      have k2 : ¬ (30 : Int) < (xs (0 + 1)).toInt := fun q => h2 (Int32.lt_iff_toInt_lt.mpr (by rw [nI_toInt (by decide)]; exact q))
      refine ⟨(xs (0 + 1)).toInt.toNat, by omega, Int32.toInt.inj ?_⟩
      rw [nI_toInt (by omega)]
      omega
    obtain ⟨q, hq, ek⟩ := hk
    have er : ∃ S', qSolver S00 (xs (0 + 1)) (xs (0 + 2)) = (0, [.double (lmC (nI q))], S') := ⟨_, by unfold qSolver; rw [if_pos hok, ek]⟩
    have em : ∃ T', rSolver T00 (xs (0 + 1)) (xs (0 + 2)) = (lmC (nI q), T') ∧ mI T' 0 = nI 0 := ⟨_, by unfold rSolver; rw [if_pos hok, ek, nI_clamp (by omega), ← lm_hv ⟨q, hq⟩], rfl⟩
    obtain ⟨S', er⟩ := er
    obtain ⟨T', em, et⟩ := em
    rw [er] at hM1
    rw [em] at hM2
    refine la_solver hs 0 (by decide) 0 hi S00 T00 o od _ (Nat.le_of_ble_eq_true rfl) _ _ (w_solver S00 _ _ o od _ ⟨fun _ => ⟨_, rfl⟩, fun h => absurd rfl h⟩ hM1) hM2 et (fun _ => cvd_self (lm_n ⟨q, hq⟩)) (fin _ _ _ _ _ (by decide))
  · have er : qSolver S00 (xs (0 + 1)) (xs (0 + 2)) = (1, [], S00) := by unfold qSolver; rw [if_neg hok]
    have em : rSolver T00 (xs (0 + 1)) (xs (0 + 2)) = (FP.i2d (nI 0), mI' (mS0 T00) 0 (nI 1)) := by unfold rSolver; rw [if_neg hok]
    rw [er] at hM1
    rw [em] at hM2
    refine la_solver hs 0 (by decide) 0 hi S00 T00 o od _ (Nat.le_of_ble_eq_true rfl) _ _ (w_solver S00 _ _ o od _ ⟨fun h => (by cases h), fun _ => ⟨rfl, rfl⟩⟩ hM1) hM2 rfl (fun h => by cases h) (fin _ _ _ _ _ (by decide))
set_option maxRecDepth 100000 in
set_option maxHeartbeats 2000000 in
theorem fc_step (hst : l.stackTraces = false) (hs : lwSys l D ad cy (some (Ln, xs)) 1 WC) (hi : 0 + 5 ≤ Ln) (o : Nat → Int64) (od : Nat → UInt64) (fin : finT WC) : WC 0 (xL_L_law.drop 344) [some (.ref 1000), some (.ref 0), some (.ref 38), some (.ref 36), some (.ref 37), some (.int (nI 0)), none, none, none, none] [] (lwW S00 T00 o od) := by
  have ht := tq_m (xs (0 + 1))
  obtain ⟨c1, c2, c3, c4⟩ := cst_0 ht
  have hM1 := n_step0 (D := D) (ad := ad) (cy := cy) hst S00 rfl 20 rfl (by decide) (FP.dmul (FP.i2d (xs (0 + 1))) 4593671619917905920) (fun _ => ⟨c2, c3, c4⟩)
  have hM2 := m_step (l := l) (D := D) (ad := ad38 ad) (cy := cy) T00 0 20 rfl (by decide) (fun k hk => absurd hk (by omega)) rfl (by decide) (FP.dmul (FP.i2d (xs (0 + 1))) 4593671619917905920) (mst_0 ht).2
  have q0 := qst_0 ht
  have r0 := rst_0 ht
  rw [ok_TC ht] at r0
  by_cases hok : okC (FP.dmul (FP.i2d (xs (0 + 1))) 4593671619917905920) = true
  · obtain ⟨V, er⟩ := q0.1 hok
    obtain ⟨e1, e2⟩ := r0.1 hok
    rw [er] at hM1
    rw [e1] at hM2
    generalize (rStep T00 0 20 (FP.dmul (FP.i2d (xs (0 + 1))) 4593671619917905920)).2 = T' at hM2 e2
    refine la_step hs 0 (by decide) 0 hi S00 T00 o od _ (Nat.le_of_ble_eq_true rfl) _ T' (tq_n _) (w_step S00 _ o od _ ⟨fun _ => ⟨_, rfl⟩, fun h => absurd rfl h⟩ hM1) hM2 e2 (fun _ => rfl) (fin _ _ _ _ _ (by decide))
  · have hok : okC (FP.dmul (FP.i2d (xs (0 + 1))) 4593671619917905920) = false := by cases h : okC (FP.dmul (FP.i2d (xs (0 + 1))) 4593671619917905920) <;> simp_all
    have er := q0.2 hok
    have e2 := r0.2 hok
    rw [er] at hM1
    generalize rStep T00 0 20 (FP.dmul (FP.i2d (xs (0 + 1))) 4593671619917905920) = rr at hM2 e2
    refine la_step hs 0 (by decide) 0 hi S00 T00 o od _ (Nat.le_of_ble_eq_true rfl) _ rr.2 (tq_n _) (w_step S00 _ o od _ ⟨fun h => (by cases h), fun _ => rfl⟩ hM1) hM2 e2 (fun h => by cases h) (fin _ _ _ _ _ (by decide))
set_option maxRecDepth 100000 in
set_option maxHeartbeats 2000000 in
theorem fc_back (hs : lwSys l D ad cy (some (Ln, xs)) 1 WC) (hi : 0 + 5 ≤ Ln) (o : Nat → Int64) (od : Nat → UInt64) (fin : finT WC) : WC 0 (xL_L_law.drop 385) [some (.ref 1000), some (.ref 0), some (.ref 38), some (.ref 36), some (.ref 37), some (.int (nI 0)), none, none, none, none] [] (lwW S00 T00 o od) := by
  generalize hb : decide (xs (0 + 1) ≠ 0) = b
  exact la_back hs 0 (by decide) 0 hi S00 _ T00 _ o od b (!b) hb.symm (n_back S00 isB0 isB0 b) (m_back T00 isB0 b) (fin _ _ _ _ _ (by decide))
set_option maxRecDepth 100000 in
set_option maxHeartbeats 2000000 in
theorem fc_particle (hst : l.stackTraces = false) (hs : lwSys l D ad cy (some (Ln, xs)) 1 WC) (hi : 0 + 5 ≤ Ln) (o : Nat → Int64) (od : Nat → UInt64) (fin : finT WC) : WC 0 (xL_L_law.drop 410) [some (.ref 1000), some (.ref 0), some (.ref 38), some (.ref 36), some (.ref 37), some (.int (nI 0)), none, none, none, none] [] (lwW S00 T00 o od) := by
  have hM1 := n_particle (D := D) (ad := ad) (cy := cy) hst S00 0 rfl (by decide) (xs (0 + 1)) (xs (0 + 2))
  have hM2 := m_particle (l := l) (D := D) (ad := ad38 ad) (cy := cy) T00 0 rfl (by decide) (xs (0 + 1)) (xs (0 + 2))
  have hok : okPart 0 (xs (0 + 1)) (xs (0 + 2)) = false := by
    unfold okPart
    by_cases h1 : xs (0 + 1) < 0
    · rw [if_pos h1]
    · rw [if_neg h1, if_pos (show nI 0 ≤ xs (0 + 1) from Int32.not_lt.mp h1)]
  have er : qPart S00 0 (xs (0 + 1)) (xs (0 + 2)) = (1, [], S00) := by unfold qPart; rw [hok]; rfl
  have em : rPart T00 0 (xs (0 + 1)) (xs (0 + 2)) = (FP.i2f (nI 0), mI' (mS0 T00) 0 (nI 1)) := by unfold rPart; rw [hok]; rfl
  rw [er] at hM1
  rw [em] at hM2
  exact la_particle hs 0 (by decide) 0 hi S00 T00 o od _ (Nat.le_of_ble_eq_true rfl) _ _ (w_particle S00 _ _ o od _ ⟨fun h => (by cases h), fun _ => ⟨rfl, rfl⟩⟩ hM1) hM2 rfl (fun h => by cases h) (fin _ _ _ _ _ (by decide))
set_option maxRecDepth 100000 in
set_option maxHeartbeats 2000000 in
theorem fc_pressure (hst : l.stackTraces = false) (hs : lwSys l D ad cy (some (Ln, xs)) 1 WC) (hi : 0 + 5 ≤ Ln) (o : Nat → Int64) (od : Nat → UInt64) (fin : finT WC) : WC 0 (xL_L_law.drop 467) [some (.ref 1000), some (.ref 0), some (.ref 38), some (.ref 36), some (.ref 37), some (.int (nI 0)), none, none, none, none] [] (lwW S00 T00 o od) := by
  have hM1 := n_pressure (D := D) (ad := ad) (cy := cy) hst S00 (xs (0 + 1)) (xs (0 + 2))
  have hM2 := m_pressure (l := l) (D := D) (ad := ad38 ad) (cy := cy) T00 (xs (0 + 1)) (xs (0 + 2))
  by_cases hok : inB (xs (0 + 1)) (xs (0 + 2)) = true
  · have er : qPres S00 (xs (0 + 1)) (xs (0 + 2)) = (0, [.double 0], S00) := by unfold qPres; rw [if_pos hok]; rfl
    have em : rPres T00 (xs (0 + 1)) (xs (0 + 2)) = (0, mS0 T00) := by unfold rPres; rw [if_pos hok]; rfl
    rw [er] at hM1
    rw [em] at hM2
    exact la_pressure hs 0 (by decide) 0 hi S00 T00 o od _ (Nat.le_of_ble_eq_true rfl) _ _ (w_pressure S00 _ _ o od _ ⟨fun _ => ⟨_, rfl⟩, fun h => absurd rfl h⟩ hM1) hM2 rfl (fun _ => show cvd 0 0 .l = 0 by decide +kernel) (fin _ _ _ _ _ (by decide))
  · have er : qPres S00 (xs (0 + 1)) (xs (0 + 2)) = (1, [], S00) := by unfold qPres; rw [if_neg hok]
    have em : rPres T00 (xs (0 + 1)) (xs (0 + 2)) = (FP.i2d (nI 0), mI' (mS0 T00) 0 (nI 1)) := by unfold rPres; rw [if_neg hok]
    rw [er] at hM1
    rw [em] at hM2
    exact la_pressure hs 0 (by decide) 0 hi S00 T00 o od _ (Nat.le_of_ble_eq_true rfl) _ _ (w_pressure S00 _ _ o od _ ⟨fun h => (by cases h), fun _ => ⟨rfl, rfl⟩⟩ hM1) hM2 rfl (fun h => by cases h) (fin _ _ _ _ _ (by decide))
set_option maxRecDepth 100000 in
set_option maxHeartbeats 2000000 in
theorem fc_face (hst : l.stackTraces = false) (hs : lwSys l D ad cy (some (Ln, xs)) 1 WC) (hi : 0 + 5 ≤ Ln) (o : Nat → Int64) (od : Nat → UInt64) (fin : finT WC) : WC 0 (xL_L_law.drop 523) [some (.ref 1000), some (.ref 0), some (.ref 38), some (.ref 36), some (.ref 37), some (.int (nI 0)), none, none, none, none] [] (lwW S00 T00 o od) := by
  have hM1 := n_face (D := D) (ad := ad) (cy := cy) hst S00 (xs (0 + 1)) (xs (0 + 2)) (xs (0 + 3))
  have hM2 := m_face (l := l) (D := D) (ad := ad38 ad) (cy := cy) T00 (xs (0 + 1)) (xs (0 + 2)) (xs (0 + 3))
  have hth := fc_there (xs (0 + 1)) (xs (0 + 2)) (xs (0 + 3))
  by_cases hok : thereB (xs (0 + 1)) (xs (0 + 2)) (xs (0 + 3)) = true
  · have er : qFace S00 (xs (0 + 1)) (xs (0 + 2)) (xs (0 + 3)) = (0, [.double 0], S00) := by
      rw [hok] at hth
      unfold qFace
      by_cases h0 : xs (0 + 1) = 0
      · rw [if_pos h0] at hth ⊢
        rw [← hth]
        rfl
      · rw [if_neg h0] at hth ⊢
        by_cases h1 : xs (0 + 1) = nI 1
        · rw [if_pos h1] at hth ⊢
          rw [← hth]
          rfl
        · rw [if_neg h1] at hth
          cases hth
    have em : rFace T00 (xs (0 + 1)) (xs (0 + 2)) (xs (0 + 3)) = (0, mS0 T00) := by
      unfold rFace
      rw [if_pos hok]
      by_cases h0 : xs (0 + 1) = 0
      · rw [if_pos h0]; rfl
      · rw [if_neg h0]; rfl
    rw [er] at hM1
    rw [em] at hM2
    exact la_face hs 0 (by decide) 0 hi S00 T00 o od _ (Nat.le_of_ble_eq_true rfl) _ _ (w_face S00 _ _ _ o od _ ⟨fun _ => ⟨_, rfl⟩, fun h => absurd rfl h⟩ hM1) hM2 rfl (fun _ => show cvd 0 0 .l = 0 by decide +kernel) (fin _ _ _ _ _ (by decide))
  · have hok : thereB (xs (0 + 1)) (xs (0 + 2)) (xs (0 + 3)) = false := by cases h : thereB (xs (0 + 1)) (xs (0 + 2)) (xs (0 + 3)) <;> simp_all
    have er : qFace S00 (xs (0 + 1)) (xs (0 + 2)) (xs (0 + 3)) = (1, [], S00) := by
      rw [hok] at hth
      unfold qFace
      by_cases h0 : xs (0 + 1) = 0
      · rw [if_pos h0] at hth ⊢
        rw [← hth]
        rfl
      · rw [if_neg h0] at hth ⊢
        by_cases h1 : xs (0 + 1) = nI 1
        · rw [if_pos h1] at hth ⊢
          rw [← hth]
          rfl
        · rw [if_neg h1]
    have em : rFace T00 (xs (0 + 1)) (xs (0 + 2)) (xs (0 + 3)) = (FP.i2d (nI 0), mI' (mS0 T00) 0 (nI 1)) := by unfold rFace; rw [hok]; rfl
    rw [er] at hM1
    rw [em] at hM2
    exact la_face hs 0 (by decide) 0 hi S00 T00 o od _ (Nat.le_of_ble_eq_true rfl) _ _ (w_face S00 _ _ _ o od _ ⟨fun h => (by cases h), fun _ => ⟨rfl, rfl⟩⟩ hM1) hM2 rfl (fun h => by cases h) (fin _ _ _ _ _ (by decide))
set_option maxRecDepth 100000 in
set_option maxHeartbeats 2000000 in
theorem fc_rest (hs : lwSys l D ad cy (some (Ln, xs)) 1 WC) (hi : 0 + 5 ≤ Ln) (o : Nat → Int64) (od : Nat → UInt64) (fin : finT WC) : WC 0 (xL_L_law.drop 589) [some (.ref 1000), some (.ref 0), some (.ref 38), some (.ref 36), some (.ref 37), some (.int (nI 0)), none, none, none, none] [] (lwW S00 T00 o od) := by
  exact la_rest hs 0 (by decide) 0 hi S00 _ T00 _ o od _ _ (n_rest S00) (m_rest T00) (by decide +kernel) (fin _ _ _ _ _ (by decide))
set_option maxRecDepth 100000 in
set_option maxHeartbeats 2000000 in
theorem fc_energy (hs : lwSys l D ad cy (some (Ln, xs)) 1 WC) (hi : 0 + 5 ≤ Ln) (o : Nat → Int64) (od : Nat → UInt64) (fin : finT WC) : WC 0 (xL_L_law.drop 610) [some (.ref 1000), some (.ref 0), some (.ref 38), some (.ref 36), some (.ref 37), some (.int (nI 0)), none, none, none, none] [] (lwW S00 T00 o od) := by
  exact la_energy hs 0 (by decide) 0 hi S00 _ T00 _ o od _ _ (n_energy S00 0 rfl (by decide) (fun k hk => absurd hk (by omega))) (m_energy T00 0 rfl (by decide) (fun k hk => absurd hk (by omega))) (by decide +kernel) (fin _ _ _ _ _ (by decide))
set_option maxRecDepth 100000 in
set_option maxHeartbeats 2000000 in
theorem fc_drift (hs : lwSys l D ad cy (some (Ln, xs)) 1 WC) (hi : 0 + 5 ≤ Ln) (o : Nat → Int64) (od : Nat → UInt64) (fin : finT WC) : WC 0 (xL_L_law.drop 631) [some (.ref 1000), some (.ref 0), some (.ref 38), some (.ref 36), some (.ref 37), some (.int (nI 0)), none, none, none, none] [] (lwW S00 T00 o od) := by
  have e1 : ∀ A : Nat → UInt32, drR A 0 = FP.fconst0 := fun A => by unfold drR; rw [if_pos rfl]
  have hM1 := n_drift (l := l) (D := D) (ad := ad) (cy := cy) S00 0 rfl (by decide) (xs (0 + 1)) (fun k hk => absurd hk (by omega)) (fun h => absurd rfl h)
  have hM2 := m_drift (l := l) (D := D) (ad := ad38 ad) (cy := cy) T00 0 rfl (by decide) (xs (0 + 1)) _ rfl (fun k hk => absurd hk (by omega)) (fun h => absurd rfl h)
  rw [e1] at hM1 hM2
  exact la_drift hs 0 (by decide) 0 hi S00 _ T00 _ o od _ _ hM1 hM2 (by unfold vf_n64; decide +kernel) (by unfold vf_n64; decide +kernel) (by decide +kernel) (fin _ _ _ _ _ (by decide))
set_option maxRecDepth 100000 in
set_option maxHeartbeats 2000000 in
theorem fc_count (hs : lwSys l D ad cy (some (Ln, xs)) 1 WC) (hi : 0 + 5 ≤ Ln) (o : Nat → Int64) (od : Nat → UInt64) (fin : finT WC) : WC 0 (xL_L_law.drop 664) [some (.ref 1000), some (.ref 0), some (.ref 38), some (.ref 36), some (.ref 37), some (.int (nI 0)), none, none, none, none] [] (lwW S00 T00 o od) := by
  have hM1 := n_count (l := l) (D := D) (ad := ad) (cy := cy) S00 0 rfl (by decide) (xs (0 + 1))
  have hM2 := m_count (l := l) (D := D) (ad := ad38 ad) (cy := cy) T00 0 rfl (by decide) (fun k hk => absurd hk (by omega)) (xs (0 + 1))
  have ec : rCount T00 0 (xs (0 + 1)) = ctC S00 0 (xs (0 + 1)) := by
    unfold rCount ctC
    rw [cntB_0 (fun c => fl_0 _ _ _ _ _), cntF_0 36 (fun c hc => by unfold fluR; rw [if_pos hc])]
    rfl
  rw [ec] at hM2
  exact la_count hs 0 (by decide) 0 hi S00 _ T00 _ o od _ hM1 hM2 (fin _ _ _ _ _ (by decide))
/-- the law on the fresh objects, with a script of at most one call -/
theorem fresh_run (hst : l.stackTraces = false) (hs : lwSys l D ad cy (some (Ln, xs)) 1 WC) (h5 : Ln ≤ 5) (o : Nat → Int64) (od : Nat → UInt64) : WC 0 (xL_L_law.drop 16) [some (.ref 1000), some (.ref 0), some (.ref 38), some (.ref 36), some (.ref 37), some (.int (nI 0)), none, none, none, none] [] (lwW S00 T00 o od) := by
  have fin : finT WC := fun n S T o od hn => la_next hs n hn 0 S T o od (la_end hs n hn (0 + 5) (by omega) (by omega) (by decide) S T o od)
  by_cases hi : 0 + 5 ≤ Ln
  · exact la_head hs 0 (by decide) 0 hi (by omega) S00 T00 o od (fun _ => fc_solid hst hs hi o od fin) (fun _ => fc_add hst hs hi o od fin) (fun _ => fc_pull hst hs hi o od fin) (fun _ => fc_share hst hs hi o od fin) (fun _ => fc_solver hst hs hi o od fin) (fun _ => fc_step hst hs hi o od fin) (fun _ => fc_back hs hi o od fin) (fun _ => fc_particle hst hs hi o od fin) (fun _ => fc_pressure hst hs hi o od fin) (fun _ => fc_face hst hs hi o od fin) (fun _ => fc_rest hs hi o od fin) (fun _ => fc_energy hs hi o od fin) (fun _ => fc_drift hs hi o od fin) (fun _ => fc_count hs hi o od fin) (fin _ _ _ _ _ (by decide))
  · exact la_end hs 0 (by decide) 0 (by omega) (by omega) (by decide) S00 T00 o od
end F4
