/-! the law's loop, over any script, given what step does -/
theorem f2d_nn {x : UInt32} (h : vf_n32 x) : vf_n64 (FP.f2d x) := by
  refine n64_of ((FP.Core.notNaN_iff _).mp ?_)
  have e := FP.f2d_nan x
  have e2 : FP.fIsNaN x = false := (FP.Core.notNaN_iff32 x).mpr (n32_ne h)
  rw [e2] at e
  exact e
/-- what is still owed of step: from tied worlds, no NaN on either side, equal answers, tied worlds -/
def stepT : Prop := ∀ (S : cS) (T : mS) (np nq R : Nat) (t : UInt64), Tie S T np nq → cI S 0 = nI R → R ≤ 40 → mgd 1056 t → (okC t = true → spOk S np R t ∧ spOk2 (fpF (spA S np t) (cG S 1) R) ∧ cI (fpF (spA S np t) (cG S 1) R).2 1 = nI np ∧ ((fpF (spA S np t) (cG S 1) R).1 ≠ -1 → pmOk (spV (spU (fpF (spA S np t) (cG S 1) R).2)) np t)) ∧ stOk T np R t ∧ cOk (qStepF S np R t) (.int (rStep T np R t).1) (rStep T np R t).2 np nq
section T6
variable {l : Launch} {D : va_G} {ad : Nat → Nat} {cy : Nat → ClassId} {Ln : Nat} {xs : Nat → Int32} {N : Nat} {WC : Nat → xC → xO → List Value → xA → Prop}
def finG (WC : Nat → xC → xO → List Value → xA → Prop) (n i : Nat) : Prop := ∀ (m : Nat) (S : cS) (T : mS) (np nq : Nat) (o : Nat → Int64) (od : Nat → UInt64), m ≤ n + 1 → Tie S T np nq → WC m (xL_L_law.drop 681) [some (.ref 1000), some (.ref 0), some (.ref 38), some (.ref 36), some (.ref 37), some (.int (nI i)), none, none, none, none] [] (lwW S T o od)
set_option maxRecDepth 100000 in
set_option maxHeartbeats 2000000 in
theorem gc_solid (hst : l.stackTraces = false) (hs : lwSys l D ad cy (some (Ln, xs)) N WC) (n : Nat) (hn : n < N) (i : Nat) (hi : i + 5 ≤ Ln) (S : cS) (T : mS) (np nq : Nat) (hT : Tie S T np nq) (o : Nat → Int64) (od : Nat → UInt64) (fin : finG WC n i) : WC n (xL_L_law.drop 28) [some (.ref 1000), some (.ref 0), some (.ref 38), some (.ref 36), some (.ref 37), some (.int (nI i)), none, none, none, none] [] (lwW S T o od) := by
  generalize hb : decide (xs (i + 3) ≠ 0) = b
  have hM1 := n_solid (l := l) (D := D) (ad := ad) (cy := cy) hst S np hT.now.c1 hT.now.n24 (xs (i + 1)) (xs (i + 2)) b
  have hM2 := m_solid (l := l) (D := D) (ad := ad38 ad) (cy := cy) T np hT.now.c2 hT.now.n24 hT.b1 (xs (i + 1)) (xs (i + 2)) b
  obtain ⟨c1, c2, c3, c4, c5⟩ := tie_solid hT (xs (i + 1)) (xs (i + 2)) b
  generalize qSolid S np (xs (i + 1)) (xs (i + 2)) b = r at hM1 c1 c2 c3 c4 c5
  generalize rSolid T np (xs (i + 1)) (xs (i + 2)) b = w at hM2 c1 c3 c5
  exact la_solid hs n hn i hi S T o od r c2 _ _ b hb.symm (w_solid S _ _ b o od r ⟨fun z => ⟨_, c3 z⟩, c4⟩ hM1) hM2 c1 (fun z => by rw [c3 z]; rfl) (fin _ _ _ np nq _ _ (Nat.le_refl _) c5)
set_option maxRecDepth 100000 in
set_option maxHeartbeats 2000000 in
theorem gc_add (hst : l.stackTraces = false) (hs : lwSys l D ad cy (some (Ln, xs)) N WC) (n : Nat) (hn : n < N) (i : Nat) (hi : i + 5 ≤ Ln) (S : cS) (T : mS) (np nq : Nat) (hT : Tie S T np nq) (o : Nat → Int64) (od : Nat → UInt64) (fin : finG WC n i) : WC n (xL_L_law.drop 94) [some (.ref 1000), some (.ref 0), some (.ref 38), some (.ref 36), some (.ref 37), some (.int (nI i)), none, none, none, none] [] (lwW S T o od) := by
  have hM1 := n_add (l := l) (D := D) (ad := ad) (cy := cy) hst S np hT.now.c1 hT.now.n24 (FP.fmul (FP.i2f (xs (i + 1))) 1040187392) (FP.fmul (FP.i2f (xs (i + 2))) 1040187392) (FP.fmul (FP.i2f (xs (i + 3))) 1040187392) (FP.fmul (FP.i2f (xs (i + 4))) 1040187392)
  have hM2 := m_add (l := l) (D := D) (ad := ad38 ad) (cy := cy) T np hT.now.c2 hT.now.n24 (FP.fmul (FP.i2f (xs (i + 1))) 1040187392) (FP.fmul (FP.i2f (xs (i + 2))) 1040187392) (FP.fmul (FP.i2f (xs (i + 3))) 1040187392) (FP.fmul (FP.i2f (xs (i + 4))) 1040187392)
  obtain ⟨np', c1, c2, c3, c4, c5⟩ := tie_add hT (FP.fmul (FP.i2f (xs (i + 1))) 1040187392) (FP.fmul (FP.i2f (xs (i + 2))) 1040187392) (FP.fmul (FP.i2f (xs (i + 3))) 1040187392) (FP.fmul (FP.i2f (xs (i + 4))) 1040187392)
  generalize qAdd S np (FP.fmul (FP.i2f (xs (i + 1))) 1040187392) (FP.fmul (FP.i2f (xs (i + 2))) 1040187392) (FP.fmul (FP.i2f (xs (i + 3))) 1040187392) (FP.fmul (FP.i2f (xs (i + 4))) 1040187392) = r at hM1 c1 c2 c3 c4 c5
  generalize rAdd T np (FP.fmul (FP.i2f (xs (i + 1))) 1040187392) (FP.fmul (FP.i2f (xs (i + 2))) 1040187392) (FP.fmul (FP.i2f (xs (i + 3))) 1040187392) (FP.fmul (FP.i2f (xs (i + 4))) 1040187392) = w at hM2 c1 c3 c5
  exact la_add hs n hn i hi S T o od r c2 _ _ (fq_n _) (fq_n _) (fq_n _) (fq_n _) (w_add S _ _ _ _ o od r ⟨fun z => ⟨_, c3 z⟩, c4⟩ hM1) hM2 c1 (fun z => by rw [c3 z]; rfl) (fin _ _ _ np' nq _ _ (Nat.le_refl _) c5)
set_option maxRecDepth 100000 in
set_option maxHeartbeats 2000000 in
theorem gc_pull (hst : l.stackTraces = false) (hs : lwSys l D ad cy (some (Ln, xs)) N WC) (n : Nat) (hn : n < N) (i : Nat) (hi : i + 5 ≤ Ln) (S : cS) (T : mS) (np nq : Nat) (hT : Tie S T np nq) (o : Nat → Int64) (od : Nat → UInt64) (fin : finG WC n i) : WC n (xL_L_law.drop 183) [some (.ref 1000), some (.ref 0), some (.ref 38), some (.ref 36), some (.ref 37), some (.int (nI i)), none, none, none, none] [] (lwW S T o od) := by
  have hM1 := n_pull (l := l) (D := D) (ad := ad) (cy := cy) hst S (FP.dmul (FP.i2d (xs (i + 1))) 4593671619917905920)
  have hM2 := m_pull (l := l) (D := D) (ad := ad38 ad) (cy := cy) T (FP.dmul (FP.i2d (xs (i + 1))) 4593671619917905920)
  obtain ⟨⟨c1, c2, c3, c4, c5⟩, c6, c7⟩ := tie_pull hT (FP.dmul (FP.i2d (xs (i + 1))) 4593671619917905920)
  generalize qPull S (FP.dmul (FP.i2d (xs (i + 1))) 4593671619917905920) = r at hM1 c1 c2 c3 c4 c5 c6 c7
  generalize rPull T (FP.dmul (FP.i2d (xs (i + 1))) 4593671619917905920) = w at hM2 c1 c3 c5 c7
  exact la_pull hs n hn i hi S T o od r c2 _ _ (tq_n _) (w_pull S _ o od r ⟨fun z => ⟨_, c3 z⟩, fun z => ⟨c4 z, c6 z⟩⟩ hM1) hM2 c1 (fun z => by rw [c3 z]; exact cvd_self (c7 z)) (fin _ _ _ np nq _ _ (Nat.le_refl _) c5)
set_option maxRecDepth 100000 in
set_option maxHeartbeats 2000000 in
theorem gc_share (hst : l.stackTraces = false) (hs : lwSys l D ad cy (some (Ln, xs)) N WC) (n : Nat) (hn : n < N) (i : Nat) (hi : i + 5 ≤ Ln) (S : cS) (T : mS) (np nq : Nat) (hT : Tie S T np nq) (o : Nat → Int64) (od : Nat → UInt64) (fin : finG WC n i) : WC n (xL_L_law.drop 235) [some (.ref 1000), some (.ref 0), some (.ref 38), some (.ref 36), some (.ref 37), some (.int (nI i)), none, none, none, none] [] (lwW S T o od) := by
  have hM1 := n_share (l := l) (D := D) (ad := ad) (cy := cy) hst S (FP.fmul (FP.i2f (xs (i + 1))) 1040187392)
  have hM2 := m_share (l := l) (D := D) (ad := ad38 ad) (cy := cy) T (FP.fmul (FP.i2f (xs (i + 1))) 1040187392)
  obtain ⟨⟨c1, c2, c3, c4, c5⟩, c6, c7⟩ := tie_share hT (FP.fmul (FP.i2f (xs (i + 1))) 1040187392)
  generalize qShare S (FP.fmul (FP.i2f (xs (i + 1))) 1040187392) = r at hM1 c1 c2 c3 c4 c5 c6 c7
  generalize rShare T (FP.fmul (FP.i2f (xs (i + 1))) 1040187392) = w at hM2 c1 c3 c5 c7
  exact la_share hs n hn i hi S T o od r c2 _ _ (fq_n _) (w_share S _ o od r ⟨fun z => ⟨_, c3 z, f2d_nn (c7 z)⟩, fun z => ⟨c4 z, c6 z⟩⟩ hM1) hM2 c1 (fun z => ⟨f2d_nn (c7 z), by rw [c3 z]; exact cvd_self (f2d_nn (c7 z))⟩) (fin _ _ _ np nq _ _ (Nat.le_refl _) c5)
set_option maxRecDepth 100000 in
set_option maxHeartbeats 2000000 in
theorem gc_solver (hst : l.stackTraces = false) (hs : lwSys l D ad cy (some (Ln, xs)) N WC) (n : Nat) (hn : n < N) (i : Nat) (hi : i + 5 ≤ Ln) (S : cS) (T : mS) (np nq : Nat) (hT : Tie S T np nq) (o : Nat → Int64) (od : Nat → UInt64) (fin : finG WC n i) : WC n (xL_L_law.drop 288) [some (.ref 1000), some (.ref 0), some (.ref 38), some (.ref 36), some (.ref 37), some (.int (nI i)), none, none, none, none] [] (lwW S T o od) := by
  have hM1 := n_solver (l := l) (D := D) (ad := ad) (cy := cy) hst S (xs (i + 1)) (xs (i + 2))
  have hM2 := m_solver (l := l) (D := D) (ad := ad38 ad) (cy := cy) T (xs (i + 1)) (xs (i + 2))
  obtain ⟨⟨c1, c2, c3, c4, c5⟩, c6, c7⟩ := tie_solver hT (xs (i + 1)) (xs (i + 2))
  generalize qSolver S (xs (i + 1)) (xs (i + 2)) = r at hM1 c1 c2 c3 c4 c5 c6 c7
  generalize rSolver T (xs (i + 1)) (xs (i + 2)) = w at hM2 c1 c3 c5 c7
  exact la_solver hs n hn i hi S T o od r c2 _ _ (w_solver S _ _ o od r ⟨fun z => ⟨_, c3 z⟩, fun z => ⟨c4 z, c6 z⟩⟩ hM1) hM2 c1 (fun z => by rw [c3 z]; exact cvd_self (c7 z)) (fin _ _ _ np nq _ _ (Nat.le_refl _) c5)
set_option maxRecDepth 100000 in
set_option maxHeartbeats 2000000 in
theorem gc_step (hst : l.stackTraces = false) (hstep : stepT) (hs : lwSys l D ad cy (some (Ln, xs)) N WC) (n : Nat) (hn : n < N) (i : Nat) (hi : i + 5 ≤ Ln) (S : cS) (T : mS) (np nq : Nat) (hT : Tie S T np nq) (o : Nat → Int64) (od : Nat → UInt64) (fin : finG WC n i) : WC n (xL_L_law.drop 344) [some (.ref 1000), some (.ref 0), some (.ref 38), some (.ref 36), some (.ref 37), some (.int (nI i)), none, none, none, none] [] (lwW S T o od) := by
  obtain ⟨R, h40, hR⟩ := hT.now.o4
  have hR1 : cI S 0 = nI R := hT.now.e4.trans hR
  obtain ⟨k1, k2, c1, c2, c3, c4, c5⟩ := hstep S T np nq R (FP.dmul (FP.i2d (xs (i + 1))) 4593671619917905920) hT hR1 h40 (tq_m _)
  have hM1 := n_step (l := l) (D := D) (ad := ad) (cy := cy) hst S np hT.now.c1 hT.now.n24 R hR1 h40 (FP.dmul (FP.i2d (xs (i + 1))) 4593671619917905920) k1
  have hM2 := m_step (l := l) (D := D) (ad := ad38 ad) (cy := cy) T np R hT.now.c2 hT.now.n24 (tie_inP hT) hR h40 (FP.dmul (FP.i2d (xs (i + 1))) 4593671619917905920) k2
  generalize qStepF S np R (FP.dmul (FP.i2d (xs (i + 1))) 4593671619917905920) = r at hM1 c1 c2 c3 c4 c5
  generalize rStep T np R (FP.dmul (FP.i2d (xs (i + 1))) 4593671619917905920) = w at hM2 c1 c3 c5
  exact la_step hs n hn i hi S T o od r c2 _ _ (tq_n _) (w_step S _ o od r ⟨fun z => ⟨_, c3 z⟩, c4⟩ hM1) hM2 c1 (fun z => by rw [c3 z]; rfl) (fin _ _ _ np nq _ _ (Nat.le_refl _) c5)
set_option maxRecDepth 100000 in
set_option maxHeartbeats 2000000 in
theorem gc_particle (hst : l.stackTraces = false) (hs : lwSys l D ad cy (some (Ln, xs)) N WC) (n : Nat) (hn : n < N) (i : Nat) (hi : i + 5 ≤ Ln) (S : cS) (T : mS) (np nq : Nat) (hT : Tie S T np nq) (o : Nat → Int64) (od : Nat → UInt64) (fin : finG WC n i) : WC n (xL_L_law.drop 410) [some (.ref 1000), some (.ref 0), some (.ref 38), some (.ref 36), some (.ref 37), some (.int (nI i)), none, none, none, none] [] (lwW S T o od) := by
  have hM1 := n_particle (l := l) (D := D) (ad := ad) (cy := cy) hst S np hT.now.c1 hT.now.n24 (xs (i + 1)) (xs (i + 2))
  have hM2 := m_particle (l := l) (D := D) (ad := ad38 ad) (cy := cy) T np hT.now.c2 hT.now.n24 (xs (i + 1)) (xs (i + 2))
  obtain ⟨⟨c1, c2, c3, c4, c5⟩, c6, c7⟩ := tie_part hT (xs (i + 1)) (xs (i + 2))
  generalize qPart S np (xs (i + 1)) (xs (i + 2)) = r at hM1 c1 c2 c3 c4 c5 c6 c7
  generalize rPart T np (xs (i + 1)) (xs (i + 2)) = w at hM2 c1 c3 c5 c7
  exact la_particle hs n hn i hi S T o od r c2 _ _ (w_particle S _ _ o od r ⟨fun z => ⟨_, c3 z, f2d_nn (mgf_n (by omega) (c7 z))⟩, fun z => ⟨c4 z, c6 z⟩⟩ hM1) hM2 c1 (fun z => ⟨f2d_nn (mgf_n (by omega) (c7 z)), by rw [c3 z]; exact cvd_self (f2d_nn (mgf_n (by omega) (c7 z)))⟩) (fin _ _ _ np nq _ _ (Nat.le_refl _) c5)
set_option maxRecDepth 100000 in
set_option maxHeartbeats 2000000 in
theorem gc_pressure (hst : l.stackTraces = false) (hs : lwSys l D ad cy (some (Ln, xs)) N WC) (n : Nat) (hn : n < N) (i : Nat) (hi : i + 5 ≤ Ln) (S : cS) (T : mS) (np nq : Nat) (hT : Tie S T np nq) (o : Nat → Int64) (od : Nat → UInt64) (fin : finG WC n i) : WC n (xL_L_law.drop 467) [some (.ref 1000), some (.ref 0), some (.ref 38), some (.ref 36), some (.ref 37), some (.int (nI i)), none, none, none, none] [] (lwW S T o od) := by
  have hM1 := n_pressure (l := l) (D := D) (ad := ad) (cy := cy) hst S (xs (i + 1)) (xs (i + 2))
  have hM2 := m_pressure (l := l) (D := D) (ad := ad38 ad) (cy := cy) T (xs (i + 1)) (xs (i + 2))
  obtain ⟨⟨c1, c2, c3, c4, c5⟩, c6, c7⟩ := tie_pres hT (xs (i + 1)) (xs (i + 2))
  generalize qPres S (xs (i + 1)) (xs (i + 2)) = r at hM1 c1 c2 c3 c4 c5 c6 c7
  generalize rPres T (xs (i + 1)) (xs (i + 2)) = w at hM2 c1 c3 c5 c7
  exact la_pressure hs n hn i hi S T o od r c2 _ _ (w_pressure S _ _ o od r ⟨fun z => ⟨_, c3 z⟩, fun z => ⟨c4 z, c6 z⟩⟩ hM1) hM2 c1 (fun z => by rw [c3 z]; exact cvd_self (c7 z)) (fin _ _ _ np nq _ _ (Nat.le_refl _) c5)
set_option maxRecDepth 100000 in
set_option maxHeartbeats 2000000 in
theorem gc_face (hst : l.stackTraces = false) (hs : lwSys l D ad cy (some (Ln, xs)) N WC) (n : Nat) (hn : n < N) (i : Nat) (hi : i + 5 ≤ Ln) (S : cS) (T : mS) (np nq : Nat) (hT : Tie S T np nq) (o : Nat → Int64) (od : Nat → UInt64) (fin : finG WC n i) : WC n (xL_L_law.drop 523) [some (.ref 1000), some (.ref 0), some (.ref 38), some (.ref 36), some (.ref 37), some (.int (nI i)), none, none, none, none] [] (lwW S T o od) := by
  have hM1 := n_face (l := l) (D := D) (ad := ad) (cy := cy) hst S (xs (i + 1)) (xs (i + 2)) (xs (i + 3))
  have hM2 := m_face (l := l) (D := D) (ad := ad38 ad) (cy := cy) T (xs (i + 1)) (xs (i + 2)) (xs (i + 3))
  obtain ⟨⟨c1, c2, c3, c4, c5⟩, c6, c7⟩ := tie_face hT (xs (i + 1)) (xs (i + 2)) (xs (i + 3))
  generalize qFace S (xs (i + 1)) (xs (i + 2)) (xs (i + 3)) = r at hM1 c1 c2 c3 c4 c5 c6 c7
  generalize rFace T (xs (i + 1)) (xs (i + 2)) (xs (i + 3)) = w at hM2 c1 c3 c5 c7
  exact la_face hs n hn i hi S T o od r c2 _ _ (w_face S _ _ _ o od r ⟨fun z => ⟨_, c3 z⟩, fun z => ⟨c4 z, c6 z⟩⟩ hM1) hM2 c1 (fun z => by rw [c3 z]; exact cvd_self (c7 z)) (fin _ _ _ np nq _ _ (Nat.le_refl _) c5)
set_option maxRecDepth 100000 in
set_option maxHeartbeats 2000000 in
theorem gc_back (hs : lwSys l D ad cy (some (Ln, xs)) N WC) (n : Nat) (hn : n ≤ N) (i : Nat) (hi : i + 5 ≤ Ln) (S : cS) (T : mS) (np nq : Nat) (hT : Tie S T np nq) (o : Nat → Int64) (od : Nat → UInt64) (fin : finG WC n i) : WC n (xL_L_law.drop 385) [some (.ref 1000), some (.ref 0), some (.ref 38), some (.ref 36), some (.ref 37), some (.int (nI i)), none, none, none, none] [] (lwW S T o od) := by
  generalize hb : decide (xs (i + 1) ≠ 0) = b
  have hM1 := n_back (l := l) (D := D) (ad := ad) (cy := cy) S hT.b2 hT.b3 b
  have hM2 := m_back (l := l) (D := D) (ad := ad38 ad) (cy := cy) T hT.b1 b
  cases b with
  | true => exact la_back hs n hn i hi S _ T _ o od true false hb.symm hM1 hM2 (fin _ _ _ np np _ _ (by omega) (tie_mark hT))
  | false => exact la_back hs n hn i hi S _ T _ o od false true hb.symm hM1 hM2 (fin _ _ _ nq nq _ _ (by omega) (tie_bring hT))
set_option maxRecDepth 100000 in
set_option maxHeartbeats 2000000 in
theorem gc_rest (hs : lwSys l D ad cy (some (Ln, xs)) N WC) (n : Nat) (hn : n ≤ N) (i : Nat) (hi : i + 5 ≤ Ln) (S : cS) (T : mS) (np nq : Nat) (hT : Tie S T np nq) (o : Nat → Int64) (od : Nat → UInt64) (fin : finG WC n i) : WC n (xL_L_law.drop 589) [some (.ref 1000), some (.ref 0), some (.ref 38), some (.ref 36), some (.ref 37), some (.int (nI i)), none, none, none, none] [] (lwW S T o od) := by
  exact la_rest hs n hn i hi S _ T _ o od _ _ (n_rest S) (m_rest T) (by rw [hT.lat.g1]; exact cvd_self hT.lat.g2) (fin _ _ _ np nq _ _ (by omega) (tie_S0 hT _))
set_option maxRecDepth 100000 in
set_option maxHeartbeats 2000000 in
theorem gc_energy (hs : lwSys l D ad cy (some (Ln, xs)) N WC) (n : Nat) (hn : n ≤ N) (i : Nat) (hi : i + 5 ≤ Ln) (S : cS) (T : mS) (np nq : Nat) (hT : Tie S T np nq) (o : Nat → Int64) (od : Nat → UInt64) (fin : finG WC n i) : WC n (xL_L_law.drop 610) [some (.ref 1000), some (.ref 0), some (.ref 38), some (.ref 36), some (.ref 37), some (.int (nI i)), none, none, none, none] [] (lwW S T o od) := by
  obtain ⟨a1, a2, a3, a4⟩ := tie_en hT
  exact la_energy hs n hn i hi S _ T _ o od _ _ (n_energy S np hT.now.c1 hT.now.n24 a1) (m_energy T np hT.now.c2 hT.now.n24 a2) (by rw [a3]; exact cvd_self a4) (fin _ _ _ np nq _ _ (by omega) (tie_S0 hT _))
set_option maxRecDepth 100000 in
set_option maxHeartbeats 2000000 in
theorem gc_drift (hs : lwSys l D ad cy (some (Ln, xs)) N WC) (n : Nat) (hn : n ≤ N) (i : Nat) (hi : i + 5 ≤ Ln) (S : cS) (T : mS) (np nq : Nat) (hT : Tie S T np nq) (o : Nat → Int64) (od : Nat → UInt64) (fin : finG WC n i) : WC n (xL_L_law.drop 631) [some (.ref 1000), some (.ref 0), some (.ref 38), some (.ref 36), some (.ref 37), some (.int (nI i)), none, none, none, none] [] (lwW S T o od) := by
  obtain ⟨a1, a2, a3, a4, a5⟩ := tie_dr hT (xs (i + 1))
  exact la_drift hs n hn i hi S _ T _ o od _ _ (n_drift S np hT.now.c1 hT.now.n24 (xs (i + 1)) a1 (fun _ => a2)) (m_drift T np hT.now.c2 hT.now.n24 (xs (i + 1)) _ rfl a4 (fun _ => a5)) (f2d_nn a2) (f2d_nn a5) (by rw [a3]; exact cvd_self (f2d_nn a5)) (fin _ _ _ np nq _ _ (by omega) (tie_S0 hT _))
set_option maxRecDepth 100000 in
set_option maxHeartbeats 2000000 in
theorem gc_count (hs : lwSys l D ad cy (some (Ln, xs)) N WC) (n : Nat) (hn : n ≤ N) (i : Nat) (hi : i + 5 ≤ Ln) (S : cS) (T : mS) (np nq : Nat) (hT : Tie S T np nq) (o : Nat → Int64) (od : Nat → UInt64) (fin : finG WC n i) : WC n (xL_L_law.drop 664) [some (.ref 1000), some (.ref 0), some (.ref 38), some (.ref 36), some (.ref 37), some (.int (nI i)), none, none, none, none] [] (lwW S T o od) := by
  have hM1 := n_count (l := l) (D := D) (ad := ad) (cy := cy) S np hT.now.c1 hT.now.n24 (xs (i + 1))
  have hM2 := m_count (l := l) (D := D) (ad := ad38 ad) (cy := cy) T np hT.now.c2 hT.now.n24 (tie_inP hT) (xs (i + 1))
  rw [← tie_count hT] at hM2
  exact la_count hs n hn i hi S _ T _ o od _ hM1 hM2 (fin _ _ _ np nq _ _ (by omega) (tie_A10 hT _))
/-- from any tied worlds, at the loop's head, to the end -/
theorem law_loop (hst : l.stackTraces = false) (hstep : stepT) (hs : lwSys l D ad cy (some (Ln, xs)) N WC) (hL : Ln < 2 ^ 31 - 5) (hN : Ln ≤ 5 * N + 4) : ∀ (k n i : Nat), Ln < i + 5 * k → i ≤ Ln → 5 * n ≤ i → ∀ (S : cS) (T : mS) (np nq : Nat) (o : Nat → Int64) (od : Nat → UInt64), Tie S T np nq → WC n (xL_L_law.drop 16) [some (.ref 1000), some (.ref 0), some (.ref 38), some (.ref 36), some (.ref 37), some (.int (nI i)), none, none, none, none] [] (lwW S T o od)
  | 0, n, i, h1, h3, h2 => absurd h3 (by omega)
  | k + 1, n, i, h1, h3, h2 => fun S T np nq o od hT => by
    by_cases hi : i + 5 ≤ Ln
    · have fin : finG WC n i := fun m S T np nq o od hm hT => la_next hs m (by omega) i S T o od (law_loop hst hstep hs hL hN k m (i + 5) (by omega) (by omega) (by omega) S T np nq o od hT)
      exact la_head hs n (by omega) i hi (by omega) S T o od (fun _ => gc_solid hst hs n (by omega) i hi S T np nq hT o od fin) (fun _ => gc_add hst hs n (by omega) i hi S T np nq hT o od fin) (fun _ => gc_pull hst hs n (by omega) i hi S T np nq hT o od fin) (fun _ => gc_share hst hs n (by omega) i hi S T np nq hT o od fin) (fun _ => gc_solver hst hs n (by omega) i hi S T np nq hT o od fin) (fun _ => gc_step hst hstep hs n (by omega) i hi S T np nq hT o od fin) (fun _ => gc_back hs n (by omega) i hi S T np nq hT o od fin) (fun _ => gc_particle hst hs n (by omega) i hi S T np nq hT o od fin) (fun _ => gc_pressure hst hs n (by omega) i hi S T np nq hT o od fin) (fun _ => gc_face hst hs n (by omega) i hi S T np nq hT o od fin) (fun _ => gc_rest hs n (by omega) i hi S T np nq hT o od fin) (fun _ => gc_energy hs n (by omega) i hi S T np nq hT o od fin) (fun _ => gc_drift hs n (by omega) i hi S T np nq hT o od fin) (fun _ => gc_count hs n (by omega) i hi S T np nq hT o od fin) (fin _ _ _ np nq _ _ (by omega) hT)
    · exact la_end hs n (by omega) i (by omega) hL (by omega) S T o od
end T6
