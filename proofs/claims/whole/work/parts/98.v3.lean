/-! step, tied: the solver's set-up, whole; what stays as it was -/
def frS (S V : cS) : Prop := V.1 = S.1 ∧ V.2.1 = S.2.1 ∧ V.2.2.1 = S.2.2.1 ∧ (∀ p, p < 27 → cA V p = cA S p) ∧ V.2.2.2.2.1 = S.2.2.2.2.1 ∧ (∀ p, (p < 27 ∨ 34 < p) → cD V p = cD S p)
theorem frS_t {A B C : cS} (a : frS A B) (b : frS B C) : frS A C := ⟨b.1.trans a.1, b.2.1.trans a.2.1, b.2.2.1.trans a.2.2.1, fun p hp => (b.2.2.2.1 p hp).trans (a.2.2.2.1 p hp), b.2.2.2.2.1.trans a.2.2.2.2.1, fun p hp => (b.2.2.2.2.2 p hp).trans (a.2.2.2.2.2 p hp)⟩
theorem frS_D (S : cS) {q : Nat} (f : Nat → UInt64) (hq : 27 ≤ q ∧ q ≤ 34) : frS S (cD' S q f) := ⟨rfl, rfl, rfl, fun _ _ => rfl, rfl, fun p hp => by show mu S.2.2.2.2.2 q f p = _; rw [mu_ne _ _ (by omega)]⟩
theorem frS_A (S : cS) (f : Nat → Int32) : frS S (cA' S 27 f) := ⟨rfl, rfl, rfl, fun p hp => by show mu S.2.2.2.1 27 f p = _; rw [mu_ne _ _ (by omega)], rfl, fun _ _ => rfl⟩
theorem frS_r (S : cS) : frS S S := ⟨rfl, rfl, rfl, fun _ _ => rfl, rfl, fun _ _ => rfl⟩
theorem frS_zr (S : cS) : frS S (zrS S 36) := by
  unfold zrS
  exact frS_t (frS_t (frS_t (frS_t (frS_t (frS_t (frS_t (frS_A S _) (frS_D _ _ (by omega))) (frS_D _ _ (by omega))) (frS_D _ _ (by omega))) (frS_D _ _ (by omega))) (frS_D _ _ (by omega))) (frS_D _ _ (by omega))) (frS_D _ _ (by omega))
theorem frS_su (S : cS) (np i j : Nat) : frS S (suF S np i j) := by
  unfold suF
  split
  · exact frS_t (frS_t (frS_t (frS_A S _) (frS_D _ _ (by omega))) (frS_D _ _ (by omega))) (frS_D _ _ (by omega))
  · exact frS_r S
theorem frS_suR (S : cS) (np : Nat) : ∀ c, frS S (suR S np c)
  | 0 => frS_r S
  | c + 1 => frS_t (frS_suR S np c) (frS_su _ np _ _)
theorem frC_frS {S V : cS} (h : frC S V) : frS S V := ⟨h.1, h.2.1, h.2.2.1, fun p _ => by show V.2.2.2.1 p = _; rw [h.2.2.2.1], h.2.2.2.2.1, fun p hp => h.2.2.2.2.2 p (by omega)⟩
theorem suK_0 (B : cS) : suK B (zrS B 36) := by
  obtain ⟨-, -, -, a, b, c⟩ := frS_zr B
  exact ⟨a 11 (by omega), b, fun p hp => c p (Or.inl hp)⟩
theorem suI_0 (B : cS) (X : mS) : suI (zrS B 36) X 0 := by
  refine ⟨fun d hd => absurd hd (by omega), fun d hd => absurd hd (by omega), fun d hd => absurd hd (by omega), fun d hd _ => ⟨?_, ?_⟩, fun d hd => ⟨?_, ?_⟩⟩
  · exact fil_in (fun _ => xb false) (cA B 27) hd
  · exact fil_in (fun _ => FP.dconst0) (cD B 31) hd
  · exact fil_in (fun _ => FP.dconst0) (cD B 30) hd
  · exact fil_in (fun _ => FP.dconst0) (cD B 33) hd
theorem su_loop {B : cS} {X : mS} {np : Nat} (hs : ∀ d, d < 36 → cA B 11 d = mA X 1 d) (hf : ∀ d, d < 36 → mA X 10 d = xb (flC B np d)) (hg : grT B X) (ok : mxOk X) : ∀ c, c ≤ 36 → suK B (suR (zrS B 36) np c) ∧ suI (suR (zrS B 36) np c) X c ∧ (∀ d, d < c → suOk (suR (zrS B 36) np d) np (d % 6) (d / 6))
  | 0, _ => ⟨suK_0 B, suI_0 B X, fun d hd => absurd hd (by omega)⟩
  | c + 1, hc => by
    obtain ⟨a1, a2, a3⟩ := su_loop hs hf hg ok c (by omega)
    obtain ⟨b1, b2, b3⟩ := su_step a1 a2 hs hf hg ok (by omega)
    refine ⟨b1, b2, fun d hd => ?_⟩
    by_cases e : d = c
    · rw [e]; exact b3
    · exact a3 d (by omega)
theorem su_tie {B : cS} {X : mS} {np : Nat} (hs : ∀ d, d < 36 → cA B 11 d = mA X 1 d) (hf : ∀ d, d < 36 → mA X 10 d = xb (flC B np d)) (hg : grT B X) (ok : mxOk X) : slT (suR (zrS B 36) np 36) (mx2 X) ∧ suOkF B np := by
  obtain ⟨-, ⟨i1, i2, i3, i4, i5⟩, a3⟩ := su_loop hs hf hg ok 36 (Nat.le_refl 36)
  generalize suR (zrS B 36) np 36 = V at i1 i2 i3 i4 i5 ⊢
  exact ⟨⟨i1, fun c hc h0 => (i2 c hc h0).1, fun c hc h0 => (i2 c hc h0).2, fun c hc => by rw [(i5 c hc).1, m16 X hc], i3, fun c hc _ => (i5 c hc).2⟩, fun c hc => a3 c hc⟩
/-- what building the grids leaves as it was -/
def frB (S V : cS) : Prop := V.1 = S.1 ∧ V.2.1 = S.2.1 ∧ V.2.2.1 = S.2.2.1 ∧ V.2.2.2.1 = S.2.2.2.1 ∧ V.2.2.2.2.1 = S.2.2.2.2.1 ∧ (∀ p, (p < 21 ∨ 24 < p) → cD V p = cD S p)
theorem frB_t {A B C : cS} (a : frB A B) (b : frB B C) : frB A C := ⟨b.1.trans a.1, b.2.1.trans a.2.1, b.2.2.1.trans a.2.2.1, b.2.2.2.1.trans a.2.2.2.1, b.2.2.2.2.1.trans a.2.2.2.2.1, fun p hp => (b.2.2.2.2.2 p hp).trans (a.2.2.2.2.2 p hp)⟩
theorem frB_D (S : cS) {q : Nat} (f : Nat → UInt64) (hq : 21 ≤ q ∧ q ≤ 24) : frB S (cD' S q f) := ⟨rfl, rfl, rfl, rfl, rfl, fun p hp => by show mu S.2.2.2.2.2 q f p = _; rw [mu_ne _ _ (by omega)]⟩
theorem frB_bg (S : cS) (np : Nat) (t : UInt64) : frB S (bgS S np t) := by
  unfold bgS bg4
  exact frB_t (frB_t (frB_t (frB_t (frB_t (frB_t (frB_D S _ (by omega)) (frB_D _ _ (by omega))) (frB_D _ _ (by omega))) (frB_D _ _ (by omega))) (frB_D _ _ (by omega))) (frB_D _ _ (by omega))) (frB_D _ _ (by omega))
theorem gr_cg {S S' : cS} {T T' : mS} (h : grT S T) (h1 : ∀ p, 21 ≤ p → p ≤ 24 → cD S' p = cD S p) (h2 : mD T' 12 = mD T 12) (h3 : mD T' 13 = mD T 13) : grT S' T' := by
  unfold grT at h ⊢
  rw [h1 21 (by omega) (by omega), h1 22 (by omega) (by omega), h1 23 (by omega) (by omega), h1 24 (by omega) (by omega), h2, h3]
  exact h
/-- before the pressure is found -/
theorem pre_tie {S : cS} {T : mS} {np nq R : Nat} (h : Tie S T np nq) {t : UInt64} (ok : stOk1 T np R t) : slT (spA S np t) (stX T np t) ∧ grT (spA S np t) (stX T np t) ∧ spOk S np R t ∧ svR (fpF (spA S np t) (cG S 1) R) (svF (stX T np t) R) (spA S np t) (stX T np t) := by
  obtain ⟨o1, o2, o3, o4⟩ := ok
  have hb := bg_tie h.now t
  have fb := frB_bg S np t
  have hs : ∀ d, d < 36 → cA (bgS S np t) 11 d = mA (stC (stB (stA (mI' T 0 (nI 0)) np) np) t) 1 d := fun d hd => by
    show (bgS S np t).2.2.2.1 11 d = mA T 1 d
    rw [fb.2.2.2.1]
    exact h.now.s1 d hd
  have hf : ∀ d, d < 36 → mA (stC (stB (stA (mI' T 0 (nI 0)) np) np) t) 10 d = xb (flC (bgS S np t) np d) := fun d hd => by
    have e : flC (bgS S np t) np d = flC S np d := by
      show flB ((bgS S np t).2.2.2.1 11) ((bgS S np t).2.2.2.2.1 12) ((bgS S np t).2.2.2.2.1 13) np _ _ = _
      rw [fb.2.2.2.1, fb.2.2.2.2.1]
    rw [e, now_fl h.now hd]
    exact flu_at (now_in h.now) hd np (Nat.le_refl np)
  obtain ⟨s1, s2⟩ := su_tie hs hf hb o3
  have s1 : slT (spA S np t) (stX T np t) := s1
  have fp := fp_tie (S := spA S np t) (T := stX T np t) (cG S 1) (show mD T 6 0 = cG S 1 from h.now.e3.symm) s1 R o4
  have fs : frS (bgS S np t) (spA S np t) := frS_t (frS_zr _) (frS_suR _ np 36)
  exact ⟨s1, gr_cg hb (fun p h1 h2 => fs.2.2.2.2.2 p (by omega)) rfl rfl, ⟨bgOk_tie h.now t o1 o2, s2, fp.2⟩, fp.1⟩
