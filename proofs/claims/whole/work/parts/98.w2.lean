/-! step, tied -/
theorem c_frame {S V : cS} {np : Nat} {t : UInt64} (h : frC (spA S np t) V) : V.1 = S.1 ∧ V.2.1 = S.2.1 ∧ V.2.2.1 = S.2.2.1 ∧ (∀ p, p < 27 → cA V p = cA S p) ∧ V.2.2.2.2.1 = S.2.2.2.2.1 ∧ (∀ p, (p = 25 ∨ p = 26 ∨ p = 35) → cD V p = cD S p) := by
  obtain ⟨b1, b2, b3, b4, b5, b6⟩ := frB_bg S np t
  have fs : frS (bgS S np t) (spA S np t) := frS_t (frS_zr _) (frS_suR _ np 36)
  obtain ⟨s1, s2, s3, s4, s5, s6⟩ := fs
  obtain ⟨c1, c2, c3, c4, c5, c6⟩ := h
  refine ⟨c1.trans (s1.trans b1), c2.trans (s2.trans b2), c3.trans (s3.trans b3), fun p hp => ?_, c5.trans (s5.trans b5), fun p hp => ?_⟩
  · have e1 : cA V p = cA (spA S np t) p := by show V.2.2.2.1 p = _; rw [c4]
    have e2 : cA (bgS S np t) p = cA S p := by show (bgS S np t).2.2.2.1 p = _; rw [b4]
    exact e1.trans ((s4 p hp).trans e2)
  · exact (c6 p (by omega)).trans ((s6 p (by omega)).trans (b6 p (by omega)))
theorem m_frame {T W : mS} {np : Nat} {t : UInt64} (h : frM (stX T np t) W) : W.1 = mu T.1 0 (nI 0) ∧ W.2.1 = T.2.1 ∧ (∀ p, p ≠ 10 → p ≠ 11 → mA W p = mA T p) ∧ W.2.2.2.1 = T.2.2.2.1 ∧ (∀ p, p < 12 → mD W p = mD T p) := by
  obtain ⟨a1, a2, a3, a4, a5⟩ := h
  refine ⟨a1, a2, fun p h1 h2 => ?_, a4, fun p hp => ?_⟩
  · show W.2.2.1 p = _
    rw [a3]
    show mu (mu T.2.2.1 10 _) 11 _ p = _
    rw [mu_ne _ _ h2, mu_ne _ _ h1]
  · rw [a5 p (by omega)]
    show mu (mu (mu (mu (mu (mu T.2.2.2.2 12 _) 13 _) 14 _) 17 _) 16 _) 15 _ p = _
    rw [mu_ne _ _ (by omega), mu_ne _ _ (by omega), mu_ne _ _ (by omega), mu_ne _ _ (by omega), mu_ne _ _ (by omega), mu_ne _ _ (by omega)]
theorem tie_N {S V : cS} {T W : mS} {np nq : Nat} {t : UInt64} (h : Tie S T np nq) (hc : frC (spA S np t) V) (hm : frM (stX T np t) W) : Tie (spN V) (stN W) np nq := by
  obtain ⟨c1, c2, c3, c4, c5, c6⟩ := c_frame hc
  obtain ⟨m1, m2, m3, m4, m5⟩ := m_frame hm
  obtain ⟨I, G, H, A, F, D⟩ := V
  obtain ⟨J, K, B, E, Q⟩ := W
  have c1 : I = S.1 := c1
  have c2 : G = S.2.1 := c2
  have c3 : H = S.2.2.1 := c3
  have c5 : F = S.2.2.2.2.1 := c5
  have m1 : J = mu T.1 0 (nI 0) := m1
  have m2 : K = T.2.1 := m2
  have m4 : E = T.2.2.2.1 := m4
  subst c1 c2 c3 c5 m1 m2 m4
  have a11 : A 11 = cA S 11 := c4 11 (by omega)
  have a16 : A 16 = cA S 16 := c4 16 (by omega)
  have b1 : B 1 = mA T 1 := m3 1 (by omega) (by omega)
  have b2 : B 2 = mA T 2 := m3 2 (by omega) (by omega)
  have b7 : B 7 = mA T 7 := m3 7 (by omega) (by omega)
  have q4 : Q 4 = mD T 4 := m5 4 (by omega)
  have q6 : Q 6 = mD T 6 := m5 6 (by omega)
  have q8 : Q 8 = mD T 8 := m5 8 (by omega)
  have q9 : Q 9 = mD T 9 := m5 9 (by omega)
  have d25 : D 25 = cD S 25 := c6 25 (by omega)
  have d26 : D 26 = cD S 26 := c6 26 (by omega)
  have d35 : D 35 = cD S 35 := c6 35 (by omega)
  obtain ⟨h1, h2, h3, h4, h5, h6⟩ := h
  refine ⟨now_cg h1 rfl rfl rfl rfl rfl a11 (congrFun b2 0) b1 (congrFun q4 0) (congrFun q6 0) rfl (congrFun b7 0) h1.p1 h1.p2 h1.p3, mrk_cg h2 rfl rfl rfl rfl rfl a16 rfl rfl rfl rfl (congrFun b2 1) b1 (congrFun q4 1) (congrFun q6 1) rfl (congrFun b7 1) (fun _ _ => rfl), ?_, ?_, ?_, ?_⟩
  · show resT (D 25) (D 26) (D 35) (cG S 4) (cI S 4) (cI S 5 + nI 1) (Q 8) (Q 9) (mG T) (mI T 1) (mI T 2 + nI 1)
    rw [d25, d26, d35, q8, q9]
    exact ⟨h3.u1, h3.v1, h3.p1, h3.g1, h3.g2, h3.d1, by rw [h3.f1]⟩
  · show isB (B 1); rw [b1]; exact h4
  · show isB (A 11); rw [a11]; exact h5
  · show isB (A 16); rw [a16]; exact h6
