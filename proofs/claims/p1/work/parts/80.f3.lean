/-! the reference's step of the fresh object -/
abbrev uA : mS := stA (mI' T00 0 (nI 0)) 0
abbrev uB : mS := stB uA 0
theorem uA_10 (c : Nat) : mA uA 10 c = 0 := by
  show fluR (mF T00 3) (fun _ => 0) 0 c = 0
  unfold fluR
  split <;> rfl
theorem uB_12 (f : Nat) : mD uB 12 f = FP.dconst0 := by
  show filR (gatG (mF T00 3) 0) (fun _ => 0) 84 f = _
  unfold filR
  split
  · unfold gatG; exact gF_0 _ _ _ _ _
  · rfl
theorem uC_13 {t : UInt64} (ht : mgd 1056 t) (f : Nat) : mgd 1061 (mD (stC uB t) 13 f) := by
  show mgd 1061 (filR (frcG (mD uB 12) (mA T00 1) t (mD T00 4 0)) (fun _ => 0) 84 f)
  unfold filR
  split
  · unfold frcG
    split
    · exact m_d0 _ (by omega)
    · split
      · rw [uB_12]; exact m_d0 _ (by omega)
      · rw [uB_12]; exact mgd_add (K := 1059) (by omega) (m_d0 _ (by omega)) (pq_m ht)
  · exact m_d0 1061 (by omega)
theorem tk_0 {sol fl : Nat → Int32} (h : ∀ c, fl c = 0) (c : Nat) : tkB sol fl c = false := by
  unfold tkB
  rw [if_pos (h c)]
theorem near_0 {tk : Nat → Int32} (h : ∀ c, c < 36 → tk c = 0) (c w : Nat) : nearI tk c w < 0 := by
  unfold nearI nrI
  by_cases hi : inB (nI (c % 6) + dxI w) (nI (c / 6) + dyI w) = true
  · rw [if_pos hi]
    generalize nI (c % 6) + dxI w = x at hi
    generalize nI (c / 6) + dyI w = y at hi
    obtain ⟨i, j, hi6, hj6, rfl, rfl⟩ := inB_nI hi
    rw [nI_clamp (by omega), nI_clamp (by omega), if_pos (h _ (by omega))]
    decide
  · rw [if_neg hi]
    decide
theorem stOk1_0 {t : UInt64} (ht : mgd 1056 t) : gaOk uA 0 ∧ foOk uB t ∧ mxOk (stC uB t) := by
  refine ⟨fun f _ => gOkF_0 _ _ _ _ _, fun f _ _ => ⟨mgd_n (by omega) (pq_m ht), ?_⟩, ⟨fun c _ => ?_, fun c hc => ?_⟩⟩
  · rw [uB_12]
    exact mgd_n (by omega) (mgd_add (K := 1059) (by omega) (m_d0 _ (by omega)) (pq_m ht))
  · have h1 : mgd 1063 (ot1 (mD (stC uB t) 13) c) := mgd_sub (K := 1061) (by omega) (uC_13 ht _) (uC_13 ht _)
    have h2 : mgd 1065 (ot2 (mD (stC uB t) 13) c) := mgd_add (K := 1063) (by omega) h1 (mgd_up (uC_13 ht _) (by omega))
    have h3 : mgd 1067 (outF (mD (stC uB t) 13) c) := mgd_sub (K := 1065) (by omega) h2 (mgd_up (uC_13 ht _) (by omega))
    refine ⟨mgd_n (by omega) h1, mgd_n (by omega) h2, mgd_n (by omega) h3, fun h => ?_⟩
    rw [tk_0 (fl := mA (stC uB t) 10) uA_10] at h
    cases h
  · have h11 : ∀ c, c < 36 → mA (mx1 (stC uB t) 36) 11 c = 0 := fun c hc => by
      show filR (tkG (mA T00 1) (mA uA 10)) (fun _ => 0) 36 c = 0
      unfold filR
      rw [if_pos hc]
      unfold tkG
      rw [tk_0 uA_10]
      rfl
    refine ⟨fun h => absurd (near_0 h11 _ _) h, fun h => absurd (near_0 h11 _ _) h, ?_⟩
    have hd : mgd 1056 (mD (mx1 (stC uB t) 36) 14 c) := by
      show mgd 1056 (filR (dgG (mA T00 1)) (fun _ => 0) 36 c)
      unfold filR
      rw [if_pos hc]
      exact FP.Core.i2d_mag _
    have h2 : mgd 1022 4598175219545276416 := by unfold mgd; decide
    exact mgd_n (by omega) (mgd_mul (K := 1022) (M := 1056) (by omega) (by omega) h2 hd)
theorem uX_17 (t : UInt64) (c : Nat) (hc : c < 36) : mD (stX T00 0 t) 17 c = FP.dconst0 := by
  show filR (rG (mA T00 1) (mA uA 10) (mD (stC uB t) 13)) (fun _ => 0) 36 c = _
  unfold filR
  rw [if_pos hc]
  unfold rG
  rw [tk_0 uA_10]
  rfl
theorem sv_00 (V : mS) (R : Nat) (h : ∀ c, c < 36 → mD V 17 c = FP.dconst0) (hl : ¬ 0 < cvd FP.dconst0 (mD V 6 0) .g) : svF V R = (nI 0, V) ∧ sfOk V R := by
  have e := rsF_0 36 h
  refine ⟨?_, fun c hc => ?_, fun h1 => ?_⟩
  · unfold svF
    rw [e, if_neg hl]
  · rw [h c hc]
    have : amtF FP.dconst0 = FP.dconst0 := by decide +kernel
    rw [this]
    exact n_d0
  · rw [e] at h1
    exact absurd h1 hl
theorem st2_00 (V : mS) (t : UInt64) (h10 : ∀ c, mA V 10 c = 0) (h17 : ∀ c, c < 36 → mD V 17 c = FP.dconst0) : stOk2 V 0 t := by
  refine ⟨fun f _ _ h => ?_, fun k hk => absurd hk (by omega), fun k hk => absurd hk (by omega), fun c hc => ?_⟩
  · rcases h with h | h
    · exact absurd (h10 _) h
    · exact absurd (h10 _) h
  · show vf_n64 (amtF (mD V 17 c))
    rw [h17 c hc]
    have : amtF FP.dconst0 = FP.dconst0 := by decide +kernel
    rw [this]
    exact n_d0
theorem mst_0 {t : UInt64} (ht : mgd 1056 t) : svF (stX T00 0 t) 20 = (nI 0, stX T00 0 t) ∧ stOk T00 0 20 t := by
  obtain ⟨e1, e2⟩ := sv_00 (stX T00 0 t) 20 (uX_17 t) (show ¬ 0 < cvd FP.dconst0 (mD T00 6 0) .g by decide +kernel)
  obtain ⟨g1, g2, g3⟩ := stOk1_0 ht
  refine ⟨e1, fun _ => ⟨⟨g1, g2, g3, e2⟩, fun _ => ?_⟩⟩
  rw [e1]
  exact st2_00 _ t uA_10 (uX_17 t)
/-- the reference's step of the fresh object: its answer, and what it says it threw -/
theorem rst_0 {t : UInt64} (ht : mgd 1056 t) : (okT t = true → (rStep T00 0 20 t).1 = nI 0 ∧ mI (rStep T00 0 20 t).2 0 = nI 0) ∧ (okT t = false → mI (rStep T00 0 20 t).2 0 = nI 1) := by
  obtain ⟨e1, -⟩ := mst_0 ht
  refine ⟨fun h => ?_, fun h => by unfold rStep; rw [h]; rfl⟩
  unfold rStep
  rw [if_pos h, e1]
  have h0 : mI (stX T00 0 t) 0 = nI 0 := rfl
  generalize stX T00 0 t = P at h0
  rw [if_pos (show (0 : Int32) ≤ (nI 0, P).1 from Int32.le_refl _)]
  exact ⟨rfl, h0⟩
