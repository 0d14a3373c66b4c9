/-! the two solvers tied: rows -/
theorem near_eq {tk tk' : Nat → Int32} (h : ∀ c, c < 36 → tk c = tk' c) (c w : Nat) : nearI tk c w = nearI tk' c w := by
  unfold nearI nrI
  generalize nI (c % 6) + dxI w = x
  generalize nI (c / 6) + dyI w = y
  by_cases hin : inB x y = true
  · obtain ⟨i, j, hi, hj, rfl, rfl⟩ := inB_nI hin
    rw [if_pos hin, if_pos hin, nI_clamp (by omega), nI_clamp (by omega), h _ (by omega)]
  · rw [if_neg hin, if_neg hin]
theorem near_xy {tk : Nat → Int32} {c w : Nat} (h : ¬ nearI tk c w < 0) : inB (nI (c % 6) + dxI w) (nI (c / 6) + dyI w) = true ∧ nearI tk c w = nI 6 * (nI (c / 6) + dyI w) + (nI (c % 6) + dxI w) := by
  unfold nearI nrI at h ⊢
  by_cases hin : inB (nI (c % 6) + dxI w) (nI (c / 6) + dyI w) = true
  · rw [if_pos hin] at h ⊢
    split at h
    · exact absurd (by decide) h
    · rename_i hq
      rw [if_neg hq]
      exact ⟨hin, rfl⟩
  · rw [if_neg hin] at h
    exact absurd (by decide) h
theorem near_dec : ∀ c : Fin 36, (inB (nI (c.val % 6) + dxI 0) (nI (c.val / 6) + dyI 0) = true → (nI 6 * (nI (c.val / 6) + dyI 0) + (nI (c.val % 6) + dxI 0)).toNatClampNeg < c.val) ∧ (inB (nI (c.val % 6) + dxI 2) (nI (c.val / 6) + dyI 2) = true → (nI 6 * (nI (c.val / 6) + dyI 2) + (nI (c.val % 6) + dxI 2)).toNatClampNeg < c.val) ∧ (inB (nI (c.val % 6) + dxI 1) (nI (c.val / 6) + dyI 1) = true → c.val < (nI 6 * (nI (c.val / 6) + dyI 1) + (nI (c.val % 6) + dxI 1)).toNatClampNeg) ∧ (inB (nI (c.val % 6) + dxI 3) (nI (c.val / 6) + dyI 3) = true → c.val < (nI 6 * (nI (c.val / 6) + dyI 3) + (nI (c.val % 6) + dxI 3)).toNatClampNeg) := by decide +kernel
theorem near_d {tk : Nat → Int32} {c w : Nat} (h : ¬ nearI tk c w < 0) : (nearI tk c w).toNatClampNeg < 36 ∧ tk (nearI tk c w).toNatClampNeg ≠ 0 := by
  obtain ⟨d, hd, e, ht⟩ := nearI_in h
  rw [e, nI_clamp (by omega)]
  exact ⟨hd, ht⟩
theorem near_lt0 {tk : Nat → Int32} {c : Nat} (hc : c < 36) (h : ¬ nearI tk c 0 < 0) : (nearI tk c 0).toNatClampNeg < c := by
  obtain ⟨a, b⟩ := near_xy h
  rw [b]
  exact (near_dec ⟨c, hc⟩).1 a
theorem near_lt2 {tk : Nat → Int32} {c : Nat} (hc : c < 36) (h : ¬ nearI tk c 2 < 0) : (nearI tk c 2).toNatClampNeg < c := by
  obtain ⟨a, b⟩ := near_xy h
  rw [b]
  exact (near_dec ⟨c, hc⟩).2.1 a
theorem near_gt1 {tk : Nat → Int32} {c : Nat} (hc : c < 36) (h : ¬ nearI tk c 1 < 0) : c < (nearI tk c 1).toNatClampNeg := by
  obtain ⟨a, b⟩ := near_xy h
  rw [b]
  exact (near_dec ⟨c, hc⟩).2.2.1 a
theorem near_gt3 {tk : Nat → Int32} {c : Nat} (hc : c < 36) (h : ¬ nearI tk c 3 < 0) : c < (nearI tk c 3).toNatClampNeg := by
  obtain ⟨a, b⟩ := near_xy h
  rw [b]
  exact (near_dec ⟨c, hc⟩).2.2.2 a
theorem tmV_eq {dg dg' s s' : Nat → UInt64} {tk tk' : Nat → Int32} (ht : ∀ c, c < 36 → tk c = tk' c) (hs : ∀ c, c < 36 → s c = s' c) {c : Nat} (hc : c < 36) (hd : dg c = dg' c) : ∀ w, tmV dg s tk c w = tmV dg' s' tk' c w
  | 0 => by rw [tmV, tmV, hd, hs c hc]
  | w + 1 => by
    rw [tmV, tmV, near_eq ht, tmV_eq ht hs hc hd w]
    by_cases h : nearI tk' c w < 0
    · rw [if_pos h, if_pos h]
    · rw [if_neg h, if_neg h, hs _ (near_d h).1]
theorem pr1_eq {z z' o o' : Nat → UInt64} (hz : ∀ c, c < 36 → z c = z' c) (ho : ∀ c, c < 36 → o c = o' c) {j : Nat} (hj : j < 6) : ∀ i, i ≤ 6 → pr1 z o j i = pr1 z' o' j i
  | 0, _ => rfl
  | i + 1, hi => by rw [pr1, pr1, pr1_eq hz ho hj i (by omega), hz _ (by omega), ho _ (by omega)]
theorem prd_eq {z z' o o' : Nat → UInt64} (hz : ∀ c, c < 36 → z c = z' c) (ho : ∀ c, c < 36 → o c = o' c) : ∀ j, j ≤ 6 → prd z o j = prd z' o' j
  | 0, _ => rfl
  | j + 1, hj => by rw [prd, prd, prd_eq hz ho j (by omega), pr1_eq hz ho (by omega) 6 (by omega)]
theorem prOk_eq {z z' o o' : Nat → UInt64} (hz : ∀ c, c < 36 → z c = z' c) (ho : ∀ c, c < 36 → o c = o' c) (h : prOk z' o') : prOk z o := fun j hj => by
  obtain ⟨h1, h2⟩ := h j hj
  refine ⟨fun i hi => ?_, ?_⟩
  · rw [hz _ (by omega), ho _ (by omega), pr1_eq hz ho hj (i + 1) (by omega)]
    exact h1 i hi
  · rw [prd_eq hz ho (j + 1) (by omega)]
    exact h2
theorem fw1_eq {r r' mk mk' h h' : Nat → UInt64} {tk tk' : Nat → Int32} (ht : ∀ c, c < 36 → tk c = tk' c) {c : Nat} (hc : c < 36) (hr : r c = r' c) (hm : ∀ d, d < c → tk' d ≠ 0 → mk d = mk' d ∧ h d = h' d) : fw1 r mk h tk c = fw1 r' mk' h' tk' c := by
  unfold fw1
  rw [near_eq ht, hr]
  by_cases hn : nearI tk' c 0 < 0
  · rw [if_pos hn, if_pos hn]
  · obtain ⟨m1, m2⟩ := hm _ (near_lt0 hc hn) (near_d hn).2
    rw [if_neg hn, if_neg hn, m1, m2]
theorem fw2_eq {r r' mk mk' h h' : Nat → UInt64} {tk tk' : Nat → Int32} (ht : ∀ c, c < 36 → tk c = tk' c) {c : Nat} (hc : c < 36) (hr : r c = r' c) (hm : ∀ d, d < c → tk' d ≠ 0 → mk d = mk' d ∧ h d = h' d) : fw2 r mk h tk c = fw2 r' mk' h' tk' c := by
  unfold fw2
  rw [near_eq ht, fw1_eq ht hc hr hm]
  by_cases hn : nearI tk' c 2 < 0
  · rw [if_pos hn, if_pos hn]
  · obtain ⟨m1, m2⟩ := hm _ (near_lt2 hc hn) (near_d hn).2
    rw [if_neg hn, if_neg hn, m1, m2]
theorem fwOk_eq {r r' mk mk' h h' : Nat → UInt64} {tk tk' : Nat → Int32} (ht : ∀ c, c < 36 → tk c = tk' c) {c : Nat} (hc : c < 36) (hr : r c = r' c) (hm : ∀ d, d < c → tk' d ≠ 0 → mk d = mk' d ∧ h d = h' d) (ok : fwOk r' mk' h' tk' c) : fwOk r mk h tk c := by
  unfold fwOk at ok ⊢
  rw [near_eq ht, near_eq ht, fw1_eq ht hc hr hm, fw2_eq ht hc hr hm]
  refine ⟨fun hn => ?_, fun hn => ?_⟩
  · obtain ⟨m1, m2⟩ := hm _ (near_lt0 hc hn) (near_d hn).2
    rw [m1, m2]
    exact ok.1 hn
  · obtain ⟨m1, m2⟩ := hm _ (near_lt2 hc hn) (near_d hn).2
    rw [m1, m2]
    exact ok.2 hn
theorem fw_tie {S : cS} {T : mS} (ht : ∀ c, c < 36 → cA S 27 c = mA T 11 c) (hr : ∀ c, c < 36 → cD S 31 c = mD T 17 c) (hm : ∀ c, c < 36 → mA T 11 c ≠ 0 → cD S 29 c = mD T 15 c) : ∀ n, n ≤ 36 → ∀ d, d < n → mA T 11 d ≠ 0 → fwC S n d = mkH T n d
  | 0, _, d, hd, _ => absurd hd (by omega)
  | n + 1, hn, d, hd, h0 => by
    have ih := fw_tie ht hr hm n (by omega)
    show (if cA S 27 n = 0 then fwC S n else vf_upd (fwC S n) n (fw2 (cD S 31) (cD S 29) (fwC S n) (cA S 27) n)) d = vf_upd (mkH T n) n (fwV (mD T 17) (mD T 15) (mkH T n) (mA T 11) n) d
    rw [ht n (by omega)]
    by_cases e : d = n
    · subst e
      rw [if_neg h0, vu_at, vu_at, if_pos rfl, if_pos rfl]
      unfold fwV
      rw [if_neg h0]
      exact fw2_eq ht (by omega) (hr d (by omega)) (fun k hk h1 => ⟨hm k (by omega) h1, ih k hk h1⟩)
    · rw [vu_at, if_neg e]
      by_cases h2 : mA T 11 n = 0
      · rw [if_pos h2]
        exact ih d (by omega) h0
      · rw [if_neg h2, vu_at, if_neg e]
        exact ih d (by omega) h0
theorem bw_eq {h h' mk mk' z z' : Nat → UInt64} {tk tk' : Nat → Int32} (ht : ∀ c, c < 36 → tk c = tk' c) {c : Nat} (hc : c < 36) (hh : tk' c ≠ 0 → h c = h' c ∧ mk c = mk' c) (hz : ∀ d, d < 36 → c < d → tk' d ≠ 0 → z d = z' d) : bw0 h mk tk c = bw0 h' mk' tk' c ∧ bw1 h mk z tk c = bw1 h' mk' z' tk' c ∧ bwV h mk z tk c = bwV h' mk' z' tk' c := by
  have e0 : bw0 h mk tk c = bw0 h' mk' tk' c := by
    unfold bw0
    rw [ht c hc]
    by_cases h0 : tk' c = 0
    · rw [if_pos h0, if_pos h0]
    · rw [if_neg h0, if_neg h0, (hh h0).1, (hh h0).2]
  have e1 : bw1 h mk z tk c = bw1 h' mk' z' tk' c := by
    unfold bw1
    rw [ht c hc, near_eq ht, e0]
    by_cases h0 : tk' c = 0
    · rw [if_pos h0, if_pos h0]
    · rw [if_neg h0, if_neg h0]
      by_cases hn : nearI tk' c 1 < 0
      · rw [if_pos hn, if_pos hn]
      · rw [if_neg hn, if_neg hn, (hh h0).2, hz _ (near_d hn).1 (near_gt1 hc hn) (near_d hn).2]
  refine ⟨e0, e1, ?_⟩
  unfold bwV
  rw [ht c hc, near_eq ht, e1]
  by_cases h0 : tk' c = 0
  · rw [if_pos h0, if_pos h0]
  · rw [if_neg h0, if_neg h0]
    by_cases hn : nearI tk' c 3 < 0
    · rw [if_pos hn, if_pos hn]
    · rw [if_neg hn, if_neg hn, (hh h0).2, hz _ (near_d hn).1 (near_gt3 hc hn) (near_d hn).2]
theorem bwOk_eq {h h' mk mk' z z' : Nat → UInt64} {tk tk' : Nat → Int32} (ht : ∀ c, c < 36 → tk c = tk' c) {c : Nat} (hc : c < 36) (hh : tk' c ≠ 0 → h c = h' c ∧ mk c = mk' c) (hz : ∀ d, d < 36 → c < d → tk' d ≠ 0 → z d = z' d) (ok : bwOk h' mk' z' tk' c) : bwOk h mk z tk c := by
  obtain ⟨-, e1, e2⟩ := bw_eq ht hc hh hz
  unfold bwOk at ok ⊢
  rw [ht c hc, near_eq ht, near_eq ht, e1, e2]
  refine ⟨fun h0 => ?_, fun h0 hn => ?_, fun h0 hn => ?_⟩
  · rw [(hh h0).1, (hh h0).2]
    exact ok.1 h0
  · rw [(hh h0).2, hz _ (near_d hn).1 (near_gt1 hc hn) (near_d hn).2]
    exact ok.2.1 h0 hn
  · rw [(hh h0).2, hz _ (near_d hn).1 (near_gt3 hc hn) (near_d hn).2]
    exact ok.2.2 h0 hn
theorem bw_tie {S : cS} {T : mS} (ht : ∀ c, c < 36 → cA S 27 c = mA T 11 c) (hm : ∀ c, c < 36 → mA T 11 c ≠ 0 → cD S 29 c = mD T 15 c) (hh : ∀ c, c < 36 → mA T 11 c ≠ 0 → cD S 32 c = mkH T 36 c) (h0 : ∀ c, c < 36 → mA T 11 c = 0 → cD S 33 c = FP.dconst0) : ∀ n, n ≤ 36 → (∀ d, d < 36 → 36 - n ≤ d → bwC S n d = mkZr T n d) ∧ (∀ d, d < 36 → mA T 11 d = 0 → bwC S n d = FP.dconst0)
  | 0, _ => ⟨fun d hd h => absurd hd (by omega), h0⟩
  | n + 1, hn => by
    obtain ⟨ih, ih0⟩ := bw_tie ht hm hh h0 n (by omega)
    have ez : bwC S (n + 1) = if cA S 27 (35 - n) = 0 then bwC S n else vf_upd (bwC S n) (35 - n) (bwV (cD S 32) (cD S 29) (bwC S n) (cA S 27) (35 - n)) := rfl
    have er : mkZr T (n + 1) = vf_upd (mkZr T n) (35 - n) (bwV (mkH T 36) (mD T 15) (mkZr T n) (mA T 11) (35 - n)) := rfl
    rw [ez, er, ht (35 - n) (by omega)]
    refine ⟨fun d hd hl => ?_, fun d hd hl => ?_⟩
    · by_cases e : d = 35 - n
      · rw [vu_at, if_pos e]
        by_cases h2 : mA T 11 (35 - n) = 0
        · rw [if_pos h2, e, ih0 _ (by omega) h2]
          unfold bwV bw1 bw0
          rw [if_pos h2, if_pos h2, if_pos h2]
        · rw [if_neg h2, vu_at, if_pos e]
          exact (bw_eq ht (by omega) (fun z => ⟨hh _ (by omega) z, hm _ (by omega) z⟩) (fun k hk hk2 _ => ih k hk (by omega))).2.2
      · rw [vu_at, if_neg e]
        by_cases h2 : mA T 11 (35 - n) = 0
        · rw [if_pos h2]
          exact ih d hd (by omega)
        · rw [if_neg h2, vu_at, if_neg e]
          exact ih d hd (by omega)
    · by_cases h2 : mA T 11 (35 - n) = 0
      · rw [if_pos h2]
        exact ih0 d hd hl
      · rw [if_neg h2, vu_at, if_neg (fun e => h2 (by rw [← e]; exact hl))]
        exact ih0 d hd hl
