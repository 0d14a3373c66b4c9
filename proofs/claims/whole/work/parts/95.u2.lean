/-! the two solvers tied: their steps -/
theorem mu_ne {α : Type} (f : Nat → α) {k j : Nat} (v : α) (h : j ≠ k) : mu f k v j = f j := by
  unfold mu
  have e : Nat.beq j k = false := by
    cases hb : Nat.beq j k with
    | false => rfl
    | true => exact absurd (Nat.eq_of_beq_eq_true hb) h
  rw [e]
theorem amt_eq (x : UInt64) : amtF x = amtC x := by
  unfold amtF amtC
  by_cases h : 0 ≤ cvd x FP.dconst0 .g
  · rw [if_pos h, if_pos h]
  · rw [if_neg h, if_neg h]
    have hx : FP.Core.val64 x ≠ .nan := fun hn => h (by
      unfold cvd
      rw [show FP.dcmp x FP.dconst0 = none from (FP.Core.dcmp_none x FP.dconst0).mpr (Or.inl hn)]
      decide)
    have e1 : FP.dneg x = FP.Core.dneg x := FP.dneg_core ((FP.Core.notNaN_iff x).mpr hx)
    have e2 : FP.dsub FP.dconst0 x = FP.Core.dadd FP.Core.dconst0 (FP.Core.dneg x) := FP.Core.dsub_eq _ _
    rw [e1, e2, FP.Core.dadd_comm]
    have hv : FP.Core.val64 (FP.Core.dneg x) = FP.Core.negate (FP.Core.val64 x) := FP.Core.val64_dneg x
    refine FP.Core.dadd_zero (by rw [hv]; exact FP.Core.negate_ne_nan hx) (fun e => ?_)
    rw [e, FP.Core.val64_dzeroNeg] at hv
    have h0 : FP.Core.val64 x = FP.Core.val64 FP.Core.dconst0 := by
      have e0 : FP.Core.val64 FP.Core.dconst0 = .fin false 0 FP.Core.b64.qmin := by decide +kernel
      rw [e0]
      cases hd : FP.Core.val64 x with
      | nan => rw [hd] at hv; cases hv
      | inf s => rw [hd] at hv; cases hv
      | fin s c q =>
        rw [hd] at hv
        cases s with
        | true => cases hv
        | false =>
          cases hv
          rfl
    have e3 := FP.Core.val64_inj hx h0
    rw [e3] at h
    exact h (by decide +kernel)
theorem rs_eq {r r' : Nat → UInt64} (h : ∀ c, c < 36 → r c = r' c) : ∀ n, n ≤ 36 → rsC r n = rsF r' n
  | 0, _ => rfl
  | n + 1, hn => by rw [rsC, rsF, rs_eq h n (by omega), h n (by omega), amt_eq]
/-- the solvers' worlds, tied: which cells take part, matrix, maker, p, r; the class's z is 0 where a cell takes no part -/
def slT (S : cS) (T : mS) : Prop := (∀ c, c < 36 → cA S 27 c = mA T 11 c) ∧ (∀ c, c < 36 → mA T 11 c ≠ 0 → cD S 28 c = mD T 14 c) ∧ (∀ c, c < 36 → mA T 11 c ≠ 0 → cD S 29 c = mD T 15 c) ∧ (∀ c, c < 36 → cD S 30 c = mD T 16 c) ∧ (∀ c, c < 36 → cD S 31 c = mD T 17 c) ∧ (∀ c, c < 36 → mA T 11 c = 0 → cD S 33 c = FP.dconst0)
def zT (S : cS) (T : mS) : Prop := ∀ c, c < 36 → cD S 33 c = mD T 18 c
def sT (S : cS) (T : mS) : Prop := ∀ c, c < 36 → cD S 34 c = mD T 19 c
theorem mz_tie {S : cS} {T : mS} (h : slT S T) : slT (mzC S) (mzS T) ∧ zT (mzC S) (mzS T) ∧ (mzOk T → mzcOk S) := by
  obtain ⟨h1, h2, h3, h4, h5, h6⟩ := h
  have f := fw_tie (S := S) (T := T) h1 h5 h3
  have b := bw_tie (S := zS1 S 36) (T := T) h1 h3 (fun c hc h0 => f 36 (Nat.le_refl 36) c hc h0) h6
  refine ⟨⟨h1, h2, h3, h4, h5, (b 36 (Nat.le_refl 36)).2⟩, fun c hc => (b 36 (Nat.le_refl 36)).1 c hc (by omega), fun ok => ⟨fun c hc _ => ?_, fun n hn _ => ?_⟩⟩
  · exact fwOk_eq h1 hc (h5 c hc) (fun d hd h0 => ⟨h3 d (by omega) h0, f c (by omega) d hd h0⟩) (ok.1 c hc)
  · exact bwOk_eq (tk' := mA T 11) h1 (by omega) (fun h0 => ⟨f 36 (Nat.le_refl 36) _ (by omega) h0, h3 _ (by omega) h0⟩) (fun d hd hl _ => (b n (by omega)).1 d hd (by omega)) (ok.2 n hn)
theorem ml_row {S : cS} {T : mS} (h : slT S T) (hs : sT S T) : ∀ n, n ≤ 36 → (∀ d, d < n → mlR S n d = tmG (mD T 14) (mD T 19) (mA T 11) d) ∧ (∀ d, n ≤ d → mlR S n d = cD S 33 d)
  | 0, _ => ⟨fun d hd => absurd hd (by omega), fun d _ => rfl⟩
  | n + 1, hn => by
    obtain ⟨h1, h2, h3, h4, h5, h6⟩ := id h
    obtain ⟨i1, i2⟩ := ml_row h hs n (by omega)
    have e : mlR S (n + 1) = if cA S 27 n = 0 then mlR S n else vf_upd (mlR S n) n (tmV (cD S 28) (cD S 34) (cA S 27) n 4) := rfl
    rw [e, h1 n (by omega)]
    by_cases h0 : mA T 11 n = 0
    · rw [if_pos h0]
      refine ⟨fun d hd => ?_, fun d hd => i2 d (by omega)⟩
      by_cases e2 : d = n
      · subst e2
        rw [i2 d (by omega), h6 d (by omega) h0]
        unfold tmG
        rw [if_pos h0]
      · exact i1 d (by omega)
    · rw [if_neg h0]
      refine ⟨fun d hd => ?_, fun d hd => by rw [vu_at, if_neg (by omega)]; exact i2 d (by omega)⟩
      rw [vu_at]
      by_cases e2 : d = n
      · subst e2
        rw [if_pos rfl]
        unfold tmG
        rw [if_neg h0]
        exact tmV_eq h1 hs (by omega) (h2 d (by omega) h0) 4
      · rw [if_neg e2]
        exact i1 d (by omega)
theorem ml_tie {S : cS} {T : mS} (h : slT S T) (hs : sT S T) : slT (mlS S 36) (tmS T) ∧ zT (mlS S 36) (tmS T) ∧ sT (mlS S 36) (tmS T) ∧ (tmOk (mD T 14) (mD T 19) (mA T 11) → mlOk S) := by
  have r := (ml_row h hs 36 (Nat.le_refl 36)).1
  obtain ⟨h1, h2, h3, h4, h5, h6⟩ := h
  refine ⟨⟨h1, h2, h3, h4, h5, fun c hc h0 => ?_⟩, fun c hc => ?_, hs, fun ok c hc h0 w hw => ?_⟩
  · show mlR S 36 c = FP.dconst0
    have h0 : mA T 11 c = 0 := h0
    rw [r c hc]
    unfold tmG
    rw [if_pos h0]
  · show mlR S 36 c = filR (tmG (mD T 14) (mD T 19) (mA T 11)) (mD T 18) 36 c
    rw [r c hc, fil_in _ _ hc]
  · rw [tmV_eq h1 hs hc (h2 c hc (by rw [← h1 c hc]; exact h0)) w]
    exact ok c hc w hw
theorem av_tie {S : cS} {T : mS} (h : slT S T) (hz : zT S T) (hs : sT S T) (k : UInt64) : slT (adS S k 36) (avS T k 36) ∧ (avOk T k → adOk S k) := by
  obtain ⟨h1, h2, h3, h4, h5, h6⟩ := h
  have ep : ∀ c, c < 36 → adP S k c = avP T k c := fun c hc => by unfold adP avP; rw [h4 c hc, hs c hc]
  have er : ∀ c, c < 36 → adR S k c = avR T k c := fun c hc => by unfold adR avR; rw [h5 c hc, hz c hc]
  refine ⟨⟨h1, h2, h3, fun c hc => ?_, fun c hc => ?_, h6⟩, fun ok c hc => ?_⟩
  · show filR (adP S k) (cD S 30) 36 c = filR (avP T k) (mD T 16) 36 c
    rw [fil_in _ _ hc, fil_in _ _ hc, ep c hc]
  · show filR (adR S k) (cD S 31) 36 c = filR (avR T k) (mD T 17) 36 c
    rw [fil_in _ _ hc, fil_in _ _ hc, er c hc]
  · rw [hs c hc, hz c hc, ep c hc, er c hc]
    exact ok c hc
theorem tu_tie {S : cS} {T : mS} (h : slT S T) (hz : zT S T) (hs : sT S T) (k : UInt64) : slT (trS S k 36) (tuS T k 36) ∧ sT (trS S k 36) (tuS T k 36) ∧ (tuOk T k → trOk S k) := by
  have et : ∀ c, c < 36 → trG S k c = tuG T k c := fun c hc => by unfold trG tuG; rw [hz c hc, hs c hc]
  refine ⟨h, fun c hc => ?_, fun ok c hc => ?_⟩
  · show filR (trG S k) (cD S 34) 36 c = filR (tuG T k) (mD T 19) 36 c
    rw [fil_in _ _ hc, fil_in _ _ hc, et c hc]
  · rw [hs c hc, et c hc]
    exact ok c hc
theorem cp_tie {S : cS} {T : mS} (h : slT S T) (hz : zT S T) : slT (cpC S) (cpS T 36) ∧ sT (cpC S) (cpS T 36) := by
  refine ⟨h, fun c hc => ?_⟩
  show va_cpy (cD S 33) (cD S 34) 0 0 36 c = filR (mD T 18) (mD T 19) 36 c
  rw [fil_in _ _ hc, cpy_in _ _ (by omega) (by omega), ← hz c hc]
  congr 1
  omega
