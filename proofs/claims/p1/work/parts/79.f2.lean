/-! a step of the fresh objects: nothing moves -/
theorem gF_0 (X Y A : Nat → UInt32) (fi fj : UInt64) : gF X Y A fi fj 0 = FP.dconst0 := by
  unfold gF
  rw [if_pos (by show cvd FP.dconst0 FP.dconst0 .l ≤ 0; decide +kernel)]
theorem n_d0 : vf_n64 FP.dconst0 := by unfold vf_n64; decide
theorem gOkF_0 (X Y A : Nat → UInt32) (fi fj : UInt64) : gOkF X Y A fi fj 0 := ⟨fun k hk => absurd hk (by omega), by rw [gF_0]; exact n_d0⟩
theorem hp_0 (X Y : Nat → UInt32) (i j : Int32) : hpB X Y i j 0 = false := rfl
theorem fl_0 (sol : Nat → Int32) (X Y : Nat → UInt32) (i j : Int32) : flB sol X Y 0 i j = false := by
  unfold flB
  rw [hp_0, Bool.and_false]
theorem suB_0 (S : cS) (i j : Nat) : suB S 0 i j = false := by
  unfold suB
  rw [fl_0]
  split <;> rfl
theorem suF_0 (S : cS) (i j : Nat) : suF S 0 i j = S := by
  unfold suF
  rw [suB_0]
  rfl
theorem suR_0 (S : cS) : ∀ c, suR S 0 c = S
  | 0 => rfl
  | c + 1 => by rw [suR, suF_0, suR_0]
theorem rsC_0 {r : Nat → UInt64} : ∀ n, (∀ c, c < n → r c = FP.dconst0) → rsC r n = FP.dconst0
  | 0, _ => rfl
  | n + 1, h => by
    have h1 := rsC_0 n (fun c hc => h c (by omega))
    unfold rsC
    rw [h1, h n (by omega)]
    decide +kernel
theorem rsF_0 {r : Nat → UInt64} : ∀ n, (∀ c, c < n → r c = FP.dconst0) → rsF r n = FP.dconst0
  | 0, _ => rfl
  | n + 1, h => by
    have h1 := rsF_0 n (fun c hc => h c (by omega))
    unfold rsF
    rw [h1, h n (by omega)]
    decide +kernel
theorem spA_0 (S : cS) (t : UInt64) : spA S 0 t = zrS (bgS S 0 t) 36 := by
  unfold spA
  exact suR_0 _ 36
theorem zr_31 (S : cS) (c : Nat) (h : c < 36) : cD (zrS S 36) 31 c = FP.dconst0 := by
  show filR (fun _ => FP.dconst0) (cD S 31) 36 c = _
  unfold filR
  rw [if_pos h]
theorem zr_27 (S : cS) (c : Nat) (h : c < 36) : cA (zrS S 36) 27 c = 0 := by
  show filR (fun _ => xb false) (cA S 27) 36 c = _
  unfold filR
  rw [if_pos h]
  rfl
theorem pt_0 {tk : Nat → Int32} (h : ∀ c, c < 36 → tk c = 0) (x y : Int32) : ptB tk x y = false := by
  unfold ptB
  by_cases hi : inB x y = true
  · rw [if_pos hi]
    obtain ⟨i, j, hi6, hj6, rfl, rfl⟩ := inB_nI hi
    rw [nI_clamp (by omega), nI_clamp (by omega), h _ (by omega)]
    rfl
  · rw [if_neg hi]
theorem ap_0 {S : cS} (h : ∀ c, c < 36 → cA S 27 c = 0) (q : Nat) (bi bj : Int32) (i j : Nat) : apOk S q bi bj i j := by
  intro hw
  exfalso
  unfold apW at hw
  rw [pt_0 h, pt_0 h] at hw
  cases hw
/-- the solver of the fresh box is done at once -/
theorem fp_00 (V : cS) (lim : UInt64) (h : ∀ c, c < 36 → cD V 31 c = FP.dconst0) (hl : ¬ 0 < cvd FP.dconst0 lim .g) (R : Nat) : fpF V lim R = (nI 0, V) ∧ fpOkF V lim R := by
  have e := rsC_0 36 h
  refine ⟨?_, fun h1 => ?_⟩
  · unfold fpF
    rw [e, if_neg hl]
  · rw [e] at h1
    exact absurd h1 hl
theorem rw_0 {a j i n : Nat} {G : Nat → Nat → UInt64} {old : Nat → UInt64} (h1 : ∀ i j, G i j = FP.dconst0) (h2 : ∀ n, old n = FP.dconst0) : rwF a G old j i n = FP.dconst0 := by
  unfold rwF
  split
  · exact h1 _ _
  · exact h2 _
theorem cpy_00 {f g : Nat → UInt64} {n z : Nat} (h1 : ∀ n, f n = FP.dconst0) (h2 : ∀ n, g n = FP.dconst0) : va_cpy f g 0 0 z n = FP.dconst0 := by
  unfold va_cpy
  split
  · exact h1 _
  · exact h2 _
theorem bg4_24 (n : Nat) : cD (bg4 S00 0) 24 n = FP.dconst0 := by
  show va_cpy (cD (bgC (bgB (bgA S00 0) 0)) 22) (cD S00 24) 0 0 49 n = _
  refine cpy_00 (fun n => ?_) (fun _ => rfl)
  show rwF 5 (fun i j => gF (cF S00 12) (cF S00 13) (cF S00 15) (mdV i) (mdU j) 0) (cD S00 22) 7 0 n = _
  exact rw_0 (fun _ _ => gF_0 _ _ _ _ _) (fun _ => rfl)
theorem pq_m {t : UInt64} (ht : mgd 1056 t) : mgd 1059 (FP.dmul t 13830554455654793216) := by
  have h2 : mgd 1024 13830554455654793216 := by unfold mgd; decide
  exact mgd_up (mgd_mul (K := 1056) (M := 1024) (by omega) (by omega) ht h2) (by omega)
theorem m_d0 (K : Nat) (h : 0 < K) : mgd K FP.dconst0 := by
  unfold mgd
  have : FP.dconst0.toNat % 2 ^ 63 = 0 := by decide
  rw [this]
  exact Nat.mul_pos h (by decide)
theorem bgOk_0 {t : UInt64} (ht : mgd 1056 t) : bgOk S00 0 t := by
  have hm := pq_m ht
  refine ⟨fun _ _ _ _ => gOkF_0 _ _ _ _ _, fun _ _ _ _ => gOkF_0 _ _ _ _ _, mgd_n (by omega) hm, fun j i _ _ => ?_⟩
  rw [bg4_24]
  exact mgd_n (by omega) (mgd_add (K := 1059) (by omega) (m_d0 _ (by omega)) hm)
theorem suOk_0 (V : cS) : suOkF V 0 := fun c _ h => by rw [suB_0] at h; cases h
theorem lim_0 : ¬ 0 < cvd FP.dconst0 4593671619917905920 .g := by decide +kernel
theorem sp2_0 (P : cS) (h27 : ∀ c, c < 36 → cA P 27 c = 0) : spOk2 (nI 0, P) := fun _ => ⟨fun j i _ _ => ap_0 h27 _ _ _ _ _, fun j i _ _ => ap_0 (S := spU P) h27 _ _ _ _ _⟩
theorem cst_0 {t : UInt64} (ht : mgd 1056 t) : fpF (spA S00 0 t) (cG S00 1) 20 = (nI 0, spA S00 0 t) ∧ spOk S00 0 20 t ∧ spOk2 (fpF (spA S00 0 t) (cG S00 1) 20) ∧ cI (fpF (spA S00 0 t) (cG S00 1) 20).2 1 = nI 0 := by
  obtain ⟨e1, e2⟩ := fp_00 (spA S00 0 t) (cG S00 1) (by rw [spA_0]; exact fun c hc => zr_31 _ c hc) lim_0 20
  refine ⟨e1, ⟨bgOk_0 ht, suOk_0 _, e2⟩, ?_, ?_⟩
  · rw [e1]
    exact sp2_0 _ (by rw [spA_0]; exact fun c hc => zr_27 _ c hc)
  · rw [e1]
    have e3 := spA_J S00 0 1 t
    generalize spA S00 0 t = P at e3 ⊢
    exact e3
/-- the class's step of the fresh box -/
theorem qst_0 {t : UInt64} (ht : mgd 1056 t) : (okC t = true → ∃ V, qStep0 S00 20 t = (0, [.int (nI 0)], V)) ∧ (okC t = false → qStep0 S00 20 t = (1, [], S00)) := by
  obtain ⟨e1, -, -, -⟩ := cst_0 ht
  refine ⟨fun h => ?_, fun h => by unfold qStep0; rw [h]; rfl⟩
  unfold qStep0
  rw [if_pos h, e1]
  generalize spA S00 0 t = P
  refine ⟨spD (kpS (spV (spU P))), ?_⟩
  unfold qStp
  rw [if_neg (show ¬ nI 0 = -1 by decide)]
theorem ok_TC {t : UInt64} (ht : mgd 1056 t) : okT t = okC t := by
  unfold okT okC
  rw [cvd_lg (x := t) (y := FP.dconst1) (mgd_n (by omega) ht) (by unfold vf_n64; decide)]
  by_cases h1 : cvd t FP.dconst0 .l ≤ 0
  · rw [if_pos h1, if_pos h1]
  · rw [if_neg h1, if_neg h1]
    by_cases h2 : cvd t FP.dconst1 .g ≤ 0
    · rw [if_pos h2]; exact decide_eq_true h2
    · rw [if_neg h2]; exact decide_eq_false h2
