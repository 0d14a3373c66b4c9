/-! step, tied: after the pressure; new speeds -/
theorem pj_tie {V : cS} {W : mS} (hg : grT V W) (hs : ∀ c, c < 36 → cA V 11 c = mA W 1 c) (htk : ∀ c, c < 36 → cA V 27 c = xb (tkB (mA W 1) (mA W 10) c)) (hp : ∀ c, c < 36 → cD V 30 c = mD W 16 c) : grT (spV (spU V)) (stP W) ∧ (pjOkS W → uOk V ∧ vOk (spU V)) := by
  have eu : cD (spV (spU V)) 23 = rwF 6 (apG V 23 (nI 1) (nI 0)) (cD V 23) 6 0 := rfl
  have ev : cD (spV (spU V)) 24 = rwF 5 (apG (spU V) 24 (nI 0) (nI 1)) (cD V 24) 7 0 := rfl
  have e13 : ∀ f, f < 84 → mD (stP W) 13 f = pjG (mD W 13) (mD W 16) (mA W 1) (mA W 10) f := fun f hf => fil_in _ _ hf
  refine ⟨⟨fun i j hi hj => ⟨(hg.1 i j hi hj).1, ?_⟩, fun i j hi hj => ⟨(hg.2 i j hi hj).1, ?_⟩⟩, fun ok => ⟨fun j i hj hi => ?_, fun j i hj hi => ?_⟩⟩
  · rw [eu, rw_in _ _ hi (by omega) hj, e13 _ (by omega)]
    exact (ap_u hs htk hp hi hj (hg.1 i j hi hj).2).1
  · rw [ev, rw_in _ _ hi (by omega) hj, e13 _ (by omega)]
    exact (ap_v (V := spU V) hs htk hp hi hj (hg.2 i j hi hj).2).1
  · exact (ap_u hs htk hp hi hj (hg.1 i j hi hj).2).2 (ok _ (by omega))
  · exact (ap_v (V := spU V) hs htk hp hi hj (hg.2 i j hi hj).2).2 (ok _ (by omega))
theorem cm_u {A B : Nat → UInt64} (h : ∀ i j, i ≤ 6 → j ≤ 5 → A (7 * j + i) = B (7 * j + i)) (x y : UInt64) : cmF A true x y = smF B true x y ∧ (vf_n64 x → vf_n64 y → smOk B true x y → cmOk A true x y) := by
  have i1 : ixN 6 (spX true x) < 6 := (ixN_lt (by omega) (by omega) (wi_pos x (show 6 < 100 by omega))).1
  have i2 : ixN 5 (spY true y) < 5 := (ixN_lt (by omega) (by omega) (wi_pos (FP.dsub y 4602678819172646912) (show 5 < 100 by omega))).1
  have s1 : sW true = 6 := rfl
  have s2 : sW (!true) = 5 := rfl
  unfold cmF smF cmOk smOk sAt
  rw [s1, s2, if_pos rfl]
  generalize ixN 6 (spX true x) = i at i1 ⊢
  generalize ixN 5 (spY true y) = j at i2 ⊢
  have e0 := h i j (by omega) (by omega)
  have e1 := h (i + 1) j (by omega) (by omega)
  have e2 := h i (j + 1) (by omega) (by omega)
  have e3 := h (i + 1) (j + 1) (by omega) (by omega)
  rw [show 7 * j + (i + 1) = 7 * j + i + 1 by omega] at e1
  rw [show 7 * (j + 1) + i = 7 * j + i + 7 by omega] at e2
  rw [show 7 * (j + 1) + (i + 1) = 7 * j + i + 8 by omega] at e3
  show mxF _ _ (A (7 * j + i)) (A (7 * j + i + 1)) (A (7 * j + i + 7)) (A (7 * j + i + 8)) = mxF _ _ (B (0 + (6 + 1) * j + i)) (B (0 + (6 + 1) * j + i + 1)) (B (0 + (6 + 1) * j + i + 6 + 1)) (B (0 + (6 + 1) * j + i + 6 + 1 + 1)) ∧ _
  rw [show 0 + (6 + 1) * j + i = 7 * j + i by omega, show 7 * j + i + 6 + 1 = 7 * j + i + 7 by omega, show 7 * j + i + 7 + 1 = 7 * j + i + 8 by omega, e0, e1, e2, e3]
  exact ⟨rfl, fun n1 n2 ok => ⟨n1, n2, ok.1, ok.2.1, ok.2.2.1, ok.2.2.2.1, ok.2.2.2.2⟩⟩
theorem cm_v {A B : Nat → UInt64} (h : ∀ i j, i ≤ 5 → j ≤ 6 → A (7 * j + i) = B (42 + 6 * j + i)) (x y : UInt64) : cmF A false x y = smF B false x y ∧ (vf_n64 x → vf_n64 y → smOk B false x y → cmOk A false x y) := by
  have i1 : ixN 5 (spX false x) < 5 := (ixN_lt (by omega) (by omega) (wi_pos (FP.dsub x 4602678819172646912) (show 5 < 100 by omega))).1
  have i2 : ixN 6 (spY false y) < 6 := (ixN_lt (by omega) (by omega) (wi_pos y (show 6 < 100 by omega))).1
  have s1 : sW false = 5 := rfl
  have s2 : sW (!false) = 6 := rfl
  unfold cmF smF cmOk smOk sAt
  rw [s1, s2, if_neg (show ¬ (false = true) by decide)]
  generalize ixN 5 (spX false x) = i at i1 ⊢
  generalize ixN 6 (spY false y) = j at i2 ⊢
  have e0 := h i j (by omega) (by omega)
  have e1 := h (i + 1) j (by omega) (by omega)
  have e2 := h i (j + 1) (by omega) (by omega)
  have e3 := h (i + 1) (j + 1) (by omega) (by omega)
  rw [show 7 * j + (i + 1) = 7 * j + i + 1 by omega, show 42 + 6 * j + (i + 1) = 42 + 6 * j + i + 1 by omega] at e1
  rw [show 7 * (j + 1) + i = 7 * j + i + 7 by omega, show 42 + 6 * (j + 1) + i = 42 + 6 * j + i + 6 by omega] at e2
  rw [show 7 * (j + 1) + (i + 1) = 7 * j + i + 8 by omega, show 42 + 6 * (j + 1) + (i + 1) = 42 + 6 * j + i + 7 by omega] at e3
  show mxF _ _ (A (7 * j + i)) (A (7 * j + i + 1)) (A (7 * j + i + 7)) (A (7 * j + i + 8)) = mxF _ _ (B (42 + (5 + 1) * j + i)) (B (42 + (5 + 1) * j + i + 1)) (B (42 + (5 + 1) * j + i + 5 + 1)) (B (42 + (5 + 1) * j + i + 5 + 1 + 1)) ∧ _
  rw [show 42 + (5 + 1) * j + i = 42 + 6 * j + i by omega, show 42 + 6 * j + i + 5 + 1 = 42 + 6 * j + i + 6 by omega, show 42 + 6 * j + i + 6 + 1 = 42 + 6 * j + i + 7 by omega, e0, e1, e2, e3]
  exact ⟨rfl, fun n1 n2 ok => ⟨n1, n2, ok.1, ok.2.1, ok.2.2.1, ok.2.2.2.1, ok.2.2.2.2⟩⟩
/-- the class's particles, against rows of the reference -/
def ptT (V : cS) (P A B : Nat → UInt32) (np : Nat) : Prop := ∀ k, k < np → cF V 12 k = P (4 * k) ∧ cF V 13 k = P (4 * k + 1) ∧ cF V 14 k = A k ∧ cF V 15 k = B k
theorem rv_D (V : cS) : ∀ k, (rvL V k).2.2.2.2.2 = V.2.2.2.2.2 ∧ (rvL V k).2.2.1 = V.2.2.1 ∧ (rvL V k).2.2.2.1 = V.2.2.2.1 ∧ (rvL V k).2.1 = V.2.1 ∧ (rvL V k).1 = V.1 ∧ (∀ p, p ≠ 14 → p ≠ 15 → cF (rvL V k) p = cF V p)
  | 0 => ⟨rfl, rfl, rfl, rfl, rfl, fun _ _ _ => rfl⟩
  | k + 1 => by
    obtain ⟨a, b, c, d, e, f⟩ := rv_D V k
    refine ⟨a, b, c, d, e, fun p h1 h2 => ?_⟩
    show mu (mu (rvL V k).2.2.2.2.1 14 _) 15 _ p = _
    rw [mu_ne _ _ h2, mu_ne _ _ h1]
    exact f p h1 h2
theorem rv_14 (V : cS) (d : Nat) : ∀ k, cF (rvL V k) 14 d = (if d < k then rvA (rvL V d) d else cF V 14 d)
  | 0 => by rw [if_neg (by omega)]; rfl
  | k + 1 => by
    show vf_upd (cF (rvL V k) 14) k (rvA (rvL V k) k) d = _
    rw [vu_at]
    by_cases e : d = k
    · rw [if_pos e, if_pos (by omega), e]
    · rw [if_neg e, rv_14 V d k]
      by_cases h : d < k
      · rw [if_pos h, if_pos (by omega)]
      · rw [if_neg h, if_neg (by omega)]
theorem rv_15 (V : cS) (d : Nat) : ∀ k, cF (rvL V k) 15 d = (if d < k then rvB (rvSA (rvL V d) d) d else cF V 15 d)
  | 0 => by rw [if_neg (by omega)]; rfl
  | k + 1 => by
    show vf_upd (cF (rvL V k) 15) k (rvB (rvSA (rvL V k) k) k) d = _
    rw [vu_at]
    by_cases e : d = k
    · rw [if_pos e, if_pos (by omega), e]
    · rw [if_neg e, rv_15 V d k]
      by_cases h : d < k
      · rw [if_pos h, if_pos (by omega)]
      · rw [if_neg h, if_neg (by omega)]
/-- one particle's new speeds -/
theorem rv_one {V : cS} {W : mS} {k : Nat} (hg : grT V W) (hh : cH V 0 = mF W 5 0) (h1 : cF V 12 k = mF W 3 (4 * k)) (h2 : cF V 13 k = mF W 3 (4 * k + 1)) (h3 : cF V 14 k = mF W 3 (4 * k + 2)) (h4 : cF V 15 k = mF W 3 (4 * k + 3)) : rvA V k = mixF W true k ∧ rvB V k = mixF W false k ∧ (mixOk W true k → rvOA V k) ∧ (mixOk W false k → rvOB V k) := by
  have a1 := cm_u (fun i j hi hj => (hg.1 i j hi hj).2) (FP.f2d (mF W 3 (4 * k))) (FP.f2d (mF W 3 (4 * k + 1)))
  have a2 := cm_u (fun i j hi hj => (hg.1 i j hi hj).1) (FP.f2d (mF W 3 (4 * k))) (FP.f2d (mF W 3 (4 * k + 1)))
  have a3 := cm_v (fun i j hi hj => (hg.2 i j hi hj).2) (FP.f2d (mF W 3 (4 * k))) (FP.f2d (mF W 3 (4 * k + 1)))
  have a4 := cm_v (fun i j hi hj => (hg.2 i j hi hj).1) (FP.f2d (mF W 3 (4 * k))) (FP.f2d (mF W 3 (4 * k + 1)))
  unfold rvA rvB mixF rvOA rvOB mixOk
  rw [hh, h1, h2, h3, h4, a1.1, a2.1, a3.1, a4.1]
  exact ⟨rfl, rfl, fun ok => ⟨ok.1, ok.2.1, a2.2 ok.1 ok.2.1 ok.2.2.2.1, a1.2 ok.1 ok.2.1 ok.2.2.1, ok.2.2.2.2⟩, fun ok => ⟨ok.1, ok.2.1, a4.2 ok.1 ok.2.1 ok.2.2.2.1, a3.2 ok.1 ok.2.1 ok.2.2.1, ok.2.2.2.2⟩⟩
theorem rv_tie {V : cS} {W : mS} {np : Nat} (hg : grT V W) (hh : cH V 0 = mF W 5 0) (hp : ∀ k, k < np → cF V 12 k = mF W 3 (4 * k) ∧ cF V 13 k = mF W 3 (4 * k + 1) ∧ cF V 14 k = mF W 3 (4 * k + 2) ∧ cF V 15 k = mF W 3 (4 * k + 3)) : ptT (rvL V np) (mF W 3) (mixF W true) (mixF W false) np ∧ (miOkS W np → ∀ k, k < np → rvOk (rvL V k) k) := by
  have one : ∀ k, k < np → rvA (rvL V k) k = mixF W true k ∧ rvB (rvSA (rvL V k) k) k = mixF W false k ∧ (mixOk W true k → rvOA (rvL V k) k) ∧ (mixOk W false k → rvOB (rvSA (rvL V k) k) k) := fun k hk => by
    obtain ⟨d1, d2, -, -, -, d3⟩ := rv_D V k
    obtain ⟨p1, p2, p3, p4⟩ := hp k hk
    have hg' : grT (rvL V k) W := gr_cg hg (fun p _ _ => by show (rvL V k).2.2.2.2.2 p = _; rw [d1]) rfl rfl
    have hh' : cH (rvL V k) 0 = mF W 5 0 := by show (rvL V k).2.2.1 0 = _; rw [d2]; exact hh
    have q1 : cF (rvL V k) 12 k = mF W 3 (4 * k) := by rw [d3 12 (by omega) (by omega)]; exact p1
    have q2 : cF (rvL V k) 13 k = mF W 3 (4 * k + 1) := by rw [d3 13 (by omega) (by omega)]; exact p2
    have q3 : cF (rvL V k) 14 k = mF W 3 (4 * k + 2) := by rw [rv_14, if_neg (by omega)]; exact p3
    have q4 : cF (rvL V k) 15 k = mF W 3 (4 * k + 3) := by rw [rv_15, if_neg (by omega)]; exact p4
    obtain ⟨r1, -, r3, -⟩ := rv_one hg' hh' q1 q2 q3 q4
    have hB : rvB (rvSA (rvL V k) k) k = rvB (rvL V k) k := rfl
    have hO : rvOB (rvSA (rvL V k) k) k = rvOB (rvL V k) k := rfl
    obtain ⟨-, r2, -, r4⟩ := rv_one hg' hh' q1 q2 q3 q4
    rw [hB, hO]
    exact ⟨r1, r2, r3, r4⟩
  refine ⟨fun k hk => ?_, fun ok k hk => ?_⟩
  · obtain ⟨-, -, -, -, -, d3⟩ := rv_D V np
    rw [d3 12 (by omega) (by omega), d3 13 (by omega) (by omega), rv_14, rv_15, if_pos hk, if_pos hk]
    exact ⟨(hp k hk).1, (hp k hk).2.1, (one k hk).1, (one k hk).2.1⟩
  · exact ⟨(one k hk).2.2.1 (ok k hk).1, (one k hk).2.2.2 (ok k hk).2⟩
