/-! step, tied: what the end needs -/
theorem sv_res : ∀ (n rd : Nat) (T : mS) (now : UInt64), (svL n rd T now).1 = -1 ∨ ∃ k, k ≤ rd + n ∧ (svL n rd T now).1 = nI k
  | 0, rd, T, now => Or.inl rfl
  | n + 1, rd, T, now => by
    rw [svL_e]
    split
    · split
      · split
        · rcases sv_res n (rd + 1) (svT T now) (dotZR (svZ T now)) with h | ⟨k, hk, h⟩
          · exact Or.inl h
          · exact Or.inr ⟨k, by omega, h⟩
        · exact Or.inr ⟨rd, by omega, rfl⟩
      · exact Or.inl rfl
    · exact Or.inl rfl
theorem sv_res1 (T : mS) (R : Nat) (h : R ≤ 40) : (svF T R).1 = -1 ∨ ∃ k, k ≤ 41 ∧ (svF T R).1 = nI k := by
  unfold svF
  split
  · rcases sv_res R 1 (cpS (mzS T) 36) (dotZR (cpS (mzS T) 36)) with h1 | ⟨k, hk, h1⟩
    · exact Or.inl h1
    · exact Or.inr ⟨k, by omega, h1⟩
  · exact Or.inr ⟨0, by omega, rfl⟩
theorem sv_p : ∀ (n rd : Nat) (T : mS) (now : UInt64), (∀ c, c < 36 → vf_n64 (mD T 16 c)) → svOk n T now → ∀ c, c < 36 → vf_n64 (mD (svL n rd T now).2 16 c)
  | 0, rd, T, now, h, _ => h
  | n + 1, rd, T, now, h, ok => by
    intro c hc
    rw [svL_e]
    by_cases g1 : 0 < cvd now FP.dconst0 .l
    · rw [if_pos g1]
      obtain ⟨k1, k2, k3, k4⟩ := ok g1
      by_cases g2 : 0 < cvd (dotZS (tmS T)) (FP.dmul now 4562146422526312448) .l
      · rw [if_pos g2]
        obtain ⟨m1, m2, m3, m4⟩ := k4 g2
        have hA : ∀ c, c < 36 → vf_n64 (mD (svA T now) 16 c) := fun c hc => by
          have e : mD (svA T now) 16 c = avP (tmS T) (FP.ddiv now (dotZS (tmS T))) c := fil_in _ _ hc
          rw [e]
          exact (m2 c hc).2.1
        by_cases g3 : 0 < cvd (rsF (mD (svA T now) 17) 36) (mD T 6 0) .g
        · rw [if_pos g3]
          have q5 := (m4 g3).2.2.2.2
          have hT : ∀ c, c < 36 → vf_n64 (mD (svT T now) 16 c) := hA
          exact sv_p n (rd + 1) (svT T now) (dotZR (svZ T now)) hT q5 c hc
        · rw [if_neg g3]
          exact hA c hc
      · rw [if_neg g2]
        exact h c hc
    · rw [if_neg g1]
      exact h c hc
theorem cp_16 (T : mS) : mD (cpS T 36) 16 = mD T 16 := rfl
theorem mz_16 (T : mS) : mD (mzS T) 16 = mD T 16 := rfl
theorem sv_p1 {T : mS} {R : Nat} (h : ∀ c, c < 36 → vf_n64 (mD T 16 c)) (ok : sfOk T R) : ∀ c, c < 36 → vf_n64 (mD (svF T R).2 16 c) := by
  intro c hc
  unfold svF
  by_cases g : 0 < cvd (rsF (mD T 17) 36) (mD T 6 0) .g
  · rw [if_pos g]
    exact sv_p R 1 _ _ (fun c hc => by rw [cp_16, mz_16]; exact h c hc) (ok.2 g).2.2 c hc
  · rw [if_neg g]
    exact h c hc
theorem rs_n {r : Nat → UInt64} : ∀ n, (∀ c, c < n → vf_n64 (amtF (r c))) → vf_n64 (rsF r n)
  | 0, _ => n_d0
  | n + 1, h => by
    rw [rsF]
    split
    · exact rs_n n (fun c hc => h c (by omega))
    · exact h n (by omega)
theorem pj_n {af p : Nat → UInt64} {sol fl : Nat → Int32} {f : Nat} (h : vf_n64 (af f)) (ok : pjOk af p sol fl f) : vf_n64 (pjG af p sol fl f) := by
  unfold pjG
  cases hc : clB sol f with
  | true => rw [if_pos rfl]; exact h
  | false =>
    rw [if_neg (by decide)]
    by_cases h1 : fl (sdN f false) ≠ 0
    · rw [if_pos h1]; exact (ok hc (Or.inl h1)).2
    · rw [if_neg h1]
      by_cases h2 : fl (sdN f true) = 0
      · rw [if_pos h2]; exact h
      · rw [if_neg h2]; exact (ok hc (Or.inr h2)).2
theorem fr_n {bef : Nat → UInt64} {sol : Nat → Int32} {t pull : UInt64} {f : Nat} (h : vf_n64 (bef f)) (ok : frcOk bef t pull f) : vf_n64 (frcG bef sol t pull f) := by
  unfold frcG
  split
  · exact n_d0
  · split
    · exact h
    · rename_i h2
      exact (ok h2).2
theorem now_cg {np : Nat} {S V : cS} {T W : mS} (h : nowT np S T) (i0 : cI V 0 = cI S 0) (i1 : cI V 1 = cI S 1) (g0 : cG V 0 = cG S 0) (g1 : cG V 1 = cG S 1) (h0 : cH V 0 = cH S 0) (a11 : cA V 11 = cA S 11) (m2 : mA W 2 0 = mA T 2 0) (m1 : mA W 1 = mA T 1) (d4 : mD W 4 0 = mD T 4 0) (d6 : mD W 6 0 = mD T 6 0) (f5 : mF W 5 0 = mF T 5 0) (m7 : mA W 7 0 = mA T 7 0) (p1 : ∀ k, k < np → cF V 12 k = mF W 3 (4 * k) ∧ cF V 13 k = mF W 3 (4 * k + 1) ∧ cF V 14 k = mF W 3 (4 * k + 2) ∧ cF V 15 k = mF W 3 (4 * k + 3)) (p2 : ∀ k, k < np → badA (mF W 3 (4 * k)) (mF W 3 (4 * k + 1)) (mF W 3 (4 * k + 2)) (mF W 3 (4 * k + 3)) = false) (p3 : ∀ k, k < np → mA T 1 (cellI (mF W 3 (4 * k)) (mF W 3 (4 * k + 1))).toNatClampNeg = 0) : nowT np V W := by
  unfold nowT
  rw [i0, i1, g0, g1, h0, a11, m2, m1, d4, d6, f5, m7]
  exact ⟨h.n24, h.c1, h.c2, h.s1, p1, p2, p3, h.e1, h.o1, h.e2, h.o2, h.e3, h.o3, h.e4, h.o4⟩
theorem mrk_cg {nq : Nat} {S V : cS} {T W : mS} (h : mrkT nq S T) (i3 : cI V 3 = cI S 3) (i2 : cI V 2 = cI S 2) (g2 : cG V 2 = cG S 2) (g3 : cG V 3 = cG S 3) (h1 : cH V 1 = cH S 1) (a16 : cA V 16 = cA S 16) (c17 : cF V 17 = cF S 17) (c18 : cF V 18 = cF S 18) (c19 : cF V 19 = cF S 19) (c20 : cF V 20 = cF S 20) (m2 : mA W 2 1 = mA T 2 1) (m1 : mA W 1 = mA T 1) (d4 : mD W 4 1 = mD T 4 1) (d6 : mD W 6 1 = mD T 6 1) (f5 : mF W 5 1 = mF T 5 1) (m7 : mA W 7 1 = mA T 7 1) (f3 : ∀ m, 96 ≤ m → mF W 3 m = mF T 3 m) : mrkT nq V W := by
  have e : (fun c => mF W 3 (96 + c)) = (fun c => mF T 3 (96 + c)) := funext (fun c => f3 _ (by omega))
  unfold mrkT
  rw [i3, i2, g2, g3, h1, a16, c17, c18, c19, c20, m2, m1, d4, d6, f5, m7, e]
  exact h
