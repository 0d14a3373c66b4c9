/-! step, tied: all particles moved -/
theorem mix_at (W : mS) (N : Nat → UInt32) {d : Nat} : ∀ n, d < n → mixR W N n (4 * d + 2) = mixF W true d ∧ mixR W N n (4 * d + 3) = mixF W false d
  | 0, h => absurd h (by omega)
  | n + 1, h => by
    rw [mixR, vu_at, vu_at, vu_at, vu_at]
    by_cases e : d = n
    · subst e
      rw [if_neg (by omega), if_pos rfl, if_pos rfl]
      exact ⟨rfl, rfl⟩
    · rw [if_neg (by omega), if_neg (by omega), if_neg (by omega), if_neg (by omega)]
      exact mix_at W N n (by omega)
theorem mov_hi (W : mS) (t : UInt64) (N : Nat → UInt32) {m : Nat} : ∀ k, 4 * k ≤ m → movR W t N k m = N m
  | 0, _ => rfl
  | k + 1, h => by
    rw [movR, (mvF_0 rfl rfl).2.2 m (by omega)]
    exact mov_hi W t N k (by omega)
theorem mov_lo (W : mS) (t : UInt64) (N : Nat → UInt32) {m d : Nat} (hm : m < 4 * (d + 1)) : ∀ k, d < k → movR W t N k m = movR W t N (d + 1) m
  | 0, h => absurd h (by omega)
  | k + 1, h => by
    by_cases e : d = k
    · rw [e]
    · rw [movR, (mvF_0 rfl rfl).2.2 m (by omega)]
      exact mov_lo W t N hm k (by omega)
theorem frP_L (U : cS) (t : UInt64) : ∀ k, frP U (mpL U t k)
  | 0 => frP_r U
  | k + 1 => frP_t (frP_L U t k) (frP_mp _ _ _ _)
theorem mpL_hi (U : cS) (t : UInt64) (p : Nat) {d : Nat} : ∀ k, k ≤ d → cF (mpL U t k) p d = cF U p d
  | 0, _ => rfl
  | k + 1, h => by
    show cF (mpE (mpL U t k) k _ _) p d = _
    rw [mp_off _ _ _ _ _ _ (by omega)]
    exact mpL_hi U t p k (by omega)
theorem mpL_lo (U : cS) (t : UInt64) (p : Nat) {d : Nat} : ∀ k, d < k → cF (mpL U t k) p d = cF (mpL U t (d + 1)) p d
  | 0, h => absurd h (by omega)
  | k + 1, h => by
    by_cases e : d = k
    · rw [e]
    · show cF (mpE (mpL U t k) k _ _) p d = _
      rw [mp_off _ _ _ _ _ _ e]
      exact mpL_lo U t p k (by omega)
theorem mp_tie {U : cS} {W : mS} {np : Nat} {t : UInt64} {N : Nat → UInt32} (hg : grT U W) (hs : ∀ c, c < 36 → cA U 11 c = mA W 1 c) (hp : ∀ k, k < np → cF U 12 k = mF W 3 (4 * k) ∧ cF U 13 k = mF W 3 (4 * k + 1) ∧ cF U 14 k = N (4 * k + 2) ∧ cF U 15 k = N (4 * k + 3)) (ok : ∀ k, k < np → mvOk (mD W 13) (movR W t N k) t (mF W 3 (4 * k)) (mF W 3 (4 * k + 1)) k) : (∀ k, k < np → mpOk (mpL U t k) k t) ∧ (∀ k, k < np → cF (mpL U t np) 12 k = movR W t N np (4 * k) ∧ cF (mpL U t np) 13 k = movR W t N np (4 * k + 1) ∧ cF (mpL U t np) 14 k = movR W t N np (4 * k + 2) ∧ cF (mpL U t np) 15 k = movR W t N np (4 * k + 3)) := by
  have one : ∀ k, k < np → mpOk (mpL U t k) k t ∧ cF (mpL U t (k + 1)) 12 k = movR W t N (k + 1) (4 * k) ∧ cF (mpL U t (k + 1)) 13 k = movR W t N (k + 1) (4 * k + 1) ∧ cF (mpL U t (k + 1)) 14 k = movR W t N (k + 1) (4 * k + 2) ∧ cF (mpL U t (k + 1)) 15 k = movR W t N (k + 1) (4 * k + 3) := fun k hk => by
    obtain ⟨-, -, -, f4, f5, -⟩ := frP_L U t k
    obtain ⟨p1, p2, p3, p4⟩ := hp k hk
    have h23 : cD (mpL U t k) 23 = cD U 23 := by show (mpL U t k).2.2.2.2.2 23 = _; rw [f5]
    have h24 : cD (mpL U t k) 24 = cD U 24 := by show (mpL U t k).2.2.2.2.2 24 = _; rw [f5]
    have h11 : cA (mpL U t k) 11 = cA U 11 := by show (mpL U t k).2.2.2.1 11 = _; rw [f4]
    exact mp_one (S := mpL U t k) (A := mD W 13) (N := movR W t N k) (sol := mA W 1) (t := t) (x := mF W 3 (4 * k)) (y := mF W 3 (4 * k + 1)) (k := k) (fun i j hi hj => by rw [h23]; exact (hg.1 i j hi hj).2) (fun i j hi hj => by rw [h24]; exact (hg.2 i j hi hj).2) (fun c hc => by rw [h11]; exact hs c hc) (by rw [mpL_hi U t 12 k (Nat.le_refl k)]; exact p1) (by rw [mpL_hi U t 13 k (Nat.le_refl k)]; exact p2) (by rw [mpL_hi U t 14 k (Nat.le_refl k), mov_hi W t N k (by omega)]; exact p3) (by rw [mpL_hi U t 15 k (Nat.le_refl k), mov_hi W t N k (by omega)]; exact p4) (ok k hk)
  refine ⟨fun k hk => (one k hk).1, fun k hk => ?_⟩
  rw [mpL_lo U t 12 np hk, mpL_lo U t 13 np hk, mpL_lo U t 14 np hk, mpL_lo U t 15 np hk, mov_lo W t N (d := k) (by omega) np hk, mov_lo W t N (d := k) (by omega) np hk, mov_lo W t N (d := k) (by omega) np hk, mov_lo W t N (d := k) (by omega) np hk]
  exact (one k hk).2
