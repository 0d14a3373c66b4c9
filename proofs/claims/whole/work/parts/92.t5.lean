/-! the tie: back, count, energy, drift; the fresh objects are tied -/
theorem set_cg {np : Nat} {cn : Int32} {so so' : Nat → Int32} {X X' Y Y' A A' B B' : Nat → UInt32} {pl lm : UInt64} {sh : UInt32} {rd cm : Int32} {sp sp' : Nat → Int32} {P P' : Nat → UInt32} {ql qm : UInt64} {qh : UInt32} {qd : Int32} (h : setT np cn so X Y A B pl lm sh rd cm sp P ql qm qh qd) (h1 : ∀ c, c < 36 → so' c = so c) (h2 : ∀ k, k < 24 → X' k = X k) (h3 : ∀ k, k < 24 → Y' k = Y k) (h4 : ∀ k, k < 24 → A' k = A k) (h5 : ∀ k, k < 24 → B' k = B k) (h6 : ∀ c, c < 36 → sp' c = sp c) (h7 : ∀ m, m < 96 → P' m = P m) : setT np cn so' X' Y' A' B' pl lm sh rd cm sp' P' ql qm qh qd := by
  have n24 := h.n24
  refine ⟨h.n24, h.c1, h.c2, fun c hc => by rw [h1 c hc, h6 c hc, h.s1 c hc], fun k hk => ?_, fun k hk => ?_, fun k hk => ?_, h.e1, h.o1, h.e2, h.o2, h.e3, h.o3, h.e4, h.o4⟩
  · rw [h2 k (by omega), h3 k (by omega), h4 k (by omega), h5 k (by omega), h7 _ (by omega), h7 _ (by omega), h7 _ (by omega), h7 _ (by omega)]
    exact h.p1 k hk
  · rw [h7 _ (by omega), h7 _ (by omega), h7 _ (by omega), h7 _ (by omega)]
    exact h.p2 k hk
  · obtain ⟨i, j, hi, hj, -, -, ec⟩ := bad_in (h.p2 k hk)
    have p3 := h.p3 k hk
    rw [h7 _ (by omega), h7 _ (by omega), h6 _ (by rw [ec, nI_clamp (by omega)]; omega)]
    exact p3
theorem cpy_in {α : Type} (f g : Nat → α) {sp dp n k : Nat} (h1 : dp ≤ k) (h2 : k < dp + n) : va_cpy f g sp dp n k = f (sp + (k - dp)) := by unfold va_cpy; rw [if_pos ⟨h1, h2⟩]
theorem cpy_out {α : Type} (f g : Nat → α) {sp dp n k : Nat} (h : k < dp ∨ dp + n ≤ k) : va_cpy f g sp dp n k = g k := by unfold va_cpy; rw [if_neg (by omega)]
theorem fil_in {α : Type} (f g : Nat → α) {n k : Nat} (h : k < n) : filR f g n k = f k := by unfold filR; rw [if_pos h]
theorem isB_fil {f g : Nat → Int32} (hf : isB f) (hg : isB g) (n : Nat) : isB (filR f g n) := fun i => by
  unfold filR
  split
  · exact hf _
  · exact hg _
theorem cpy_24 {α : Type} (f g : Nat → α) {k : Nat} (h : k < 24) : va_cpy f g 0 0 24 k = f k := by rw [cpy_in f g (by omega) (by omega)]; congr 1; omega
theorem tie_mark {S : cS} {T : mS} {np nq : Nat} (h : Tie S T np nq) : Tie (tk2S S) (rCopy (mS0 T) 0 1) np np := by
  obtain ⟨h1, h2, h3, h4, h5, h6⟩ := h
  refine ⟨?_, ?_, h3, isB_cpy h4 _ _ _, h5, isB_fil h5 h6 36⟩
  · refine set_cg h1 (fun c _ => rfl) (fun c _ => rfl) (fun c _ => rfl) (fun c _ => rfl) (fun c _ => rfl) (fun c hc => ?_) (fun m hm => ?_)
    · exact cpy_out _ _ (by omega)
    · exact cpy_out _ _ (by omega)
  · refine set_cg h1 (fun c hc => fil_in _ _ hc) (fun k hk => cpy_24 _ _ hk) (fun k hk => cpy_24 _ _ hk) (fun k hk => cpy_24 _ _ hk) (fun k hk => cpy_24 _ _ hk) (fun c hc => ?_) (fun m hm => ?_)
    · show va_cpy (mA T 1) (mA T 1) (36 * 0) (36 * 1) 36 (36 + c) = mA T 1 c
      rw [cpy_in _ _ (by omega) (by omega)]
      congr 1
      omega
    · show va_cpy (mF T 3) (mF T 3) (96 * 0) (96 * 1) 96 (96 + m) = mF T 3 m
      rw [cpy_in _ _ (by omega) (by omega)]
      congr 1
      omega
theorem tie_bring {S : cS} {T : mS} {np nq : Nat} (h : Tie S T np nq) : Tie (tk1S S) (rCopy (mS0 T) 1 0) nq nq := by
  obtain ⟨h1, h2, h3, h4, h5, h6⟩ := h
  refine ⟨?_, ?_, h3, isB_cpy h4 _ _ _, isB_fil h6 h5 36, h6⟩
  · refine set_cg h2 (fun c hc => fil_in _ _ hc) (fun k hk => cpy_24 _ _ hk) (fun k hk => cpy_24 _ _ hk) (fun k hk => cpy_24 _ _ hk) (fun k hk => cpy_24 _ _ hk) (fun c hc => ?_) (fun m hm => ?_)
    · show va_cpy (mA T 1) (mA T 1) (36 * 1) (36 * 0) 36 c = mA T 1 (36 + c)
      rw [cpy_in _ _ (by omega) (by omega)]
      congr 1
    · show va_cpy (mF T 3) (mF T 3) (96 * 1) (96 * 0) 96 m = mF T 3 (96 + m)
      rw [cpy_in _ _ (by omega) (by omega)]
      congr 1
  · refine set_cg h2 (fun c _ => rfl) (fun c _ => rfl) (fun c _ => rfl) (fun c _ => rfl) (fun c _ => rfl) (fun c hc => ?_) (fun m hm => ?_)
    · exact cpy_out _ _ (by omega)
    · exact cpy_out _ _ (by omega)
/-- fluid cells: those with a particle -/
theorem flu_at {P : Nat → UInt32} {f : Nat → Int32} {np : Nat} (h2 : ∀ k, k < np → ∃ i j : Nat, i < 6 ∧ j < 6 ∧ FP.f2i (P (4 * k)) = nI i ∧ FP.f2i (P (4 * k + 1)) = nI j ∧ cellI (P (4 * k)) (P (4 * k + 1)) = nI (6 * j + i)) {c : Nat} (hc : c < 36) : ∀ n, n ≤ np → fluR P f n c = xb (hasC P (nI c) n)
  | 0, _ => by show (if c < 36 then 0 else f c) = _; rw [if_pos hc]; rfl
  | n + 1, hn => by
    obtain ⟨a, b, ha, hb, -, -, ec⟩ := h2 n (by omega)
    rw [fluR, hasC, ui_at, flu_at h2 hc n (by omega), ec, nI_clamp (by omega)]
    by_cases hq : c = 6 * b + a
    · rw [if_pos hq, ← hq, decide_eq_true rfl, Bool.or_true]
    · rw [if_neg hq, decide_eq_false (fun z => hq ((nI_eq (by omega) (by omega)).mp z).symm), Bool.or_false]
theorem now_fl {np : Nat} {S : cS} {T : mS} (h : nowT np S T) {c : Nat} (hc : c < 36) : flC S np c = hasC (mF T 3) (nI c) np := by
  have e := hp_has (fun k hk => ⟨(h.p1 k hk).1, (h.p1 k hk).2.1⟩) (now_in h) (show c % 6 < 6 by omega) (show c / 6 < 6 by omega) np (Nat.le_refl np)
  rw [show 6 * (c / 6) + c % 6 = c by omega] at e
  show (!isSolB (cA S 11) (nI (c % 6)) (nI (c / 6)) && hpB (cF S 12) (cF S 13) (nI (c % 6)) (nI (c / 6)) np) = _
  rw [e]
  cases hh : hasC (mF T 3) (nI c) np with
  | false => rw [Bool.and_false]
  | true =>
    have hs : isSolB (cA S 11) (nI (c % 6)) (nI (c / 6)) = false := by
      rw [sol_eq h.s1]
      unfold isSolB
      rw [if_pos (nI_inB (by omega) (by omega)), nI_clamp (by omega), nI_clamp (by omega), show 6 * (c / 6) + c % 6 = c by omega]
      have : ∀ n, n ≤ np → hasC (mF T 3) (nI c) n = true → mA T 1 c = 0 := by
        intro n
        induction n with
        | zero => intro _ z; cases z
        | succ n ih =>
          intro hn z
          rw [hasC, Bool.or_eq_true] at z
          rcases z with z | z
          · exact ih (by omega) z
          · have z := of_decide_eq_true z
            have p3 := h.p3 n (by omega)
            rw [z, nI_clamp (by omega)] at p3
            exact p3
      rw [this np (Nat.le_refl np) hh]
      rfl
    rw [hs]
    rfl
theorem cnt_eq {f : Nat → Bool} {g : Nat → Int32} {n : Nat} (h : ∀ c, c < n → g c = xb (f c)) : ∀ m, m ≤ n → cntB f m = cntF g m
  | 0, _ => rfl
  | m + 1, hm => by
    rw [cntB, cntF, cnt_eq h m (by omega), h m (by omega)]
    cases f m <;> rfl
theorem tie_count {S : cS} {T : mS} {np nq : Nat} (h : Tie S T np nq) (w : Int32) : ctC S np w = rCount T np w := by
  unfold ctC rCount
  have e : cntB (flC S np) 36 = cntF (fluR (mF T 3) (mA T 10) np) 36 := cnt_eq (fun c hc => by rw [flu_at (now_in h.now) hc np (Nat.le_refl np), now_fl h.now hc]) 36 (Nat.le_refl 36)
  rw [e, h.now.c1, h.lat.d1, h.lat.f1, nI_0]
theorem tie_inP {S : cS} {T : mS} {np nq : Nat} (h : Tie S T np nq) : inP (mF T 3) np := fun k hk => by
  obtain ⟨i, j, hi, hj, e1, e2, -⟩ := now_in h.now k hk
  exact ⟨i, j, hi, hj, e1, e2⟩
theorem tie_A10 {S : cS} {T : mS} {np nq : Nat} (h : Tie S T np nq) (f : Nat → Int32) : Tie S (mA' (mS0 T) 10 f) np nq := ⟨h.now, h.mrk, h.lat, h.b1, h.b2, h.b3⟩
theorem tie_en {S : cS} {T : mS} {np nq : Nat} (h : Tie S T np nq) : (∀ k, k < np → enOk (cF S 14) (cF S 15) k) ∧ (∀ k, k < np → enOk (fun k => mF T 3 (4 * k + 2)) (fun k => mF T 3 (4 * k + 3)) k) ∧ enF (cF S 14) (cF S 15) np = enF (fun k => mF T 3 (4 * k + 2)) (fun k => mF T 3 (4 * k + 3)) np ∧ vf_n64 (enF (fun k => mF T 3 (4 * k + 2)) (fun k => mF T 3 (4 * k + 3)) np) := by
  have n24 := h.now.n24
  have hp := h.now.p1
  have hm := fun k hk => bad_m (h.now.p2 k hk)
  refine ⟨en_ok n24 (fun k hk => ?_), en_ok n24 (fun k hk => ⟨(hm k hk).2.2.1, (hm k hk).2.2.2⟩), enF_eq (fun k hk => ⟨(hp k hk).2.2.1, (hp k hk).2.2.2⟩) np (Nat.le_refl np), mgd_n (by omega) (en_m (n := np) (fun k hk => ⟨(hm k hk).2.2.1, (hm k hk).2.2.2⟩) np (Nat.le_refl np) n24)⟩
  rw [(hp k hk).2.2.1, (hp k hk).2.2.2]
  exact ⟨(hm k hk).2.2.1, (hm k hk).2.2.2⟩
theorem tie_dr {S : cS} {T : mS} {np nq : Nat} (h : Tie S T np nq) (x : Int32) : (∀ k, k < np → vf_n32 (drF (drC S x) (k + 1))) ∧ vf_n32 (drR (drC S x) np) ∧ drR (drC S x) np = drR (fun k => if x = 0 then mF T 3 (4 * k + 2) else mF T 3 (4 * k + 3)) np ∧ (∀ k, k < np → vf_n32 (drF (fun k => if x = 0 then mF T 3 (4 * k + 2) else mF T 3 (4 * k + 3)) (k + 1))) ∧ vf_n32 (drR (fun k => if x = 0 then mF T 3 (4 * k + 2) else mF T 3 (4 * k + 3)) np) := by
  have n24 := h.now.n24
  have hp := h.now.p1
  have hm := fun k hk => bad_m (h.now.p2 k hk)
  have eq : ∀ k, k < np → drC S x k = (fun k => if x = 0 then mF T 3 (4 * k + 2) else mF T 3 (4 * k + 3)) k := fun k hk => by
    show (if x = 0 then cF S 14 else cF S 15) k = if x = 0 then mF T 3 (4 * k + 2) else mF T 3 (4 * k + 3)
    by_cases hx : x = 0
    · rw [if_pos hx, if_pos hx]
      exact (hp k hk).2.2.1
    · rw [if_neg hx, if_neg hx]
      exact (hp k hk).2.2.2
  have m2 : ∀ k, k < np → mgf 131 ((fun k => if x = 0 then mF T 3 (4 * k + 2) else mF T 3 (4 * k + 3)) k) := fun k hk => by
    show mgf 131 (if x = 0 then mF T 3 (4 * k + 2) else mF T 3 (4 * k + 3))
    split
    · exact (hm k hk).2.2.1
    · exact (hm k hk).2.2.2
  have o1 := dr_ok n24 m2
  have o2 := dr_ok (A := drC S x) n24 (fun k hk => by rw [eq k hk]; exact m2 k hk)
  refine ⟨o2.1, o2.2, ?_, o1.1, o1.2⟩
  unfold drR
  rw [drF_eq eq np (Nat.le_refl np)]
theorem tie_00 : Tie S00 T00 0 0 := by
  refine ⟨⟨by decide, rfl, rfl, fun c _ => rfl, fun k hk => absurd hk (by omega), fun k hk => absurd hk (by omega), fun k hk => absurd hk (by omega), rfl, by decide +kernel, rfl, by decide +kernel, rfl, ⟨3, by decide, by decide +kernel⟩, rfl, ⟨20, by decide, rfl⟩⟩, ⟨by decide, rfl, rfl, fun c _ => rfl, fun k hk => absurd hk (by omega), fun k hk => absurd hk (by omega), fun k hk => absurd hk (by omega), rfl, by decide +kernel, rfl, by decide +kernel, rfl, ⟨3, by decide, by decide +kernel⟩, rfl, ⟨20, by decide, rfl⟩⟩, ⟨fun i j _ _ => ⟨rfl, n_d0⟩, fun i j _ _ => ⟨rfl, n_d0⟩, fun c _ => ⟨rfl, n_d0⟩, rfl, n_d0, rfl, rfl⟩, isB0, isB0, isB0⟩
