/-! the tie: solid, add, particle, pressure, face, rest -/
theorem ui_at (f : Nat → Int32) (k j : Nat) (x : Int32) : upd f k x j = if j = k then x else f j := rfl
theorem bad_in {x y a b : UInt32} (h : badA x y a b = false) : ∃ i j : Nat, i < 6 ∧ j < 6 ∧ FP.f2i x = nI i ∧ FP.f2i y = nI j ∧ cellI x y = nI (6 * j + i) := by
  unfold badA at h
  rw [Bool.or_eq_false_iff, Bool.or_eq_false_iff] at h
  obtain ⟨a1, ha1, ea⟩ := place_cell h.1
  obtain ⟨b1, hb1, eb⟩ := place_cell h.2.1
  exact ⟨a1, b1, ha1, hb1, ea, eb, by unfold cellI; rw [ea, eb, pk_mul, nI_add]⟩
theorem nI_ij {i j a b : Nat} (hi : i < 6) (hj : j < 6) (ha : a < 6) (hb : b < 6) : nI (6 * b + a) = nI (6 * j + i) ↔ (nI a = nI i ∧ nI b = nI j) := by
  rw [nI_eq (by omega) (by omega), nI_eq (by omega) (by omega), nI_eq (by omega) (by omega)]
  omega
theorem hp_has {X Y P : Nat → UInt32} {np : Nat} (h1 : ∀ k, k < np → X k = P (4 * k) ∧ Y k = P (4 * k + 1)) (h2 : ∀ k, k < np → ∃ i j : Nat, i < 6 ∧ j < 6 ∧ FP.f2i (P (4 * k)) = nI i ∧ FP.f2i (P (4 * k + 1)) = nI j ∧ cellI (P (4 * k)) (P (4 * k + 1)) = nI (6 * j + i)) {i j : Nat} (hi : i < 6) (hj : j < 6) : ∀ n, n ≤ np → hpB X Y (nI i) (nI j) n = hasC P (nI (6 * j + i)) n
  | 0, _ => rfl
  | n + 1, hn => by
    obtain ⟨a, b, ha, hb, ea, eb, ec⟩ := h2 n (by omega)
    have hx := h1 n (by omega)
    rw [hpB, hasC, hp_has h1 h2 hi hj n (by omega), hx.1, hx.2, ea, eb, ec]
    congr 1
    by_cases hq : nI (6 * b + a) = nI (6 * j + i)
    · obtain ⟨z1, z2⟩ := (nI_ij hi hj ha hb).mp hq
      rw [decide_eq_true hq, decide_eq_true z1, decide_eq_true z2]
      rfl
    · rw [decide_eq_false hq]
      by_cases z1 : nI a = nI i
      · by_cases z2 : nI b = nI j
        · exact absurd ((nI_ij hi hj ha hb).mpr ⟨z1, z2⟩) hq
        · rw [decide_eq_false z2, Bool.and_false]
      · rw [decide_eq_false z1, Bool.false_and]
theorem has_no {P : Nat → UInt32} {c : Int32} : ∀ n, hasC P c n = false → ∀ k, k < n → cellI (P (4 * k)) (P (4 * k + 1)) ≠ c
  | 0, _, k, hk => absurd hk (by omega)
  | n + 1, h, k, hk => by
    rw [hasC, Bool.or_eq_false_iff] at h
    by_cases e : k = n
    · subst e
      exact of_decide_eq_false h.2
    · exact has_no n h.1 k (by omega)
theorem now_in {np : Nat} {S : cS} {T : mS} (h : nowT np S T) : ∀ k, k < np → ∃ i j : Nat, i < 6 ∧ j < 6 ∧ FP.f2i (mF T 3 (4 * k)) = nI i ∧ FP.f2i (mF T 3 (4 * k + 1)) = nI j ∧ cellI (mF T 3 (4 * k)) (mF T 3 (4 * k + 1)) = nI (6 * j + i) := fun k hk => bad_in (h.p2 k hk)
theorem sol_eq {f g : Nat → Int32} (h : ∀ c, c < 36 → f c = g c) (x y : Int32) : isSolB f x y = isSolB g x y := by
  unfold isSolB
  by_cases hin : inB x y = true
  · obtain ⟨i, j, hi, hj, rfl, rfl⟩ := inB_nI hin
    rw [if_pos hin, if_pos hin, nI_clamp (by omega), nI_clamp (by omega), h _ (by omega)]
  · rw [if_neg hin, if_neg hin]
theorem isB_ans {f : Nat → Int32} (h : isB f) (c : Nat) : xb (decide (f c ≠ 0)) = f c := by
  obtain ⟨b, hb⟩ := h c
  rw [hb]
  cases b <;> rfl
theorem tie_solid {S : cS} {T : mS} {np nq : Nat} (h : Tie S T np nq) (x y : Int32) (b : Bool) : cOk (qSolid S np x y b) (.int (rSolid T np x y b).1) (rSolid T np x y b).2 np nq := by
  unfold qSolid rSolid
  by_cases hin : inB x y = true
  · rw [if_pos hin, if_pos hin]
    obtain ⟨i, j, hi, hj, rfl, rfl⟩ := inB_nI hin
    have e0 : nI 6 * nI j + nI i = nI (6 * j + i) := by rw [pk_mul, nI_add]
    rw [hp_has (fun k hk => ⟨(h.now.p1 k hk).1, (h.now.p1 k hk).2.1⟩) (now_in h.now) hi hj np (Nat.le_refl np), e0, nI_clamp (by omega), nI_clamp (by omega)]
    by_cases hb : (b && hasC (mF T 3) (nI (6 * j + i)) np) = true
    · rw [if_pos hb, if_pos hb]
      exact ⟨rfl, Nat.le_of_ble_eq_true rfl, fun (z : 2 = 0) => absurd z (by decide), fun _ => rfl, tie_S00 h _ _⟩
    · rw [if_neg hb, if_neg hb]
      have hb : b = true → hasC (mF T 3) (nI (6 * j + i)) np = false := fun z => by rw [z, Bool.true_and] at hb; cases hh : hasC (mF T 3) (nI (6 * j + i)) np <;> simp_all
      obtain ⟨h1, h2, h3, h4, h5, h6⟩ := h
      have ea : xb (isSolB (cA S 11) (nI i) (nI j)) = mA T 1 (6 * j + i) := by
        rw [sol_eq h1.s1]
        unfold isSolB
        rw [if_pos (nI_inB hi hj), nI_clamp (by omega), nI_clamp (by omega)]
        exact isB_ans h4 _
      refine ⟨rfl, Nat.le_of_ble_eq_true rfl, fun _ => by rw [ea], fun z => absurd rfl z, ⟨h1.n24, h1.c1, h1.c2, ?_, h1.p1, h1.p2, ?_, h1.e1, h1.o1, h1.e2, h1.o2, h1.e3, h1.o3, h1.e4, h1.o4⟩, ⟨h2.n24, h2.c1, h2.c2, ?_, h2.p1, h2.p2, ?_, h2.e1, h2.o1, h2.e2, h2.o2, h2.e3, h2.o3, h2.e4, h2.o4⟩, h3, isB_upd h4 _ _, isB_upd h5 _ _, h6⟩
      · intro c hc
        show upd (cA S 11) (6 * j + i) (xb b) c = upd (mA T 1) (6 * j + i) (xb b) c
        rw [ui_at, ui_at, h1.s1 c hc]
      · intro k hk
        show upd (mA T 1) (6 * j + i) (xb b) (cellI (mF T 3 (4 * k)) (mF T 3 (4 * k + 1))).toNatClampNeg = 0
        rw [ui_at]
        obtain ⟨a1, b1, ha1, hb1, -, -, ec⟩ := now_in h1 k hk
        have p3 := h1.p3 k hk
        rw [ec] at p3 ⊢
        rw [nI_clamp (by omega)] at p3 ⊢
        by_cases hq : 6 * b1 + a1 = 6 * j + i
        · rw [if_pos hq]
          cases hbb : b with
          | false => rfl
          | true =>
            have := has_no np (hb hbb) k hk
            rw [ec, hq] at this
            exact absurd rfl this
        · rw [if_neg hq]
          exact p3
      · intro c hc
        show cA S 16 c = upd (mA T 1) (6 * j + i) (xb b) (36 + c)
        rw [ui_at, if_neg (by omega)]
        exact h2.s1 c hc
      · intro k hk
        have p3 := h2.p3 k hk
        show upd (mA T 1) (6 * j + i) (xb b) (36 + (cellI (mF T 3 (96 + 4 * k)) (mF T 3 (96 + (4 * k + 1)))).toNatClampNeg) = 0
        rw [ui_at, if_neg (by omega)]
        exact p3
  · rw [if_neg hin, if_neg hin]
    exact ⟨rfl, Nat.le_of_ble_eq_true rfl, fun (z : 1 = 0) => absurd z (by decide), fun _ => rfl, tie_S00 h _ _⟩
theorem vu_at {α : Type} (f : Nat → α) (k j : Nat) (x : α) : vf_upd f k x j = if j = k then x else f j := rfl
def qdU (P : Nat → UInt32) (n : Nat) (x y a b : UInt32) : Nat → UInt32 := vf_upd (vf_upd (vf_upd (vf_upd P (4 * n) x) (4 * n + 1) y) (4 * n + 2) a) (4 * n + 3) b
theorem qd_ne (P : Nat → UInt32) (n : Nat) (x y a b : UInt32) {m : Nat} (h : m < 4 * n ∨ 4 * n + 4 ≤ m) : qdU P n x y a b m = P m := by
  unfold qdU
  rw [vu_at, if_neg (by omega), vu_at, if_neg (by omega), vu_at, if_neg (by omega), vu_at, if_neg (by omega)]
theorem qd_0 (P : Nat → UInt32) (n : Nat) (x y a b : UInt32) : qdU P n x y a b (4 * n) = x := by
  unfold qdU
  rw [vu_at, if_neg (by omega), vu_at, if_neg (by omega), vu_at, if_neg (by omega), vu_at, if_pos rfl]
theorem qd_1 (P : Nat → UInt32) (n : Nat) (x y a b : UInt32) : qdU P n x y a b (4 * n + 1) = y := by
  unfold qdU
  rw [vu_at, if_neg (by omega), vu_at, if_neg (by omega), vu_at, if_pos rfl]
theorem qd_2 (P : Nat → UInt32) (n : Nat) (x y a b : UInt32) : qdU P n x y a b (4 * n + 2) = a := by
  unfold qdU
  rw [vu_at, if_neg (by omega), vu_at, if_pos rfl]
theorem qd_3 (P : Nat → UInt32) (n : Nat) (x y a b : UInt32) : qdU P n x y a b (4 * n + 3) = b := by
  unfold qdU
  rw [vu_at, if_pos rfl]
theorem tie_add {S : cS} {T : mS} {np nq : Nat} (h : Tie S T np nq) (x y a b : UInt32) : ∃ np', cOk (qAdd S np x y a b) (.int (rAdd T np x y a b).1) (rAdd T np x y a b).2 np' nq := by
  have hob := ok_bad x y a b
  unfold qAdd rAdd
  by_cases hbad : badA x y a b = true
  · rw [hbad] at hob
    rw [if_pos hbad, hob]
    exact ⟨np, rfl, Nat.le_of_ble_eq_true rfl, fun (z : 1 = 0) => absurd z (by decide), fun _ => rfl, tie_S00 h _ _⟩
  · have hbad : badA x y a b = false := by cases hq : badA x y a b <;> simp_all
    rw [hbad] at hob
    obtain ⟨i, j, hi, hj, ei, ej, ec⟩ := bad_in hbad
    rw [hbad, hob, ei, ej, ec, if_pos (show (!false) = true from rfl), if_neg (show ¬ (false = true) by decide), nI_clamp (by omega), sol_eq h.now.s1]
    have es : isSolB (mA T 1) (nI i) (nI j) = decide (mA T 1 (6 * j + i) ≠ 0) := by
      unfold isSolB
      rw [if_pos (nI_inB hi hj), nI_clamp (by omega), nI_clamp (by omega)]
    rw [es]
    by_cases hs : mA T 1 (6 * j + i) ≠ 0
    · rw [if_pos (decide_eq_true hs), if_pos hs]
      exact ⟨np, rfl, Nat.le_of_ble_eq_true rfl, fun (z : 1 = 0) => absurd z (by decide), fun _ => rfl, tie_S00 h _ _⟩
    · rw [if_neg (by rw [decide_eq_false hs]; decide), if_neg hs]
      have n24 := h.now.n24
      by_cases h24 : np = 24
      · rw [if_neg (by omega), if_pos h24]
        exact ⟨np, rfl, Nat.le_of_ble_eq_true rfl, fun (z : 2 = 0) => absurd z (by decide), fun _ => rfl, tie_S00 h _ _⟩
      · rw [if_pos (by omega), if_neg h24]
        obtain ⟨h1, h2, h3, h4, h5, h6⟩ := h
        refine ⟨np + 1, rfl, Nat.le_of_ble_eq_true rfl, fun _ => by rw [h1.c1], fun z => absurd rfl z, ⟨by omega, ?_, rfl, h1.s1, ?_, ?_, ?_, h1.e1, h1.o1, h1.e2, h1.o2, h1.e3, h1.o3, h1.e4, h1.o4⟩, ⟨h2.n24, h2.c1, h2.c2, h2.s1, ?_, ?_, ?_, h2.e1, h2.o1, h2.e2, h2.o2, h2.e3, h2.o3, h2.e4, h2.o4⟩, h3, h4, h5, h6⟩
        · show cI S 1 + nI 1 = nI (np + 1)
          rw [h1.c1, nI_add]
        · intro k hk
          show vf_upd (cF S 12) np x k = qdU (mF T 3) np x y a b (4 * k) ∧ vf_upd (cF S 13) np y k = qdU (mF T 3) np x y a b (4 * k + 1) ∧ vf_upd (cF S 14) np a k = qdU (mF T 3) np x y a b (4 * k + 2) ∧ vf_upd (cF S 15) np b k = qdU (mF T 3) np x y a b (4 * k + 3)
          by_cases e : k = np
          · subst e
            rw [qd_0, qd_1, qd_2, qd_3, vu_at, vu_at, vu_at, vu_at, if_pos rfl, if_pos rfl, if_pos rfl, if_pos rfl]
            exact ⟨rfl, rfl, rfl, rfl⟩
          · rw [qd_ne _ _ _ _ _ _ (Or.inl (by omega)), qd_ne _ _ _ _ _ _ (Or.inl (by omega)), qd_ne _ _ _ _ _ _ (Or.inl (by omega)), qd_ne _ _ _ _ _ _ (Or.inl (by omega)), vu_at, vu_at, vu_at, vu_at, if_neg e, if_neg e, if_neg e, if_neg e]
            exact h1.p1 k (by omega)
        · intro k hk
          show badA (qdU (mF T 3) np x y a b (4 * k)) (qdU (mF T 3) np x y a b (4 * k + 1)) (qdU (mF T 3) np x y a b (4 * k + 2)) (qdU (mF T 3) np x y a b (4 * k + 3)) = false
          by_cases e : k = np
          · subst e
            rw [qd_0, qd_1, qd_2, qd_3]
            exact hbad
          · rw [qd_ne _ _ _ _ _ _ (Or.inl (by omega)), qd_ne _ _ _ _ _ _ (Or.inl (by omega)), qd_ne _ _ _ _ _ _ (Or.inl (by omega)), qd_ne _ _ _ _ _ _ (Or.inl (by omega))]
            exact h1.p2 k (by omega)
        · intro k hk
          show mA T 1 (cellI (qdU (mF T 3) np x y a b (4 * k)) (qdU (mF T 3) np x y a b (4 * k + 1))).toNatClampNeg = 0
          by_cases e : k = np
          · subst e
            rw [qd_0, qd_1, ec, nI_clamp (by omega)]
            exact Decidable.of_not_not hs
          · rw [qd_ne _ _ _ _ _ _ (Or.inl (by omega)), qd_ne _ _ _ _ _ _ (Or.inl (by omega))]
            exact h1.p3 k (by omega)
        · intro k hk
          show cF S 17 k = qdU (mF T 3) np x y a b (96 + 4 * k) ∧ cF S 18 k = qdU (mF T 3) np x y a b (96 + (4 * k + 1)) ∧ cF S 19 k = qdU (mF T 3) np x y a b (96 + (4 * k + 2)) ∧ cF S 20 k = qdU (mF T 3) np x y a b (96 + (4 * k + 3))
          rw [qd_ne _ _ _ _ _ _ (Or.inr (by omega)), qd_ne _ _ _ _ _ _ (Or.inr (by omega)), qd_ne _ _ _ _ _ _ (Or.inr (by omega)), qd_ne _ _ _ _ _ _ (Or.inr (by omega))]
          exact h2.p1 k hk
        · intro k hk
          show badA (qdU (mF T 3) np x y a b (96 + 4 * k)) (qdU (mF T 3) np x y a b (96 + (4 * k + 1))) (qdU (mF T 3) np x y a b (96 + (4 * k + 2))) (qdU (mF T 3) np x y a b (96 + (4 * k + 3))) = false
          rw [qd_ne _ _ _ _ _ _ (Or.inr (by omega)), qd_ne _ _ _ _ _ _ (Or.inr (by omega)), qd_ne _ _ _ _ _ _ (Or.inr (by omega)), qd_ne _ _ _ _ _ _ (Or.inr (by omega))]
          exact h2.p2 k hk
        · intro k hk
          show mA T 1 (36 + (cellI (qdU (mF T 3) np x y a b (96 + 4 * k)) (qdU (mF T 3) np x y a b (96 + (4 * k + 1)))).toNatClampNeg) = 0
          rw [qd_ne _ _ _ _ _ _ (Or.inr (by omega)), qd_ne _ _ _ _ _ _ (Or.inr (by omega))]
          exact h2.p3 k hk
