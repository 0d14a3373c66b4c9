/-! the class: gathered, gather; rows of faces -/
/-- a row of faces (rows of seven, the last place a) whose first places, up to (i, j), are G's -/
def rwF (a : Nat) (G : Nat → Nat → UInt64) (old : Nat → UInt64) (j i : Nat) : Nat → UInt64 := fun n => if n % 7 ≤ a ∧ (n / 7 < j ∨ (n / 7 = j ∧ n % 7 < i)) then G (n % 7) (n / 7) else old n
theorem rwF_00 (a : Nat) (G : Nat → Nat → UInt64) (old : Nat → UInt64) : rwF a G old 0 0 = old := by
  funext n; unfold rwF; rw [if_neg (by omega)]
theorem rwF_s {a : Nat} (G : Nat → Nat → UInt64) (old : Nat → UInt64) {j i : Nat} (hi : i ≤ a) (ha : a ≤ 6) : rwF a G old j (i + 1) = vf_upd (rwF a G old j i) (7 * j + i) (G i j) := by
  funext n
  unfold rwF vf_upd
  by_cases h : n = 7 * j + i
  · subst h
    rw [if_pos rfl, show (7 * j + i) % 7 = i by omega, show (7 * j + i) / 7 = j by omega, if_pos (by omega)]
  · rw [if_neg h]
    show ite _ _ _ = ite _ _ _
    by_cases h2 : n % 7 ≤ a ∧ (n / 7 < j ∨ (n / 7 = j ∧ n % 7 < i))
    · rw [if_pos h2, if_pos (by omega)]
    · rw [if_neg h2, if_neg (by omega)]
theorem rwF_n {a : Nat} (G : Nat → Nat → UInt64) (old : Nat → UInt64) {j : Nat} (ha : a ≤ 6) : rwF a G old j (a + 1) = rwF a G old (j + 1) 0 := by
  funext n
  unfold rwF
  by_cases h2 : n % 7 ≤ a ∧ (n / 7 < j + 1 ∨ (n / 7 = j + 1 ∧ n % 7 < 0))
  · rw [if_pos h2, if_pos (by omega)]
  · rw [if_neg h2, if_neg (by omega)]
theorem rwF_k {a : Nat} (G : Nat → Nat → UInt64) (old : Nat → UInt64) {j i : Nat} (hi : i ≤ a) (ha : a ≤ 6) (h : G i j = old (7 * j + i)) : rwF a G old j (i + 1) = rwF a G old j i := by
  rw [rwF_s G old hi ha, h]
  funext n
  unfold vf_upd
  by_cases h1 : n = 7 * j + i
  · subst h1
    rw [if_pos rfl]
    unfold rwF
    rw [if_neg (by omega)]
  · rw [if_neg h1]
theorem rwF_at {a : Nat} (G : Nat → Nat → UInt64) (old : Nat → UInt64) {j i : Nat} (hi : i ≤ a) (ha : a ≤ 6) : rwF a G old j i (7 * j + i) = old (7 * j + i) := by
  unfold rwF
  rw [if_neg (by omega)]
theorem loop2 (a b : Nat) (In : Nat → Nat → Prop) (Out : Nat → Prop) (h1 : ∀ j i, j ≤ b → i ≤ a → In j (i + 1) → In j i) (h2 : ∀ j, j ≤ b → Out (j + 1) → In j (a + 1)) (h3 : ∀ j, j ≤ b → In j 0 → Out j) (h4 : Out (b + 1)) : Out 0 := by
  have inner : ∀ j, j ≤ b → Out (j + 1) → ∀ n i, i + n = a + 1 → In j i := by
    intro j hj ho n
    induction n with
    | zero => intro i hi; have : i = a + 1 := by omega
              subst this; exact h2 j hj ho
    | succ n ih => intro i hi; exact h1 j i hj (by omega) (ih (i + 1) (by omega))
  have outer : ∀ n j, j + n = b + 1 → Out j := by
    intro n
    induction n with
    | zero => intro j hj; have : j = b + 1 := by omega
              subst this; exact h4
    | succ n ih => intro j hj; exact h3 j (by omega) (inner j (by omega) (ih (j + 1) (by omega)) (a + 1) 0 (by omega))
  exact outer (b + 1) 0 (by omega)
section C12
variable {l : Launch} {D : va_G} {ad : Nat → Nat} {cy : Nat → ClassId}
set_option maxRecDepth 100000 in
set_option maxHeartbeats 4000000 in
theorem n_gathered14 (S : cS) (np : Nat) (hnp : cI S 1 = nI np) (h24 : np ≤ 24) (fi fj : UInt64) (hok : gOkF (cF S 12) (cF S 13) (cF S 14) fi fj np) : xMet l yX0_gathered cX0_gathered 13 (some .double) 1 D ad cy [.ref 1, .ref 14, .double fi, .double fj] (cW S) (fun vs aw' => vs = [.double (gF (cF S 12) (cF S 13) (cF S 14) fi fj np)] ∧ aw' = cW S) := by
  refine xmet (Fd := xlk xfl0) (Cn := xlk xcl0) (Cl := xCt [(121, t_hat)]) (by decide) xk_X0_gathered xt_X0_gathered ⟨_, _, rfl, rfl⟩ xpl0 (xEnt_ok (List.forall_mem_cons.mpr ⟨f_hat (by omega), fun q h => by cases h⟩)) (Nat.le_of_ble_eq_true rfl) (fun WC hW => ?_)
  obtain ⟨hk, hF⟩ := hok
  have loop : ∀ (n k : Nat), k + n = np → WC (xL_X0_gathered.drop 6) [some (.ref 1), some (.ref 14), some (.double fi), none, some (.double fj), none, some (.double (gN (cF S 12) (cF S 13) (cF S 14) fi fj k)), none, some (.double (gM (cF S 12) (cF S 13) fi fj k)), none, some (.int (nI k)), none, none] [] (cW S) := by
    intro n
    induction n with
    | zero =>
      intro k hk0
      have : k = np := by omega
      subst this
      refine hW.1 (fun pc => Nat.beq pc 9) 200 6 _ _ _ ?_
      refine And.intro (fun h1 => ?_) (fun h1 => absurd ?_ h1)
      rotate_left
      · show cI S 1 ≤ nI k
        rw [hnp]
        exact Int32.le_refl _
      refine And.intro (fun h2 => ?_) (fun h2 => ?_)
      · have e2 : gF (cF S 12) (cF S 13) (cF S 14) fi fj k = FP.dconst0 := by unfold gF; rw [if_pos h2]
        rw [e2]
        exact And.intro rfl rfl
      · have e2 : gF (cF S 12) (cF S 13) (cF S 14) fi fj k = FP.ddiv (gN (cF S 12) (cF S 13) (cF S 14) fi fj k) (gM (cF S 12) (cF S 13) fi fj k) := by unfold gF; rw [if_neg h2]
        rw [e2] at hF ⊢
        exact And.intro hF (And.intro rfl rfl)
    | succ n ihn =>
      intro k hk0
      obtain ⟨o1, o2, o3, o4, o5, o6, o7, o8, o9, o10, o11⟩ := hk k (by omega)
      have ihn' := ihn (k + 1) (by omega)
      have e2 : nI k + nI 1 = nI (k + 1) := nI_add k 1
      rw [← e2] at ihn'
      refine hW.1 (fun pc => Nat.beq pc 9) 200 6 _ _ _ ?_
      refine And.intro (fun h1 => absurd (show nI np ≤ nI k by rw [← hnp]; exact h1) (nI_ge (by omega) (by omega))) (fun h1 => ?_)
      refine ⟨k, rfl, by omega, by decide, ?_⟩
      refine And.intro o1 ?_
      refine And.intro o2 ?_
      refine And.intro o3 ?_
      refine ⟨k, rfl, by omega, by decide, ?_⟩
      refine And.intro o4 ?_
      refine And.intro o5 ?_
      refine And.intro o6 ?_
      refine And.intro o7 ?_
      refine ⟨k, rfl, by omega, by decide, ?_⟩
      refine And.intro o8 ?_
      refine And.intro o9 ?_
      refine And.intro o10 ?_
      refine And.intro o11 ?_
      refine hW.2 6 _ _ _ _ ?_ ?_ ihn'
      · exact And.intro rfl (And.intro rfl (And.intro rfl (And.intro rfl (And.intro rfl (And.intro rfl (And.intro rfl (trivial)))))))
      · rfl
  exact hW.1 (fun pc => Nat.beq pc 9) 200 0 _ _ _ (loop np 0 (by omega))
set_option maxRecDepth 100000 in
set_option maxHeartbeats 4000000 in
theorem n_gathered15 (S : cS) (np : Nat) (hnp : cI S 1 = nI np) (h24 : np ≤ 24) (fi fj : UInt64) (hok : gOkF (cF S 12) (cF S 13) (cF S 15) fi fj np) : xMet l yX0_gathered cX0_gathered 13 (some .double) 1 D ad cy [.ref 1, .ref 15, .double fi, .double fj] (cW S) (fun vs aw' => vs = [.double (gF (cF S 12) (cF S 13) (cF S 15) fi fj np)] ∧ aw' = cW S) := by
  refine xmet (Fd := xlk xfl0) (Cn := xlk xcl0) (Cl := xCt [(121, t_hat)]) (by decide) xk_X0_gathered xt_X0_gathered ⟨_, _, rfl, rfl⟩ xpl0 (xEnt_ok (List.forall_mem_cons.mpr ⟨f_hat (by omega), fun q h => by cases h⟩)) (Nat.le_of_ble_eq_true rfl) (fun WC hW => ?_)
  obtain ⟨hk, hF⟩ := hok
  have loop : ∀ (n k : Nat), k + n = np → WC (xL_X0_gathered.drop 6) [some (.ref 1), some (.ref 15), some (.double fi), none, some (.double fj), none, some (.double (gN (cF S 12) (cF S 13) (cF S 15) fi fj k)), none, some (.double (gM (cF S 12) (cF S 13) fi fj k)), none, some (.int (nI k)), none, none] [] (cW S) := by
    intro n
    induction n with
    | zero =>
      intro k hk0
      have : k = np := by omega
      subst this
      refine hW.1 (fun pc => Nat.beq pc 9) 200 6 _ _ _ ?_
      refine And.intro (fun h1 => ?_) (fun h1 => absurd ?_ h1)
      rotate_left
      · show cI S 1 ≤ nI k
        rw [hnp]
        exact Int32.le_refl _
      refine And.intro (fun h2 => ?_) (fun h2 => ?_)
      · have e2 : gF (cF S 12) (cF S 13) (cF S 15) fi fj k = FP.dconst0 := by unfold gF; rw [if_pos h2]
        rw [e2]
        exact And.intro rfl rfl
      · have e2 : gF (cF S 12) (cF S 13) (cF S 15) fi fj k = FP.ddiv (gN (cF S 12) (cF S 13) (cF S 15) fi fj k) (gM (cF S 12) (cF S 13) fi fj k) := by unfold gF; rw [if_neg h2]
        rw [e2] at hF ⊢
        exact And.intro hF (And.intro rfl rfl)
    | succ n ihn =>
      intro k hk0
      obtain ⟨o1, o2, o3, o4, o5, o6, o7, o8, o9, o10, o11⟩ := hk k (by omega)
      have ihn' := ihn (k + 1) (by omega)
      have e2 : nI k + nI 1 = nI (k + 1) := nI_add k 1
      rw [← e2] at ihn'
      refine hW.1 (fun pc => Nat.beq pc 9) 200 6 _ _ _ ?_
      refine And.intro (fun h1 => absurd (show nI np ≤ nI k by rw [← hnp]; exact h1) (nI_ge (by omega) (by omega))) (fun h1 => ?_)
      refine ⟨k, rfl, by omega, by decide, ?_⟩
      refine And.intro o1 ?_
      refine And.intro o2 ?_
      refine And.intro o3 ?_
      refine ⟨k, rfl, by omega, by decide, ?_⟩
      refine And.intro o4 ?_
      refine And.intro o5 ?_
      refine And.intro o6 ?_
      refine And.intro o7 ?_
      refine ⟨k, rfl, by omega, by decide, ?_⟩
      refine And.intro o8 ?_
      refine And.intro o9 ?_
      refine And.intro o10 ?_
      refine And.intro o11 ?_
      refine hW.2 6 _ _ _ _ ?_ ?_ ihn'
      · exact And.intro rfl (And.intro rfl (And.intro rfl (And.intro rfl (And.intro rfl (And.intro rfl (And.intro rfl (trivial)))))))
      · rfl
  exact hW.1 (fun pc => Nat.beq pc 9) 200 0 _ _ _ (loop np 0 (by omega))
def t_gathered (st : List Value) (aw : xA) (k : List Value → xA → Prop) : Prop := match st with
  | .double fj :: .double fi :: .ref r :: .ref 1 :: st => match xsm st with
    | true => ∃ (S : cS) (np : Nat) (b : Bool), aw = cW S ∧ r = (if b then 14 else 15) ∧ cI S 1 = nI np ∧ np ≤ 24 ∧ gOkF (cF S 12) (cF S 13) (cF S (if b then 14 else 15)) fi fj np ∧ k (.double (gF (cF S 12) (cF S 13) (cF S (if b then 14 else 15)) fi fj np) :: st) (cW S)
    | false => False
  | _ => False
theorem f_gathered {d : Nat} (hd : 2 ≤ d) : xEnt l d D ad cy RX0 95 t_gathered := xEnt_S (y' := yX0_gathered) (cc' := cX0_gathered) (n' := 13) (ret' := some .double) (d' := 1) (j := 47) 4 (by decide +kernel) (by decide +kernel) (by omega) (fun st aw k h => by
  match st, h with
  | .double fj :: .double fi :: .ref r :: .ref 1 :: st, h =>
    cases hs : xsm st with
    | false => simp only [t_gathered, hs] at h
    | true =>
      simp only [t_gathered, hs] at h
      obtain ⟨S, np, b, rfl, rfl, hnp, h24, hok, h2⟩ := h
      cases b with
      | true => exact ⟨[.ref 1, .ref 14, .double fi, .double fj], st, _, rfl, rfl, hs, n_gathered14 S np hnp h24 fi fj hok, fun vs aw' h9 => by obtain ⟨rfl, rfl⟩ := h9; exact h2⟩
      | false => exact ⟨[.ref 1, .ref 15, .double fi, .double fj], st, _, rfl, rfl, hs, n_gathered15 S np hnp h24 fi fj hok, fun vs aw' h9 => by obtain ⟨rfl, rfl⟩ := h9; exact h2⟩)
/-- where the middle of a face lies -/
abbrev mdU (i : Nat) : UInt64 := FP.dadd (FP.i2d (nI i)) FP.dconst0
abbrev mdV (i : Nat) : UInt64 := FP.dadd (FP.i2d (nI i)) 4602678819172646912
theorem md_n : ∀ i : Fin 7, vf_n64 (mdU i.val) ∧ vf_n64 (mdV i.val) := by unfold vf_n64; decide +kernel
set_option maxRecDepth 100000 in
set_option maxHeartbeats 4000000 in
theorem n_gather3 (S : cS) (np : Nat) (hnp : cI S 1 = nI np) (h24 : np ≤ 24) (hok : ∀ j i, j ≤ 5 → i ≤ 6 → gOkF (cF S 12) (cF S 13) (cF S 14) (mdU i) (mdV j) np) : xMet l yX0_gather cX0_gather 5 none 2 D ad cy [.ref 3, .ref 1, .ref 14] (cW S) (fun vs aw' => vs = [] ∧ aw' = cW (cD' S 21 (rwF 6 (fun i j => gF (cF S 12) (cF S 13) (cF S 14) (mdU i) (mdV j) np) (cD S 21) (6) (0)))) := by
  refine xmet (Fd := xlk xfl0) (Cn := xlk xcl0) (Cl := xCt [(87, t_faceIndex), (95, t_gathered)]) (by decide) xk_X0_gather xt_X0_gather ⟨_, _, rfl, rfl⟩ xpl0 (xEnt_ok (List.forall_mem_cons.mpr ⟨f_faceIndex0 (by omega), List.forall_mem_cons.mpr ⟨f_gathered (by omega), fun q h => by cases h⟩⟩)) (Nat.le_of_ble_eq_true rfl) (fun WC hW => ?_)
  have h9 := loop2 6 5 (fun j i => WC (xL_X0_gather.drop 8) [some (.ref 3), some (.ref 1), some (.ref 14), some (.int (nI j)), some (.int (nI i))] [] (cW (cD' S 21 (rwF 6 (fun i j => gF (cF S 12) (cF S 13) (cF S 14) (mdU i) (mdV j) np) (cD S 21) (j) (i))))) (fun j => WC (xL_X0_gather.drop 2) [some (.ref 3), some (.ref 1), some (.ref 14), some (.int (nI j)), none] [] (cW (cD' S 21 (rwF 6 (fun i j => gF (cF S 12) (cF S 13) (cF S 14) (mdU i) (mdV j) np) (cD S 21) (j) (0)))))
    (fun j i hj hi next => by
      rw [rwF_s _ _ hi (by decide), ← nI_add i 1] at next
      have ok := hok j i hj hi
      have m1 := (md_n ⟨i, by omega⟩).1
      have m2 := (md_n ⟨j, by omega⟩).2
      generalize rwF 6 (fun i j => gF (cF S 12) (cF S 13) (cF S 14) (mdU i) (mdV j) np) (cD S 21) j i = F at next ⊢
      refine hW.1 (fun pc => Nat.beq pc 13) 200 8 _ _ _ ?_
      refine And.intro (fun h1 => absurd h1 (nI_nlt hi (by decide))) (fun h1 => ?_)
      refine And.intro m1 (And.intro m2 ?_)
      refine ⟨cD' S 21 F, np, true, rfl, rfl, hnp, h24, ok, ?_⟩
      refine ⟨7 * j + i, by rw [pk_mul, nI_add, Nat.mul_comm], by omega, by decide, ?_⟩
      exact next)
    (fun j hj next => by
      rw [rwF_n _ _ (by decide)]
      rw [← nI_add j 1] at next
      refine hW.1 (fun pc => Nat.beq pc 2 || Nat.beq pc 13) 200 8 _ _ _ ?_
      refine And.intro (fun h1 => ?_) (fun h1 => absurd (nI_lt (by decide) (by decide)) h1)
      refine hW.2 2 _ _ _ _ ?_ ?_ next
      · exact And.intro rfl (And.intro rfl (And.intro rfl (And.intro rfl (trivial))))
      · rfl)
    (fun j hj next => by
      refine hW.1 (fun pc => Nat.beq pc 2 || Nat.beq pc 13) 200 2 _ _ _ ?_
      exact And.intro (fun h1 => absurd h1 (nI_nlt hj (by decide))) (fun h1 => next))
    (by
      refine hW.1 (fun pc => Nat.beq pc 2 || Nat.beq pc 13) 200 2 _ _ _ ?_
      exact And.intro (fun h1 => And.intro rfl rfl) (fun h1 => absurd (nI_lt (by decide) (by decide)) h1))
  rw [rwF_00] at h9
  exact hW.1 (fun pc => Nat.beq pc 2) 200 0 _ _ _ h9
set_option maxRecDepth 100000 in
set_option maxHeartbeats 4000000 in
theorem n_gather4 (S : cS) (np : Nat) (hnp : cI S 1 = nI np) (h24 : np ≤ 24) (hok : ∀ j i, j ≤ 6 → i ≤ 5 → gOkF (cF S 12) (cF S 13) (cF S 15) (mdV i) (mdU j) np) : xMet l yX0_gather cX0_gather 5 none 2 D ad cy [.ref 4, .ref 1, .ref 15] (cW S) (fun vs aw' => vs = [] ∧ aw' = cW (cD' S 22 (rwF 5 (fun i j => gF (cF S 12) (cF S 13) (cF S 15) (mdV i) (mdU j) np) (cD S 22) (7) (0)))) := by
  refine xmet (Fd := xlk xfl0) (Cn := xlk xcl0) (Cl := xCt [(87, t_faceIndex), (95, t_gathered)]) (by decide) xk_X0_gather xt_X0_gather ⟨_, _, rfl, rfl⟩ xpl0 (xEnt_ok (List.forall_mem_cons.mpr ⟨f_faceIndex0 (by omega), List.forall_mem_cons.mpr ⟨f_gathered (by omega), fun q h => by cases h⟩⟩)) (Nat.le_of_ble_eq_true rfl) (fun WC hW => ?_)
  have h9 := loop2 5 6 (fun j i => WC (xL_X0_gather.drop 8) [some (.ref 4), some (.ref 1), some (.ref 15), some (.int (nI j)), some (.int (nI i))] [] (cW (cD' S 22 (rwF 5 (fun i j => gF (cF S 12) (cF S 13) (cF S 15) (mdV i) (mdU j) np) (cD S 22) (j) (i))))) (fun j => WC (xL_X0_gather.drop 2) [some (.ref 4), some (.ref 1), some (.ref 15), some (.int (nI j)), none] [] (cW (cD' S 22 (rwF 5 (fun i j => gF (cF S 12) (cF S 13) (cF S 15) (mdV i) (mdU j) np) (cD S 22) (j) (0)))))
    (fun j i hj hi next => by
      rw [rwF_s _ _ hi (by decide), ← nI_add i 1] at next
      have ok := hok j i hj hi
      have m1 := (md_n ⟨i, by omega⟩).2
      have m2 := (md_n ⟨j, by omega⟩).1
      generalize rwF 5 (fun i j => gF (cF S 12) (cF S 13) (cF S 15) (mdV i) (mdU j) np) (cD S 22) j i = F at next ⊢
      refine hW.1 (fun pc => Nat.beq pc 13) 200 8 _ _ _ ?_
      refine And.intro (fun h1 => absurd h1 (nI_nlt hi (by decide))) (fun h1 => ?_)
      refine And.intro m1 (And.intro m2 ?_)
      refine ⟨cD' S 22 F, np, false, rfl, rfl, hnp, h24, ok, ?_⟩
      refine ⟨7 * j + i, by rw [pk_mul, nI_add, Nat.mul_comm], by omega, by decide, ?_⟩
      exact next)
    (fun j hj next => by
      rw [rwF_n _ _ (by decide)]
      rw [← nI_add j 1] at next
      refine hW.1 (fun pc => Nat.beq pc 2 || Nat.beq pc 13) 200 8 _ _ _ ?_
      refine And.intro (fun h1 => ?_) (fun h1 => absurd (nI_lt (by decide) (by decide)) h1)
      refine hW.2 2 _ _ _ _ ?_ ?_ next
      · exact And.intro rfl (And.intro rfl (And.intro rfl (And.intro rfl (trivial))))
      · rfl)
    (fun j hj next => by
      refine hW.1 (fun pc => Nat.beq pc 2 || Nat.beq pc 13) 200 2 _ _ _ ?_
      exact And.intro (fun h1 => absurd h1 (nI_nlt hj (by decide))) (fun h1 => next))
    (by
      refine hW.1 (fun pc => Nat.beq pc 2 || Nat.beq pc 13) 200 2 _ _ _ ?_
      exact And.intro (fun h1 => And.intro rfl rfl) (fun h1 => absurd (nI_lt (by decide) (by decide)) h1))
  rw [rwF_00] at h9
  exact hW.1 (fun pc => Nat.beq pc 2) 200 0 _ _ _ h9
def t_gather (st : List Value) (aw : xA) (k : List Value → xA → Prop) : Prop := match st with
  | .ref sp :: .ref 1 :: .ref r :: st => match xsm st with
    | true => ∃ (S : cS) (np : Nat), aw = cW S ∧ cI S 1 = nI np ∧ np ≤ 24 ∧ ((r = 3 ∧ sp = 14 ∧ (∀ j i, j ≤ 5 → i ≤ 6 → gOkF (cF S 12) (cF S 13) (cF S 14) (mdU i) (mdV j) np) ∧ k st (cW (cD' S 21 (rwF 6 (fun i j => gF (cF S 12) (cF S 13) (cF S 14) (mdU i) (mdV j) np) (cD S 21) 6 0)))) ∨ (r = 4 ∧ sp = 15 ∧ (∀ j i, j ≤ 6 → i ≤ 5 → gOkF (cF S 12) (cF S 13) (cF S 15) (mdV i) (mdU j) np) ∧ k st (cW (cD' S 22 (rwF 5 (fun i j => gF (cF S 12) (cF S 13) (cF S 15) (mdV i) (mdU j) np) (cD S 22) 7 0)))))
    | false => False
  | _ => False
theorem f_gather {d : Nat} (hd : 3 ≤ d) : xEnt l d D ad cy RX4 434 t_gather := xEnt_V (y' := yX0_gather) (cc' := cX0_gather) (n' := 5) (ret' := none) (d' := 2) (j := 217) 2 (by decide +kernel) (by decide +kernel) (by omega) (fun st aw k h => by
  match st, h with
  | .ref sp :: .ref 1 :: .ref r :: st, h =>
    cases hs : xsm st with
    | false => simp only [t_gather, hs] at h
    | true =>
      simp only [t_gather, hs] at h
      obtain ⟨S, np, rfl, hnp, h24, h2⟩ := h
      rcases h2 with ⟨rfl, rfl, hok, h2⟩ | ⟨rfl, rfl, hok, h2⟩
      · exact ⟨[.ref 1, .ref 14], st, _, 3, 0, _, rfl, rfl, hs, rfl, ⟨_, rfl, rfl⟩, n_gather3 S np hnp h24 hok, fun vs aw' h9 => by obtain ⟨rfl, rfl⟩ := h9; exact h2⟩
      · exact ⟨[.ref 1, .ref 15], st, _, 4, 0, _, rfl, rfl, hs, rfl, ⟨_, rfl, rfl⟩, n_gather4 S np hnp h24 hok, fun vs aw' h9 => by obtain ⟨rfl, rfl⟩ := h9; exact h2⟩)
end C12
