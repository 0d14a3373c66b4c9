/-! the reference: copySettings, back, mark, count, energy, drift -/
theorem cpy_0 {α : Type} (f : Nat → α) (sp dp : Nat) : va_cpy f f sp dp 0 = f := by
  funext k
  unfold va_cpy
  rw [if_neg (by omega)]
theorem cpy_s {α : Type} (f : Nat → α) (u : (Nat → α) → Nat → α → Nat → α) (hu : ∀ g k v, u g k v = fun j => if j = k then v else g j) {sp dp c n : Nat} (hc : c < n) (hd : sp + n ≤ dp ∨ dp + n ≤ sp) : va_cpy f f sp dp (c + 1) = u (va_cpy f f sp dp c) (dp + c) (va_cpy f f sp dp c (sp + c)) := by
  rw [hu]
  funext k
  unfold va_cpy
  by_cases h1 : k = dp + c
  · subst h1
    rw [if_pos (by omega), if_pos rfl, if_neg (by omega)]
    congr 1
    omega
  · rw [if_neg h1]
    by_cases h2 : dp ≤ k ∧ k < dp + c
    · rw [if_pos (by omega), if_pos h2]
    · rw [if_neg (by omega), if_neg h2]
theorem isB_cpy {f : Nat → Int32} (h : isB f) (sp dp n : Nat) : isB (va_cpy f f sp dp n) := fun i => by
  unfold va_cpy
  split
  · exact h _
  · exact h _
/-- copySettings(a, b) -/
def rCopy (S : mS) (a b : Nat) : mS :=
  mA' (mD' (mF' (mD' (mA' (mF' (mA' S 1 (va_cpy (mA S 1) (mA S 1) (36 * a) (36 * b) 36)) 3 (va_cpy (mF S 3) (mF S 3) (96 * a) (96 * b) 96)) 2 (upd (mA S 2) b (mA S 2 a))) 4 (vf_upd (mD S 4) b (mD S 4 a))) 5 (vf_upd (mF S 5) b (mF S 5 a))) 6 (vf_upd (mD S 6) b (mD S 6 a))) 7 (upd (mA S 7) b (mA S 7 a))
/-- the cells with a particle, marked in the row f -/
def fluR (pt : Nat → UInt32) (f : Nat → Int32) : Nat → Nat → Int32
  | 0 => fun i => if i < 36 then 0 else f i
  | k + 1 => upd (fluR pt f k) (cellI (pt (4 * k)) (pt (4 * k + 1))).toNatClampNeg (xb true)
/-- every particle's cell is one of the box -/
def inP (pt : Nat → UInt32) (np : Nat) : Prop := ∀ k, k < np → ∃ i j : Nat, i < 6 ∧ j < 6 ∧ FP.f2i (pt (4 * k)) = nI i ∧ FP.f2i (pt (4 * k + 1)) = nI j
theorem inP_cell {pt : Nat → UInt32} {np k : Nat} (h : inP pt np) (hk : k < np) : ∃ c, c < 36 ∧ cellI (pt (4 * k)) (pt (4 * k + 1)) = nI c := by
  obtain ⟨i, j, hi, hj, e1, e2⟩ := h k hk
  exact ⟨6 * j + i, by omega, by unfold cellI; rw [e1, e2, pk_mul, nI_add]⟩
def cntF (f : Nat → Int32) : Nat → Nat
  | 0 => 0
  | c + 1 => cntF f c + (if f c = 0 then 0 else 1)
theorem cntF_le (f : Nat → Int32) : ∀ n, cntF f n ≤ n
  | 0 => Nat.le_refl 0
  | n + 1 => by have := cntF_le f n; unfold cntF; split <;> omega
def rCount (S : mS) (np : Nat) (w : Int32) : Int32 := if w = 0 then nI np else if w = nI 1 then nI (cntF (fluR (mF S 3) (mA S 10) np) 36) else if w = nI 2 then mI S 1 else if w = nI 3 then mI S 2 else -1
def enF (A B : Nat → UInt32) : Nat → UInt64
  | 0 => FP.dconst0
  | k + 1 => FP.dadd (enF A B k) (FP.dmul 4602678819172646912 (FP.dadd (FP.dmul (FP.f2d (A k)) (FP.f2d (A k))) (FP.dmul (FP.f2d (B k)) (FP.f2d (B k)))))
def enOk (A B : Nat → UInt32) (k : Nat) : Prop := vf_n64 (FP.f2d (A k)) ∧ vf_n64 (FP.f2d (B k)) ∧ vf_n64 (FP.dmul (FP.f2d (A k)) (FP.f2d (A k))) ∧ vf_n64 (FP.dmul (FP.f2d (B k)) (FP.f2d (B k))) ∧ vf_n64 (FP.dadd (FP.dmul (FP.f2d (A k)) (FP.f2d (A k))) (FP.dmul (FP.f2d (B k)) (FP.f2d (B k)))) ∧
  vf_n64 (FP.dmul 4602678819172646912 (FP.dadd (FP.dmul (FP.f2d (A k)) (FP.f2d (A k))) (FP.dmul (FP.f2d (B k)) (FP.f2d (B k))))) ∧ vf_n64 (enF A B (k + 1))
def drF (A : Nat → UInt32) : Nat → UInt32
  | 0 => FP.fconst0
  | k + 1 => FP.fadd (drF A k) (A k)
def drR (A : Nat → UInt32) (np : Nat) : UInt32 := if np = 0 then FP.fconst0 else FP.fdiv (drF A np) (FP.i2f (nI np))
section M4
variable {l : Launch} {D : va_G} {ad : Nat → Nat} {cy : Nat → ClassId}
set_option maxRecDepth 100000 in
theorem m_copy (S : mS) (hB : isB (mA S 1)) (a b : Nat) (ha : a < 2) (hb : b < 2) (hab : a ≠ b) : xMet l yX5_copySettings cX5_copySettings 4 none 0 D ad cy [.ref 0, .int (nI a), .int (nI b)] (mW S) (fun vs aw' => vs = [] ∧ aw' = mW (rCopy S a b)) := by
  refine xmet (Fd := xlk xfl5) (Cn := xlk xcl5) (Cl := xCt []) (by decide) xk_X5_copySettings xt_X5_copySettings ⟨_, _, rfl, rfl⟩ xpl5 (xEnt_ok (fun q h => by cases h)) (Nat.le_of_ble_eq_true rfl) (fun WC hW => ?_)
  have loop2 : ∀ (n c : Nat), c + n = 96 → WC (xL_X5_copySettings.drop 25) [some (.ref 0), some (.int (nI a)), some (.int (nI b)), some (.int (nI c))] [] (mW (mF' (mA' S 1 (va_cpy (mA S 1) (mA S 1) (36 * a) (36 * b) 36)) 3 (va_cpy (mF S 3) (mF S 3) (96 * a) (96 * b) c))) := by
    intro n
    induction n with
    | zero =>
      intro c hc
      have : c = 96 := by omega
      subst this
      refine hW.1 (fun pc => Nat.beq pc 38) 200 25 _ _ _ ?_
      refine And.intro (fun h1 => ?_) (fun h1 => absurd (Int32.le_refl _) h1)
      refine ⟨a, rfl, ha, by decide, ?_⟩
      refine ⟨b, rfl, hb, by decide, ?_⟩
      refine ⟨a, rfl, ha, by decide, ?_⟩
      refine ⟨b, rfl, hb, by decide, ?_⟩
      refine ⟨a, rfl, ha, by decide, ?_⟩
      refine ⟨b, rfl, hb, by decide, ?_⟩
      refine ⟨a, rfl, ha, by decide, ?_⟩
      refine ⟨b, rfl, hb, by decide, ?_⟩
      refine ⟨a, rfl, ha, by decide, ?_⟩
      refine ⟨b, rfl, hb, by decide, ?_⟩
      exact And.intro rfl rfl
    | succ n ih =>
      intro c hc
      refine hW.1 (fun pc => Nat.beq pc 38) 200 25 _ _ _ ?_
      refine And.intro (fun h1 => absurd h1 (nI_ge (b := 96) (by omega) (by decide))) (fun h1 => ?_)
      refine ⟨96 * a + c, by rw [pk_mul, nI_add], by omega, by decide, ?_⟩
      refine ⟨96 * b + c, by rw [pk_mul, nI_add], by omega, by decide, ?_⟩
      have e1 : nI c + nI 1 = nI (c + 1) := nI_add c 1
      have ih' := ih (c + 1) (by omega)
      rw [← e1, cpy_s (mF S 3) vf_upd (fun _ _ _ => rfl) (n := 96) (by omega) (by omega)] at ih'
      exact ih'
  have loop1 : ∀ (n c : Nat), c + n = 36 → WC (xL_X5_copySettings.drop 2) [some (.ref 0), some (.int (nI a)), some (.int (nI b)), some (.int (nI c))] [] (mW (mA' S 1 (va_cpy (mA S 1) (mA S 1) (36 * a) (36 * b) c))) := by
    intro n
    induction n with
    | zero =>
      intro c hc
      have : c = 36 := by omega
      subst this
      refine hW.1 (fun pc => Nat.beq pc 2 || Nat.beq pc 38) 200 2 _ _ _ ?_
      refine And.intro (fun h1 => ?_) (fun h1 => absurd (Int32.le_refl _) h1)
      have h2 := loop2 96 0 (by omega)
      rw [cpy_0] at h2
      exact h2
    | succ n ih =>
      intro c hc
      refine hW.1 (fun pc => Nat.beq pc 2 || Nat.beq pc 38) 200 2 _ _ _ ?_
      refine And.intro (fun h1 => absurd h1 (nI_ge (b := 36) (by omega) (by decide))) (fun h1 => ?_)
      obtain ⟨b0, hb0⟩ := isB_cpy hB (36 * a) (36 * b) c (36 * a + c)
      refine ⟨36 * a + c, by rw [pk_mul, nI_add], by omega, by decide, ?_⟩
      refine ⟨36 * b + c, b0, hb0, by rw [pk_mul, nI_add], by omega, by decide, ?_⟩
      have e1 : nI c + nI 1 = nI (c + 1) := nI_add c 1
      have ih' := ih (c + 1) (by omega)
      rw [← e1, cpy_s (mA S 1) upd (fun _ _ _ => rfl) (n := 36) (by omega) (by omega), hb0] at ih'
      exact ih'
  have h2 := loop1 36 0 (by omega)
  rw [cpy_0] at h2
  exact hW.1 (fun pc => Nat.beq pc 2) 200 0 _ _ _ h2
def s_copy (st : List Value) (aw : xA) (k : List Value → xA → Prop) : Prop := match st with
  | .int y :: .int x :: .ref 0 :: st => match xsm st with
    | true => ∃ S a b, aw = mW S ∧ isB (mA S 1) ∧ a < 2 ∧ b < 2 ∧ a ≠ b ∧ x = nI a ∧ y = nI b ∧ k st (mW (rCopy S a b))
    | false => False
  | _ => False
theorem e_copy {d : Nat} (hd : 1 ≤ d) : xEnt l d D ad cy RX5 222 s_copy := xEnt_V (y' := yX5_copySettings) (cc' := cX5_copySettings) (n' := 4) (ret' := none) (d' := 0) (j := 111) 2 (by decide +kernel) (by decide +kernel) (by omega) (fun st aw k h => by
  match st, h with
  | .int y :: .int x :: .ref 0 :: st, h =>
    cases hs : xsm st with
    | false => simp only [s_copy, hs] at h
    | true =>
      simp only [s_copy, hs] at h
      obtain ⟨S, a, b, rfl, hB, ha, hb, hab, rfl, rfl, h2⟩ := h
      exact ⟨[.int (nI a), .int (nI b)], st, _, 0, 5, _, rfl, rfl, hs, rfl, ⟨_, rfl, rfl⟩, m_copy S hB a b ha hb hab, fun vs aw' h9 => by obtain ⟨rfl, rfl⟩ := h9; exact h2⟩)
set_option maxRecDepth 100000 in
theorem m_back (S : mS) (hB : isB (mA S 1)) (b : Bool) : xMet l yX5_back cX5_back 2 (some .boolean) 1 D ad cy [.ref 0, .int (xb b)] (mW S) (fun vs aw' => vs = [.int (xb (!b))] ∧ aw' = mW (rCopy (mS0 S) (if b then 0 else 1) (if b then 1 else 0))) := by
  refine xmet (Fd := xlk xfl5) (Cn := xlk xcl5) (Cl := xCt [(222, s_copy)]) (by decide) xk_X5_back xt_X5_back ⟨_, _, rfl, rfl⟩ xpl5 (xEnt_ok (List.forall_mem_cons.mpr ⟨e_copy (by omega), fun q h => by cases h⟩)) (Nat.le_of_ble_eq_true rfl) (fun WC hW => ?_)
  refine hW.1 (fun _ => false) 200 0 _ _ _ ?_
  cases b with
  | false =>
    refine And.intro (fun h1 => ?_) (fun h1 => absurd rfl h1)
    refine And.intro (fun h1 => ?_) (fun h1 => absurd rfl h1)
    refine ⟨mS0 S, 1, 0, rfl, hB, by decide, by decide, by decide, rfl, rfl, ?_⟩
    refine And.intro (fun h1 => absurd rfl h1) (fun h1 => ?_)
    exact Exists.intro true ⟨rfl, rfl, rfl⟩
  | true =>
    refine And.intro (fun h1 => absurd h1 (by decide)) (fun h1 => ?_)
    refine And.intro (fun h1 => absurd h1 (by decide)) (fun h1 => ?_)
    refine ⟨mS0 S, 0, 1, rfl, hB, by decide, by decide, by decide, rfl, rfl, ?_⟩
    refine And.intro (fun h1 => ?_) (fun h1 => absurd h1 (by decide))
    exact Exists.intro false ⟨rfl, rfl, rfl⟩
set_option maxRecDepth 100000 in
theorem m_mark (S : mS) (np : Nat) (hnp : mA S 2 0 = nI np) (h24 : np ≤ 24) (hI : inP (mF S 3) np) : xMet l yX5_mark cX5_mark 2 none 1 D ad cy [.ref 0] (mW S) (fun vs aw' => vs = [] ∧ aw' = mW (mA' S 10 (fluR (mF S 3) (mA S 10) np))) := by
  refine xmet (Fd := xlk xfl5) (Cn := xlk xcl5) (Cl := xCt [(187, s_cellOf)]) (by decide) xk_X5_mark xt_X5_mark ⟨_, _, rfl, rfl⟩ xpl5 (xEnt_ok (List.forall_mem_cons.mpr ⟨e_cellOf (by omega), fun q h => by cases h⟩)) (Nat.le_of_ble_eq_true rfl) (fun WC hW => ?_)
  have loop2 : ∀ (n k : Nat), k + n = np → WC (xL_X5_mark.drop 14) [some (.ref 0), some (.int (nI k))] [] (mW (mA' S 10 (fluR (mF S 3) (mA S 10) k))) := by
    intro n
    induction n with
    | zero =>
      intro k hk
      have : k = np := by omega
      subst this
      refine hW.1 (fun pc => Nat.beq pc 23) 200 14 _ _ _ ?_
      refine ⟨0, rfl, by decide, by decide, ?_⟩
      refine And.intro (fun h1 => And.intro rfl rfl) (fun h1 => absurd ?_ h1)
      show mA S 2 0 ≤ nI k
      rw [hnp]
      exact Int32.le_refl _
    | succ n ih =>
      intro k hk
      refine hW.1 (fun pc => Nat.beq pc 23) 200 14 _ _ _ ?_
      refine ⟨0, rfl, by decide, by decide, ?_⟩
      refine And.intro (fun h1 => absurd (show nI np ≤ nI k by rw [← hnp]; exact h1) (nI_ge (by omega) (by omega))) (fun h1 => ?_)
      refine ⟨4 * k, pk_mul 4 k, by omega, by decide, ?_⟩
      refine ⟨4 * k + 1, by rw [pk_mul, nI_add], by omega, by decide, ?_⟩
      obtain ⟨c, hc, ec⟩ := inP_cell hI (show k < np by omega)
      refine ⟨c, true, rfl, ec, by omega, by decide, ?_⟩
      have e1 : nI k + nI 1 = nI (k + 1) := nI_add k 1
      have ih' := ih (k + 1) (by omega)
      have e2 : fluR (mF S 3) (mA S 10) (k + 1) = upd (fluR (mF S 3) (mA S 10) k) c (xb true) := by show upd _ _ _ = _; rw [ec, nI_clamp (by omega)]
      rw [← e1, e2] at ih'
      exact ih'
  have clr : ∀ (c : Nat), (fun i => if i < c + 1 then 0 else mA S 10 i) = upd (fun i => if i < c then 0 else mA S 10 i) c (xb false) := by
    intro c
    funext i
    unfold upd
    by_cases h : i = c
    · subst h; rw [if_pos (by omega), if_pos rfl]; rfl
    · rw [if_neg h]
      show ite _ _ _ = ite _ _ _
      by_cases h2 : i < c
      · rw [if_pos (by omega), if_pos h2]
      · rw [if_neg (by omega), if_neg h2]
  have loop1 : ∀ (n c : Nat), c + n = 36 → WC (xL_X5_mark.drop 2) [some (.ref 0), some (.int (nI c))] [] (mW (mA' S 10 (fun i => if i < c then 0 else mA S 10 i))) := by
    intro n
    induction n with
    | zero =>
      intro c hc
      have : c = 36 := by omega
      subst this
      refine hW.1 (fun pc => Nat.beq pc 2 || Nat.beq pc 23) 200 2 _ _ _ ?_
      refine And.intro (fun h1 => ?_) (fun h1 => absurd (Int32.le_refl _) h1)
      exact loop2 np 0 (by omega)
    | succ n ih =>
      intro c hc
      refine hW.1 (fun pc => Nat.beq pc 2 || Nat.beq pc 23) 200 2 _ _ _ ?_
      refine And.intro (fun h1 => absurd h1 (nI_ge (b := 36) (by omega) (by decide))) (fun h1 => ?_)
      refine ⟨c, false, rfl, rfl, by omega, by decide, ?_⟩
      have e1 : nI c + nI 1 = nI (c + 1) := nI_add c 1
      have ih' := ih (c + 1) (by omega)
      rw [← e1, clr] at ih'
      exact ih'
  have h2 := loop1 36 0 (by omega)
  have e0 : (fun i => if i < 0 then 0 else mA S 10 i) = mA S 10 := by funext i; rw [if_neg (by omega)]
  rw [e0] at h2
  exact hW.1 (fun pc => Nat.beq pc 2) 200 0 _ _ _ h2
def s_mark (st : List Value) (aw : xA) (k : List Value → xA → Prop) : Prop := match st with
  | .ref 0 :: st => match xsm st with
    | true => ∃ S np, aw = mW S ∧ mA S 2 0 = nI np ∧ np ≤ 24 ∧ inP (mF S 3) np ∧ k st (mW (mA' S 10 (fluR (mF S 3) (mA S 10) np)))
    | false => False
  | _ => False
theorem e_mark {d : Nat} (hd : 2 ≤ d) : xEnt l d D ad cy RX5 338 s_mark := xEnt_V (y' := yX5_mark) (cc' := cX5_mark) (n' := 2) (ret' := none) (d' := 1) (j := 169) 0 (by decide +kernel) (by decide +kernel) (by omega) (fun st aw k h => by
  match st, h with
  | .ref 0 :: st, h =>
    cases hs : xsm st with
    | false => simp only [s_mark, hs] at h
    | true =>
      simp only [s_mark, hs] at h
      obtain ⟨S, np, rfl, hnp, h24, hI, h2⟩ := h
      exact ⟨[], st, _, 0, 5, _, rfl, rfl, hs, rfl, ⟨_, rfl, rfl⟩, m_mark S np hnp h24 hI, fun vs aw' h9 => by obtain ⟨rfl, rfl⟩ := h9; exact h2⟩)
set_option maxRecDepth 100000 in
theorem m_count (S : mS) (np : Nat) (hnp : mA S 2 0 = nI np) (h24 : np ≤ 24) (hI : inP (mF S 3) np) (w : Int32) : xMet l yX5_count cX5_count 4 (some .int) 2 D ad cy [.ref 0, .int w] (mW S) (fun vs aw' => vs = [.int (rCount S np w)] ∧ aw' = mW (mA' (mS0 S) 10 (fluR (mF S 3) (mA S 10) np))) := by
  refine xmet (Fd := xlk xfl5) (Cn := xlk xcl5) (Cl := xCt [(338, s_mark)]) (by decide) xk_X5_count xt_X5_count ⟨_, _, rfl, rfl⟩ xpl5 (xEnt_ok (List.forall_mem_cons.mpr ⟨e_mark (by omega), fun q h => by cases h⟩)) (Nat.le_of_ble_eq_true rfl) (fun WC hW => ?_)
  generalize hfl : fluR (mF S 3) (mA S 10) np = fl
  have loop : ∀ (n c : Nat), c + n = 36 → WC (xL_X5_count.drop 9) [some (.ref 0), some (.int w), some (.int (nI (cntF fl c))), some (.int (nI c))] [] (mW (mA' (mS0 S) 10 fl)) := by
    intro n
    induction n with
    | zero =>
      intro c hc
      have : c = 36 := by omega
      subst this
      refine hW.1 (fun pc => Nat.beq pc 13) 200 9 _ _ _ ?_
      refine And.intro (fun h1 => ?_) (fun h1 => absurd (Int32.le_refl _) h1)
      refine And.intro (fun h2 => ?_) (fun h2 => ?_)
      rotate_left
      · refine ⟨0, rfl, by decide, by decide, ?_⟩
        refine And.intro ?_ (by rw [hfl])
        show [Value.int (mA S 2 0)] = _
        rw [hnp]
        simp only [rCount, h2, if_true]
      refine And.intro (fun h3 => ?_) (fun h3 => ?_)
      rotate_left
      · refine And.intro ?_ (by rw [hfl])
        unfold rCount
        rw [if_neg h2, if_pos h3, hfl]
      refine And.intro (fun h4 => ?_) (fun h4 => ?_)
      rotate_left
      · refine And.intro ?_ (by rw [hfl])
        unfold rCount
        rw [if_neg h2, if_neg h3, if_pos h4]
        rfl
      refine And.intro (fun h5 => ?_) (fun h5 => ?_)
      rotate_left
      · refine And.intro ?_ (by rw [hfl])
        unfold rCount
        rw [if_neg h2, if_neg h3, if_neg h4, if_pos h5]
        rfl
      · refine And.intro ?_ (by rw [hfl])
        unfold rCount
        rw [if_neg h2, if_neg h3, if_neg h4, if_neg h5]
    | succ n ih =>
      intro c hc
      refine hW.1 (fun pc => Nat.beq pc 13) 200 9 _ _ _ ?_
      refine And.intro (fun h1 => absurd h1 (nI_ge (b := 36) (by omega) (by decide))) (fun h1 => ?_)
      refine ⟨c, rfl, by omega, by decide, ?_⟩
      have e1 : nI c + nI 1 = nI (c + 1) := nI_add c 1
      have ih' := ih (c + 1) (by omega)
      refine And.intro (fun h2 => ?_) (fun h2 => ?_)
      · have e2 : nI (cntF fl (c + 1)) = nI (cntF fl c) + nI 0 := by
          have h2 : fl c = 0 := h2
          show nI (cntF fl c + (if fl c = 0 then 0 else 1)) = _
          rw [if_pos h2, nI_add]
        rw [← e1, e2] at ih'
        exact ih'
      · have e2 : nI (cntF fl (c + 1)) = nI (cntF fl c) + nI 1 := by
          have h2 : ¬ fl c = 0 := h2
          show nI (cntF fl c + (if fl c = 0 then 0 else 1)) = _
          rw [if_neg h2, nI_add]
        rw [← e1, e2] at ih'
        exact ih'
  refine hW.1 (fun pc => Nat.beq pc 13) 200 0 _ _ _ ?_
  refine ⟨mS0 S, np, rfl, hnp, h24, hI, ?_⟩
  have h9 := loop 36 0 (by omega)
  rw [← hfl] at h9
  exact h9
set_option maxRecDepth 100000 in
theorem m_energy (S : mS) (np : Nat) (hnp : mA S 2 0 = nI np) (h24 : np ≤ 24) (hok : ∀ k, k < np → enOk (fun k => mF S 3 (4 * k + 2)) (fun k => mF S 3 (4 * k + 3)) k) : xMet l yX5_energy cX5_energy 8 (some .double) 0 D ad cy [.ref 0] (mW S) (fun vs aw' => vs = [.double (enF (fun k => mF S 3 (4 * k + 2)) (fun k => mF S 3 (4 * k + 3)) np)] ∧ aw' = mW (mS0 S)) := by
  refine xmet (Fd := xlk xfl5) (Cn := xlk xcl5) (Cl := xCt []) (by decide) xk_X5_energy xt_X5_energy ⟨_, _, rfl, rfl⟩ xpl5 (xEnt_ok (fun q h => by cases h)) (Nat.le_of_ble_eq_true rfl) (fun WC hW => ?_)
  have loop : ∀ (n k : Nat), k + n = np → WC (xL_X5_energy.drop 7) [some (.ref 0), some (.double (enF (fun k => mF S 3 (4 * k + 2)) (fun k => mF S 3 (4 * k + 3)) k)), none, some (.int (nI k)), none, none, none, none] [] (mW (mS0 S)) := by
    intro n
    induction n with
    | zero =>
      intro k hk
      have : k = np := by omega
      subst this
      refine hW.1 (fun pc => Nat.beq pc 9) 200 7 _ _ _ ?_
      refine ⟨0, rfl, by decide, by decide, ?_⟩
      refine And.intro (fun h1 => And.intro rfl rfl) (fun h1 => absurd ?_ h1)
      show mA S 2 0 ≤ nI k
      rw [hnp]
      exact Int32.le_refl _
    | succ n ih =>
      intro k hk
      obtain ⟨o1, o2, o3, o4, o5, o6, o7⟩ := hok k (by omega)
      refine hW.1 (fun pc => Nat.beq pc 9) 200 7 _ _ _ ?_
      refine ⟨0, rfl, by decide, by decide, ?_⟩
      refine And.intro (fun h1 => absurd (show nI np ≤ nI k by rw [← hnp]; exact h1) (nI_ge (by omega) (by omega))) (fun h1 => ?_)
      refine ⟨4 * k + 2, by rw [pk_mul, nI_add], by omega, by decide, ?_⟩
      refine And.intro o1 ?_
      refine ⟨4 * k + 3, by rw [pk_mul, nI_add], by omega, by decide, ?_⟩
      refine And.intro o2 ?_
      refine And.intro o3 ?_
      refine And.intro o4 ?_
      refine And.intro o5 ?_
      refine And.intro o6 ?_
      refine And.intro o7 ?_
      have e1 : nI k + nI 1 = nI (k + 1) := nI_add k 1
      have ih' := ih (k + 1) (by omega)
      rw [← e1] at ih'
      refine hW.2 7 _ _ _ _ ?_ ?_ ih'
      · exact And.intro rfl (And.intro rfl (And.intro rfl trivial))
      · rfl
  exact hW.1 (fun pc => Nat.beq pc 9) 200 0 _ _ _ (loop np 0 (by omega))
set_option maxRecDepth 100000 in
theorem m_drift (S : mS) (np : Nat) (hnp : mA S 2 0 = nI np) (h24 : np ≤ 24) (x : Int32) (A : Nat → UInt32) (hA : A = fun k => if x = 0 then mF S 3 (4 * k + 2) else mF S 3 (4 * k + 3)) (hok : ∀ k, k < np → vf_n32 (drF A (k + 1))) (hov : np ≠ 0 → vf_n32 (drR A np)) : xMet l yX5_drift cX5_drift 4 (some .float) 0 D ad cy [.ref 0, .int x] (mW S) (fun vs aw' => vs = [.float (drR A np)] ∧ aw' = mW (mS0 S)) := by
  refine xmet (Fd := xlk xfl5) (Cn := xlk xcl5) (Cl := xCt []) (by decide) xk_X5_drift xt_X5_drift ⟨_, _, rfl, rfl⟩ xpl5 (xEnt_ok (fun q h => by cases h)) (Nat.le_of_ble_eq_true rfl) (fun WC hW => ?_)
  have loop : ∀ (n k : Nat), k + n = np → WC (xL_X5_drift.drop 7) [some (.ref 0), some (.int x), some (.float (drF A k)), some (.int (nI k))] [] (mW (mS0 S)) := by
    intro n
    induction n with
    | zero =>
      intro k hk
      have : k = np := by omega
      subst this
      refine hW.1 (fun pc => Nat.beq pc 9) 200 7 _ _ _ ?_
      refine ⟨0, rfl, by decide, by decide, ?_⟩
      refine And.intro (fun h1 => ?_) (fun h1 => absurd ?_ h1)
      rotate_left
      · show mA S 2 0 ≤ nI k
        rw [hnp]
        exact Int32.le_refl _
      refine ⟨0, rfl, by decide, by decide, ?_⟩
      refine And.intro (fun h2 => ?_) (fun h2 => ?_)
      · have h2 : ¬ mA S 2 0 = 0 := h2
        rw [hnp] at h2
        have hk0 : k ≠ 0 := fun z => h2 (by rw [z]; exact nI_0)
        have e3 : FP.fdiv (drF A k) (FP.i2f (mA S 2 0)) = drR A k := by unfold drR; rw [if_neg hk0, hnp]
        refine ⟨0, rfl, by decide, by decide, ?_⟩
        refine And.intro ?_ (And.intro ?_ rfl)
        · show vf_n32 (FP.fdiv (drF A k) (FP.i2f (mA S 2 0)))
          rw [e3]
          exact hov hk0
        · show [Value.float (FP.fdiv (drF A k) (FP.i2f (mA S 2 0)))] = _
          rw [e3]
      · have h2 : mA S 2 0 = 0 := h2
        rw [hnp] at h2
        have hk0 : k = 0 := (nI_eq (by omega) (by decide)).mp (h2.trans nI_0.symm)
        refine And.intro ?_ rfl
        unfold drR
        rw [if_pos hk0]
    | succ n ih =>
      intro k hk
      refine hW.1 (fun pc => Nat.beq pc 9) 200 7 _ _ _ ?_
      refine ⟨0, rfl, by decide, by decide, ?_⟩
      refine And.intro (fun h1 => absurd (show nI np ≤ nI k by rw [← hnp]; exact h1) (nI_ge (by omega) (by omega))) (fun h1 => ?_)
      have e1 : nI k + nI 1 = nI (k + 1) := nI_add k 1
      have ih' := ih (k + 1) (by omega)
      have o1 := hok k (by omega)
      rw [← e1] at ih'
      refine And.intro (fun h2 => ?_) (fun h2 => ?_)
      · refine ⟨4 * k + 3, by rw [pk_mul, nI_add], by omega, by decide, ?_⟩
        have e2 : mF S 3 (4 * k + 3) = A k := by rw [hA]; show _ = ite _ _ _; rw [if_neg h2]
        have e4 : drF A (k + 1) = FP.fadd (drF A k) (mF S 3 (4 * k + 3)) := by rw [e2]; rfl
        rw [e4] at o1 ih'
        exact And.intro o1 ih'
      · refine ⟨4 * k + 2, by rw [pk_mul, nI_add], by omega, by decide, ?_⟩
        have e2 : mF S 3 (4 * k + 2) = A k := by rw [hA]; show _ = ite _ _ _; rw [if_pos h2]
        have e4 : drF A (k + 1) = FP.fadd (drF A k) (mF S 3 (4 * k + 2)) := by rw [e2]; rfl
        rw [e4] at o1 ih'
        exact And.intro o1 ih'
  exact hW.1 (fun pc => Nat.beq pc 9) 200 0 _ _ _ (loop np 0 (by omega))
end M4
