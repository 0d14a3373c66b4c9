/-! the reference: near, rests, product, times -/
def dxI (w : Nat) : Int32 := match w with
  | 0 => -1
  | 1 => nI 1
  | _ => nI 0
def dyI (w : Nat) : Int32 := match w with
  | 2 => -1
  | 3 => nI 1
  | _ => nI 0
def nrI (tk : Nat → Int32) (x y : Int32) : Int32 := if inB x y then (if tk (6 * y.toNatClampNeg + x.toNatClampNeg) = 0 then -1 else nI 6 * y + x) else -1
def nearI (tk : Nat → Int32) (c w : Nat) : Int32 := nrI tk (nI (c % 6) + dxI w) (nI (c / 6) + dyI w)
theorem nearI_in {tk : Nat → Int32} {c w : Nat} (h : ¬ nearI tk c w < 0) : ∃ d, d < 36 ∧ nearI tk c w = nI d ∧ tk d ≠ 0 := by
  unfold nearI nrI at h ⊢
  generalize nI (c % 6) + dxI w = x at h ⊢
  generalize nI (c / 6) + dyI w = y at h ⊢
  cases hi : inB x y with
  | false => rw [hi, if_neg (by decide)] at h; exact absurd (by decide) h
  | true =>
    obtain ⟨i, j, hi6, hj6, rfl, rfl⟩ := inB_nI hi
    rw [hi, if_pos rfl, nI_clamp (by omega), nI_clamp (by omega)] at h
    rw [if_pos rfl, nI_clamp (by omega), nI_clamp (by omega)]
    by_cases h2 : tk (6 * j + i) = 0
    · rw [if_pos h2] at h; exact absurd (by decide) h
    · rw [if_neg h2]
      exact ⟨6 * j + i, by omega, by rw [pk_mul, nI_add], h2⟩
/-- the amount of a number, the greatest amount of a row -/
def amtF (x : UInt64) : UInt64 := if 0 ≤ cvd x FP.dconst0 .g then x else FP.dsub FP.dconst0 x
def rsF (r : Nat → UInt64) : Nat → UInt64
  | 0 => FP.dconst0
  | c + 1 => if cvd (amtF (r c)) (rsF r c) .l ≤ 0 then rsF r c else amtF (r c)
/-- the product of two rows -/
def pr1 (z o : Nat → UInt64) (j : Nat) : Nat → UInt64
  | 0 => FP.dconst0
  | i + 1 => FP.dadd (pr1 z o j i) (FP.dmul (z (6 * j + i)) (o (6 * j + i)))
def prd (z o : Nat → UInt64) : Nat → UInt64
  | 0 => FP.dconst0
  | j + 1 => FP.dadd (prd z o j) (pr1 z o j 6)
def prOk (z o : Nat → UInt64) : Prop := ∀ j, j < 6 → (∀ i, i < 6 → vf_n64 (FP.dmul (z (6 * j + i)) (o (6 * j + i))) ∧ vf_n64 (pr1 z o j (i + 1))) ∧ vf_n64 (prd z o (j + 1))
/-- the matrix times s -/
def tmV (dg s : Nat → UInt64) (tk : Nat → Int32) (c : Nat) : Nat → UInt64
  | 0 => FP.dmul (dg c) (s c)
  | w + 1 => if nearI tk c w < 0 then tmV dg s tk c w else FP.dsub (tmV dg s tk c w) (s (nearI tk c w).toNatClampNeg)
def tmG (dg s : Nat → UInt64) (tk : Nat → Int32) (c : Nat) : UInt64 := if tk c = 0 then FP.dconst0 else tmV dg s tk c 4
def tmOk (dg s : Nat → UInt64) (tk : Nat → Int32) : Prop := ∀ c, c < 36 → ∀ w, w < 5 → vf_n64 (tmV dg s tk c w)
section M7
variable {l : Launch} {D : va_G} {ad : Nat → Nat} {cy : Nat → ClassId}
set_option maxRecDepth 100000 in
theorem m_near (S : mS) (c w : Nat) (hc : c < 36) (hw : w < 4) : xMet l yX5_near cX5_near 5 (some .int) 1 D ad cy [.ref 0, .int (nI c), .int (nI w)] (mW S) (fun vs aw' => vs = [.int (nearI (mA S 11) c w)] ∧ aw' = mW S) := by
  refine xmet (Fd := xlk xfl5) (Cn := xlk xcl5) (Cl := xCt [(171, s_inBox)]) (by decide) xk_X5_near xt_X5_near ⟨_, _, rfl, rfl⟩ xpl5 (xEnt_ok (List.forall_mem_cons.mpr ⟨e_inBox (by omega), fun q h => by cases h⟩)) (Nat.le_of_ble_eq_true rfl) (fun WC hW => ?_)
  have r1 : nI c - nI c / nI 6 * nI 6 = nI (c % 6) := pk_rem (by omega) (by decide) (by decide)
  have r2 : nI c / nI 6 = nI (c / 6) := pk_div (by omega) (by decide) (by decide)
  have fin : ∀ (x y : Int32), nearI (mA S 11) c w = nrI (mA S 11) x y → WC (xL_X5_near.drop 31) [some (.ref 0), some (.int (nI c)), some (.int (nI w)), some (.int x), some (.int y)] [] (mW S) := by
    intro x y e
    refine hW.1 (fun _ => false) 200 31 _ _ _ ?_
    refine And.intro (fun h1 => ?_) (fun h1 => ?_)
    · refine And.intro ?_ rfl
      rw [e]; unfold nrI; rw [xb_eq h1]; rfl
    have hi := xb_ne h1
    obtain ⟨i, j, hi6, hj6, rfl, rfl⟩ := inB_nI hi
    refine ⟨6 * j + i, by rw [pk_mul, nI_add], by omega, by decide, ?_⟩
    have e2 : nrI (mA S 11) (nI i) (nI j) = if mA S 11 (6 * j + i) = 0 then -1 else nI 6 * nI j + nI i := by unfold nrI; rw [hi, if_pos rfl, nI_clamp (by omega), nI_clamp (by omega)]
    refine And.intro (fun h2 => ?_) (fun h2 => ?_)
    · refine And.intro ?_ rfl
      rw [e, e2, if_pos h2]
    · refine And.intro ?_ rfl
      rw [e, e2, if_neg h2]
  have ysel : ∀ (x : Int32), nI (c % 6) + dxI w = x → WC (xL_X5_near.drop 15) [some (.ref 0), some (.int (nI c)), some (.int (nI w)), some (.int x), none] [] (mW S) := by
    intro x ex
    refine hW.1 (fun pc => Nat.beq pc 50) 200 15 _ _ _ ?_
    refine And.intro (by decide) ?_
    refine And.intro (fun h1 => ?_) (fun h1 => ?_)
    · refine And.intro (fun h2 => ?_) (fun h2 => ?_)
      · refine fin _ _ ?_
        have n2 : w ≠ 2 := fun z => h1 (by rw [z])
        have n3 : w ≠ 3 := fun z => h2 (by rw [z])
        have ey : dyI w = nI 0 := by rcases (show w = 0 ∨ w = 1 by omega) with rfl | rfl <;> rfl
        unfold nearI; rw [ex, ey, r2]
      · refine fin _ _ ?_
        have n3 : w = 3 := (nI_eq (by omega) (by decide)).mp h2
        unfold nearI; rw [ex, r2, n3]; rfl
    · refine fin _ _ ?_
      have n2 : w = 2 := (nI_eq (by omega) (by decide)).mp h1
      unfold nearI; rw [ex, r2, n2]; rfl
  refine hW.1 (fun pc => Nat.beq pc 24) 200 0 _ _ _ ?_
  refine And.intro (by decide) ?_
  refine And.intro (fun h1 => ?_) (fun h1 => ?_)
  · refine And.intro (fun h2 => ?_) (fun h2 => ?_)
    · refine ysel _ ?_
      have n0 : w ≠ 0 := fun z => h1 (by rw [z]; rfl)
      have n1 : w ≠ 1 := fun z => h2 (by rw [z])
      have ex : dxI w = nI 0 := by rcases (show w = 2 ∨ w = 3 by omega) with rfl | rfl <;> rfl
      rw [ex, r1]
    · refine ysel _ ?_
      have n1 : w = 1 := (nI_eq (by omega) (by decide)).mp h2
      rw [r1, n1]; rfl
  · refine ysel _ ?_
    have n0 : w = 0 := (nI_eq (by omega) (by decide)).mp (h1.trans nI_0.symm)
    rw [r1, n0]; rfl
def s_near (st : List Value) (aw : xA) (k : List Value → xA → Prop) : Prop := match st with
  | .int z :: .int x :: .ref 0 :: st => match xsm st with
    | true => ∃ (S : mS) (c w : Nat), aw = mW S ∧ x = nI c ∧ z = nI w ∧ c < 36 ∧ w < 4 ∧ k (.int (nearI (mA S 11) c w) :: st) (mW S)
    | false => False
  | _ => False
theorem e_near {d : Nat} (hd : 2 ≤ d) : xEnt l d D ad cy RX5 264 s_near := xEnt_V (y' := yX5_near) (cc' := cX5_near) (n' := 5) (ret' := some .int) (d' := 1) (j := 132) 2 (by decide +kernel) (by decide +kernel) (by omega) (fun st aw k h => by
  match st, h with
  | .int z :: .int x :: .ref 0 :: st, h =>
    cases hs : xsm st with
    | false => simp only [s_near, hs] at h
    | true =>
      simp only [s_near, hs] at h
      obtain ⟨S, c, w, rfl, rfl, rfl, hc, hw, h2⟩ := h
      exact ⟨[.int (nI c), .int (nI w)], st, _, 0, 5, _, rfl, rfl, hs, rfl, ⟨_, rfl, rfl⟩, m_near S c w hc hw, fun vs aw' h9 => by obtain ⟨rfl, rfl⟩ := h9; exact h2⟩)
set_option maxRecDepth 100000 in
theorem m_rests (S : mS) (hok : ∀ c, c < 36 → vf_n64 (amtF (mD S 17 c))) : xMet l yX5_rests cX5_rests 6 (some .double) 0 D ad cy [.ref 0] (mW S) (fun vs aw' => vs = [.double (rsF (mD S 17) 36)] ∧ aw' = mW S) := by
  refine xmet (Fd := xlk xfl5) (Cn := xlk xcl5) (Cl := xCt []) (by decide) xk_X5_rests xt_X5_rests ⟨_, _, rfl, rfl⟩ xpl5 (xEnt_ok (fun q h => by cases h)) (Nat.le_of_ble_eq_true rfl) (fun WC hW => ?_)
  have loop : ∀ (n c : Nat), c + n = 36 → WC (xL_X5_rests.drop 4) [some (.ref 0), some (.double (rsF (mD S 17) c)), none, some (.int (nI c)), none, none] [] (mW S) := by
    intro n
    induction n with
    | zero =>
      intro c hc
      have : c = 36 := by omega
      subst this
      refine hW.1 (fun pc => Nat.beq pc 4) 200 4 _ _ _ ?_
      exact And.intro (fun h1 => And.intro rfl rfl) (fun h1 => absurd (Int32.le_refl _) h1)
    | succ n ih =>
      intro c hc
      have ih' := ih (c + 1) (by omega)
      have e1 : nI c + nI 1 = nI (c + 1) := nI_add c 1
      rw [← e1] at ih'
      have ho := hok c (by omega)
      have tail : ∀ v, amtF (mD S 17 c) = v → WC (xL_X5_rests.drop 25) [some (.ref 0), some (.double (rsF (mD S 17) c)), none, some (.int (nI c)), none, none] [.double v] (mW S) := by
        intro v hv
        refine hW.1 (fun pc => Nat.beq pc 4) 200 25 _ _ _ ?_
        refine And.intro (fun h2 => ?_) (fun h2 => ?_)
        · have e2 : rsF (mD S 17) (c + 1) = rsF (mD S 17) c := by show ite _ _ _ = _; rw [hv, if_pos h2]
          rw [e2] at ih'
          refine hW.2 4 _ _ _ _ ?_ ?_ ih'
          · exact And.intro rfl (And.intro rfl (And.intro rfl trivial))
          · rfl
        · have e2 : rsF (mD S 17) (c + 1) = v := by show ite _ _ _ = _; rw [hv, if_neg h2]
          rw [e2] at ih'
          refine hW.2 4 _ _ _ _ ?_ ?_ ih'
          · exact And.intro rfl (And.intro rfl (And.intro rfl trivial))
          · rfl
      refine hW.1 (fun pc => Nat.beq pc 4 || Nat.beq pc 38) 200 4 _ _ _ ?_
      refine And.intro (fun h1 => absurd h1 (nI_ge (b := 36) (by omega) (by decide))) (fun h1 => ?_)
      refine ⟨c, rfl, by omega, by decide, ?_⟩
      refine And.intro (fun h2 => ?_) (fun h2 => ?_)
      · refine ⟨c, rfl, by omega, by decide, ?_⟩
        exact tail _ (by unfold amtF; rw [if_pos h2])
      · refine ⟨c, rfl, by omega, by decide, ?_⟩
        have e2 : amtF (mD S 17 c) = FP.dsub FP.dconst0 (mD S 17 c) := by unfold amtF; rw [if_neg h2]
        rw [e2] at ho
        exact And.intro ho (tail _ e2)
  exact hW.1 (fun pc => Nat.beq pc 4) 200 0 _ _ _ (loop 36 0 (by omega))
def s_rests (st : List Value) (aw : xA) (k : List Value → xA → Prop) : Prop := match st with
  | .ref 0 :: st => match xsm st with
    | true => ∃ S : mS, aw = mW S ∧ (∀ c, c < 36 → vf_n64 (amtF (mD S 17 c))) ∧ k (.double (rsF (mD S 17) 36) :: st) (mW S)
    | false => False
  | _ => False
theorem e_rests {d : Nat} (hd : 1 ≤ d) : xEnt l d D ad cy RX5 276 s_rests := xEnt_V (y' := yX5_rests) (cc' := cX5_rests) (n' := 6) (ret' := some .double) (d' := 0) (j := 138) 0 (by decide +kernel) (by decide +kernel) (by omega) (fun st aw k h => by
  match st, h with
  | .ref 0 :: st, h =>
    cases hs : xsm st with
    | false => simp only [s_rests, hs] at h
    | true =>
      simp only [s_rests, hs] at h
      obtain ⟨S, rfl, hok, h2⟩ := h
      exact ⟨[], st, _, 0, 5, _, rfl, rfl, hs, rfl, ⟨_, rfl, rfl⟩, m_rests S hok, fun vs aw' h9 => by obtain ⟨rfl, rfl⟩ := h9; exact h2⟩)
set_option maxRecDepth 100000 in
theorem m_product (S : mS) (b : Bool) (o : Nat → UInt64) (ho : o = if b then mD S 17 else mD S 19) (hok : prOk (mD S 18) o) : xMet l yX5_product cX5_product 11 (some .double) 0 D ad cy [.ref 0, .int (xb b)] (mW S) (fun vs aw' => vs = [.double (prd (mD S 18) o 6)] ∧ aw' = mW S) := by
  refine xmet (Fd := xlk xfl5) (Cn := xlk xcl5) (Cl := xCt []) (by decide) xk_X5_product xt_X5_product ⟨_, _, rfl, rfl⟩ xpl5 (xEnt_ok (fun q h => by cases h)) (Nat.le_of_ble_eq_true rfl) (fun WC hW => ?_)
  have loop : ∀ (n j : Nat), j + n = 6 → WC (xL_X5_product.drop 4) [some (.ref 0), some (.int (xb b)), some (.double (prd (mD S 18) o j)), none, some (.int (nI j)), none, none, none, none, none, none] [] (mW S) := by
    intro n
    induction n with
    | zero =>
      intro j hj
      have : j = 6 := by omega
      subst this
      refine hW.1 (fun pc => Nat.beq pc 5) 200 4 _ _ _ ?_
      exact And.intro (fun h1 => And.intro rfl rfl) (fun h1 => absurd (Int32.le_refl _) h1)
    | succ n ih =>
      intro j hj
      have ih' := ih (j + 1) (by omega)
      have e1 : nI j + nI 1 = nI (j + 1) := nI_add j 1
      rw [← e1] at ih'
      obtain ⟨ho1, ho2⟩ := hok j (by omega)
      have inner : ∀ (n i : Nat), i + n = 6 → WC (xL_X5_product.drop 11) [some (.ref 0), some (.int (xb b)), some (.double (prd (mD S 18) o j)), none, some (.int (nI j)), some (.double (pr1 (mD S 18) o j i)), none, some (.int (nI i)), none, none, none] [] (mW S) := by
        intro n
        induction n with
        | zero =>
          intro i hi
          have : i = 6 := by omega
          subst this
          refine hW.1 (fun pc => Nat.beq pc 5) 200 11 _ _ _ ?_
          refine And.intro (fun h1 => And.intro ho2 ?_) (fun h1 => absurd (Int32.le_refl _) h1)
          refine hW.2 4 _ _ _ _ ?_ ?_ ih'
          · exact And.intro rfl (And.intro rfl (And.intro rfl (And.intro rfl trivial)))
          · rfl
        | succ n ihn =>
          intro i hi
          have ihn' := ihn (i + 1) (by omega)
          have e2 : nI i + nI 1 = nI (i + 1) := nI_add i 1
          rw [← e2] at ihn'
          obtain ⟨q1, q2⟩ := ho1 i (by omega)
          have ix : nI 6 * nI j + nI i = nI (6 * j + i) := by rw [pk_mul, nI_add]
          have tail : ∀ v, o (6 * j + i) = v → WC (xL_X5_product.drop 31) [some (.ref 0), some (.int (xb b)), some (.double (prd (mD S 18) o j)), none, some (.int (nI j)), some (.double (pr1 (mD S 18) o j i)), none, some (.int (nI i)), some (.int (nI 6 * nI j + nI i)), none, none] [.double v] (mW S) := by
            intro v hv
            subst hv
            refine hW.1 (fun pc => Nat.beq pc 18) 200 31 _ _ _ ?_
            refine ⟨6 * j + i, ix, by omega, by decide, ?_⟩
            refine And.intro q1 (And.intro q2 ?_)
            refine hW.2 11 _ _ _ _ ?_ ?_ ihn'
            · exact And.intro rfl (And.intro rfl (And.intro rfl (And.intro rfl (And.intro rfl (And.intro rfl trivial)))))
            · rfl
          refine hW.1 (fun pc => Nat.beq pc 18 || Nat.beq pc 56) 200 11 _ _ _ ?_
          refine And.intro (fun h1 => absurd h1 (nI_ge (b := 6) (by omega) (by decide))) (fun h1 => ?_)
          refine And.intro (fun h2 => ?_) (fun h2 => ?_)
          · refine ⟨6 * j + i, ix, by omega, by decide, ?_⟩
            exact tail (mD S 19 (6 * j + i)) (by rw [ho, xb_eq h2]; rfl)
          · refine ⟨6 * j + i, ix, by omega, by decide, ?_⟩
            exact tail (mD S 17 (6 * j + i)) (by rw [ho, xb_ne h2]; rfl)
      refine hW.1 (fun pc => Nat.beq pc 5 || Nat.beq pc 18) 200 4 _ _ _ ?_
      refine And.intro (fun h1 => absurd h1 (nI_ge (b := 6) (by omega) (by decide))) (fun h1 => ?_)
      exact inner 6 0 (by omega)
  exact hW.1 (fun pc => Nat.beq pc 5) 200 0 _ _ _ (loop 6 0 (by omega))
def s_product (st : List Value) (aw : xA) (k : List Value → xA → Prop) : Prop := match st with
  | .int x :: .ref 0 :: st => match xsm st with
    | true => ∃ (S : mS) (b : Bool), aw = mW S ∧ x = xb b ∧ prOk (mD S 18) (if b then mD S 17 else mD S 19) ∧ k (.double (prd (mD S 18) (if b then mD S 17 else mD S 19) 6) :: st) (mW S)
    | false => False
  | _ => False
theorem e_product {d : Nat} (hd : 1 ≤ d) : xEnt l d D ad cy RX5 290 s_product := xEnt_V (y' := yX5_product) (cc' := cX5_product) (n' := 11) (ret' := some .double) (d' := 0) (j := 145) 1 (by decide +kernel) (by decide +kernel) (by omega) (fun st aw k h => by
  match st, h with
  | .int x :: .ref 0 :: st, h =>
    cases hs : xsm st with
    | false => simp only [s_product, hs] at h
    | true =>
      simp only [s_product, hs] at h
      obtain ⟨S, b, rfl, rfl, hok, h2⟩ := h
      exact ⟨[.int (xb b)], st, _, 0, 5, _, rfl, rfl, hs, rfl, ⟨_, rfl, rfl⟩, m_product S b _ rfl hok, fun vs aw' h9 => by obtain ⟨rfl, rfl⟩ := h9; exact h2⟩)
set_option maxRecDepth 100000 in
theorem m_times (S : mS) (hok : tmOk (mD S 14) (mD S 19) (mA S 11)) : xMet l yX5_times cX5_times 6 none 2 D ad cy [.ref 0] (mW S) (fun vs aw' => vs = [] ∧ aw' = mW (mD' S 18 (filR (tmG (mD S 14) (mD S 19) (mA S 11)) (mD S 18) 36))) := by
  refine xmet (Fd := xlk xfl5) (Cn := xlk xcl5) (Cl := xCt [(264, s_near)]) (by decide) xk_X5_times xt_X5_times ⟨_, _, rfl, rfl⟩ xpl5 (xEnt_ok (List.forall_mem_cons.mpr ⟨e_near (by omega), fun q h => by cases h⟩)) (Nat.le_of_ble_eq_true rfl) (fun WC hW => ?_)
  generalize hG : tmG (mD S 14) (mD S 19) (mA S 11) = G
  have loop : ∀ (n c : Nat), c + n = 36 → WC (xL_X5_times.drop 2) [some (.ref 0), some (.int (nI c)), none, none, none, none] [] (mW (mD' S 18 (filR G (mD S 18) c))) := by
    intro n
    induction n with
    | zero =>
      intro c hc
      have : c = 36 := by omega
      subst this
      refine hW.1 (fun pc => Nat.beq pc 2) 200 2 _ _ _ ?_
      exact And.intro (fun h1 => And.intro rfl (by rw [hG])) (fun h1 => absurd (Int32.le_refl _) h1)
    | succ n ih =>
      intro c hc
      have ih' := ih (c + 1) (by omega)
      have e1 : nI c + nI 1 = nI (c + 1) := nI_add c 1
      rw [← e1, filR_s] at ih'
      have ho := hok c (by omega)
      have inner : ∀ (n w : Nat), w + n = 4 → WC (xL_X5_times.drop 17) [some (.ref 0), some (.int (nI c)), some (.double (tmV (mD S 14) (mD S 19) (mA S 11) c w)), none, some (.int (nI w)), none] [] (mW (mD' S 18 (filR G (mD S 18) c))) := by
        intro n
        induction n with
        | zero =>
          intro w hw
          have : w = 4 := by omega
          subst this
          refine hW.1 (fun pc => Nat.beq pc 2) 200 17 _ _ _ ?_
          refine And.intro (fun h1 => ?_) (fun h1 => absurd (Int32.le_refl _) h1)
          refine ⟨c, rfl, by omega, by decide, ?_⟩
          refine And.intro (fun h2 => ?_) (fun h2 => ?_)
          · refine ⟨c, rfl, by omega, by decide, ?_⟩
            have e2 : G c = FP.dconst0 := by rw [← hG]; unfold tmG; exact if_pos h2
            rw [e2] at ih'
            refine hW.2 2 _ _ _ _ ?_ ?_ ih'
            · exact And.intro rfl (And.intro rfl trivial)
            · rfl
          · refine ⟨c, rfl, by omega, by decide, ?_⟩
            have e2 : G c = tmV (mD S 14) (mD S 19) (mA S 11) c 4 := by rw [← hG]; unfold tmG; exact if_neg h2
            rw [e2] at ih'
            refine hW.2 2 _ _ _ _ ?_ ?_ ih'
            · exact And.intro rfl (And.intro rfl trivial)
            · rfl
        | succ n ihn =>
          intro w hw
          have ihn' := ihn (w + 1) (by omega)
          have e2 : nI w + nI 1 = nI (w + 1) := nI_add w 1
          rw [← e2] at ihn'
          have ho2 := ho (w + 1) (by omega)
          refine hW.1 (fun pc => Nat.beq pc 25) 200 17 _ _ _ ?_
          refine And.intro (fun h1 => absurd h1 (nI_ge (b := 4) (by omega) (by decide))) (fun h1 => ?_)
          refine ⟨mD' S 18 (filR G (mD S 18) c), c, w, rfl, rfl, rfl, by omega, by omega, ?_⟩
          refine And.intro (fun h2 => ?_) (fun h2 => ?_)
          · have e3 : tmV (mD S 14) (mD S 19) (mA S 11) c (w + 1) = tmV (mD S 14) (mD S 19) (mA S 11) c w := by show ite _ _ _ = _; exact if_pos h2
            rw [e3] at ihn'
            refine hW.2 17 _ _ _ _ ?_ ?_ ihn'
            · exact And.intro rfl (And.intro rfl (And.intro rfl (And.intro rfl trivial)))
            · rfl
          · obtain ⟨d, hd, ed, -⟩ := nearI_in h2
            have ed : nearI (mA S 11) c w = nI d := ed
            have e3 : tmV (mD S 14) (mD S 19) (mA S 11) c (w + 1) = FP.dsub (tmV (mD S 14) (mD S 19) (mA S 11) c w) (mD S 19 d) := by
              show ite _ _ _ = _
              rw [if_neg h2, ed, nI_clamp (by omega)]
            rw [e3] at ihn' ho2
            refine ⟨d, ed, by omega, by decide, ?_⟩
            refine And.intro ho2 ?_
            refine hW.2 17 _ _ _ _ ?_ ?_ ihn'
            · exact And.intro rfl (And.intro rfl (And.intro rfl (And.intro rfl trivial)))
            · rfl
      refine hW.1 (fun pc => Nat.beq pc 2 || Nat.beq pc 25) 200 2 _ _ _ ?_
      refine And.intro (fun h1 => absurd h1 (nI_ge (b := 36) (by omega) (by decide))) (fun h1 => ?_)
      refine ⟨c, rfl, by omega, by decide, ?_⟩
      refine ⟨c, rfl, by omega, by decide, ?_⟩
      refine And.intro (ho 0 (by omega)) ?_
      exact inner 4 0 (by omega)
  have h9 := loop 36 0 (by omega)
  rw [filR_0] at h9
  exact hW.1 (fun pc => Nat.beq pc 2) 200 0 _ _ _ h9
def s_times (st : List Value) (aw : xA) (k : List Value → xA → Prop) : Prop := match st with
  | .ref 0 :: st => match xsm st with
    | true => ∃ S : mS, aw = mW S ∧ tmOk (mD S 14) (mD S 19) (mA S 11) ∧ k st (mW (mD' S 18 (filR (tmG (mD S 14) (mD S 19) (mA S 11)) (mD S 18) 36)))
    | false => False
  | _ => False
theorem e_times {d : Nat} (hd : 3 ≤ d) : xEnt l d D ad cy RX5 298 s_times := xEnt_V (y' := yX5_times) (cc' := cX5_times) (n' := 6) (ret' := none) (d' := 2) (j := 149) 0 (by decide +kernel) (by decide +kernel) (by omega) (fun st aw k h => by
  match st, h with
  | .ref 0 :: st, h =>
    cases hs : xsm st with
    | false => simp only [s_times, hs] at h
    | true =>
      simp only [s_times, hs] at h
      obtain ⟨S, rfl, hok, h2⟩ := h
      exact ⟨[], st, _, 0, 5, _, rfl, rfl, hs, rfl, ⟨_, rfl, rfl⟩, m_times S hok, fun vs aw' h9 => by obtain ⟨rfl, rfl⟩ := h9; exact h2⟩)
end M7
