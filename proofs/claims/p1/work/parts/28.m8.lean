/-! the reference: matrix -/
def b01 (b : Bool) : Nat := if b then 0 else 1
/-- how many neighbours of a cell are not solid -/
def opN (sol : Nat → Int32) (c : Nat) : Nat := b01 (isSolB sol (nI (c % 6) - nI 1) (nI (c / 6))) + b01 (isSolB sol (nI (c % 6) + nI 1) (nI (c / 6))) + b01 (isSolB sol (nI (c % 6)) (nI (c / 6) - nI 1)) + b01 (isSolB sol (nI (c % 6)) (nI (c / 6) + nI 1))
def dgG (sol : Nat → Int32) (c : Nat) : UInt64 := FP.i2d (nI (opN sol c))
def tkB (sol fl : Nat → Int32) (c : Nat) : Bool := if fl c = 0 then false else if opN sol c = 0 then false else true
def tkG (sol fl : Nat → Int32) (c : Nat) : Int32 := xb (tkB sol fl c)
def ot1 (af : Nat → UInt64) (c : Nat) : UInt64 := FP.dsub (af (7 * (c / 6) + c % 6 + 1)) (af (7 * (c / 6) + c % 6))
def ot2 (af : Nat → UInt64) (c : Nat) : UInt64 := FP.dadd (ot1 af c) (af (42 + 6 * (c / 6) + 6 + c % 6))
def outF (af : Nat → UInt64) (c : Nat) : UInt64 := FP.dsub (ot2 af c) (af (42 + 6 * (c / 6) + c % 6))
def rG (sol fl : Nat → Int32) (af : Nat → UInt64) (c : Nat) : UInt64 := if tkB sol fl c then FP.dsub FP.dconst0 (outF af c) else FP.dconst0
def rOk (sol fl : Nat → Int32) (af : Nat → UInt64) (c : Nat) : Prop := vf_n64 (ot1 af c) ∧ vf_n64 (ot2 af c) ∧ vf_n64 (outF af c) ∧ (tkB sol fl c = true → vf_n64 (FP.dsub FP.dconst0 (outF af c)))
theorem filR_i (G old : Nat → Int32) (c : Nat) : filR G old (c + 1) = upd (filR G old c) c (G c) := by
  funext i
  unfold filR upd
  by_cases h : i = c
  · subst h; rw [if_pos (by omega), if_pos rfl]
  · rw [if_neg h]
    show ite _ _ _ = ite _ _ _
    by_cases h2 : i < c
    · rw [if_pos (by omega), if_pos h2]
    · rw [if_neg (by omega), if_neg h2]
/-- the maker of a cell, from the row of makers so far -/
def mk1 (dg mk : Nat → UInt64) (tk : Nat → Int32) (c : Nat) : UInt64 := if nearI tk c 0 < 0 then dg c else FP.dsub (dg c) (FP.ddiv FP.dconst1 (mk (nearI tk c 0).toNatClampNeg))
def mk2 (dg mk : Nat → UInt64) (tk : Nat → Int32) (c : Nat) : UInt64 := if nearI tk c 2 < 0 then mk1 dg mk tk c else FP.dsub (mk1 dg mk tk c) (FP.ddiv FP.dconst1 (mk (nearI tk c 2).toNatClampNeg))
def mkV (dg mk : Nat → UInt64) (tk : Nat → Int32) (c : Nat) : UInt64 := if 0 ≤ cvd (mk2 dg mk tk c) (FP.dmul 4598175219545276416 (dg c)) .g then mk2 dg mk tk c else dg c
def mkR (dg old : Nat → UInt64) (tk : Nat → Int32) : Nat → Nat → UInt64
  | 0 => old
  | c + 1 => vf_upd (mkR dg old tk c) c (mkV dg (mkR dg old tk c) tk c)
def mkOk (dg mk : Nat → UInt64) (tk : Nat → Int32) (c : Nat) : Prop := (¬ nearI tk c 0 < 0 → vf_n64 (FP.ddiv FP.dconst1 (mk (nearI tk c 0).toNatClampNeg)) ∧ vf_n64 (mk1 dg mk tk c)) ∧ (¬ nearI tk c 2 < 0 → vf_n64 (FP.ddiv FP.dconst1 (mk (nearI tk c 2).toNatClampNeg)) ∧ vf_n64 (mk2 dg mk tk c)) ∧ vf_n64 (FP.dmul 4598175219545276416 (dg c))
/-- the rows behind matrix's first loop, its first c cells done -/
def mx1 (S : mS) (c : Nat) : mS := mD' (mD' (mA' (mD' S 14 (filR (dgG (mA S 1)) (mD S 14) c)) 11 (filR (tkG (mA S 1) (mA S 10)) (mA S 11) c)) 17 (filR (rG (mA S 1) (mA S 10) (mD S 13)) (mD S 17) c)) 16 (filR (fun _ => FP.dconst0) (mD S 16) c)
def mx2 (S : mS) : mS := mD' (mx1 S 36) 15 (mkR (mD (mx1 S 36) 14) (mD S 15) (mA (mx1 S 36) 11) 36)
section M8
variable {l : Launch} {D : va_G} {ad : Nat → Nat} {cy : Nat → ClassId}
def s_isSolid (st : List Value) (aw : xA) (k : List Value → xA → Prop) : Prop := match st with
  | .int y :: .int x :: .ref 0 :: st => match xsm st with
    | true => ∃ S : mS, aw = mW S ∧ k (.int (xb (isSolB (mA S 1) x y)) :: st) (mW S)
    | false => False
  | _ => False
theorem e_isSolid {d : Nat} (hd : 2 ≤ d) : xEnt l d D ad cy RX5 258 s_isSolid := xEnt_V (y' := yX5_isSolid) (cc' := cX5_isSolid) (n' := 3) (ret' := some .boolean) (d' := 1) (j := 129) 2 (by decide +kernel) (by decide +kernel) (by omega) (fun st aw k h => by
  match st, h with
  | .int y :: .int x :: .ref 0 :: st, h =>
    cases hs : xsm st with
    | false => simp only [s_isSolid, hs] at h
    | true =>
      simp only [s_isSolid, hs] at h
      obtain ⟨S, rfl, h2⟩ := h
      exact ⟨[.int x, .int y], st, _, 0, 5, _, rfl, rfl, hs, rfl, ⟨_, rfl, rfl⟩, m_isSolid S x y, fun vs aw' h9 => by obtain ⟨rfl, rfl⟩ := h9; exact h2⟩)
set_option maxRecDepth 100000 in
set_option maxHeartbeats 4000000 in
theorem m_matrix (S : mS) (hok : ∀ c, c < 36 → rOk (mA S 1) (mA S 10) (mD S 13) c) (hmk : ∀ c, c < 36 → mkOk (mD (mx1 S 36) 14) (mkR (mD (mx1 S 36) 14) (mD S 15) (mA (mx1 S 36) 11) c) (mA (mx1 S 36) 11) c) : xMet l yX5_matrix cX5_matrix 7 none 2 D ad cy [.ref 0] (mW S) (fun vs aw' => vs = [] ∧ aw' = mW (mx2 S)) := by
  refine xmet (Fd := xlk xfl5) (Cn := xlk xcl5) (Cl := xCt [(258, s_isSolid), (264, s_near)]) (by decide) xk_X5_matrix xt_X5_matrix ⟨_, _, rfl, rfl⟩ xpl5 (xEnt_ok (List.forall_mem_cons.mpr ⟨e_isSolid (by omega), List.forall_mem_cons.mpr ⟨e_near (by omega), fun q h => by cases h⟩⟩)) (Nat.le_of_ble_eq_true rfl) (fun WC hW => ?_)
  have loop2 : ∀ (n c : Nat), c + n = 36 → WC (xL_X5_matrix.drop 144) [some (.ref 0), some (.int (nI c)), none, none, none, none, none] [] (mW (mD' (mx1 S 36) 15 (mkR (mD (mx1 S 36) 14) (mD S 15) (mA (mx1 S 36) 11) c))) := by
    have e15 : mD S 15 = mD (mx1 S 36) 15 := rfl
    rw [e15] at hmk ⊢
    have hfin : mW (mx2 S) = mW (mD' (mx1 S 36) 15 (mkR (mD (mx1 S 36) 14) (mD (mx1 S 36) 15) (mA (mx1 S 36) 11) 36)) := rfl
    generalize mx1 S 36 = Z at hmk hfin ⊢
    intro n
    induction n with
    | zero =>
      intro c hc
      have : c = 36 := by omega
      subst this
      refine hW.1 (fun pc => Nat.beq pc 219) 300 144 _ _ _ ?_
      exact And.intro (fun h1 => And.intro rfl hfin.symm) (fun h1 => absurd (Int32.le_refl _) h1)
    | succ n ih =>
      intro c hc
      have ih' := ih (c + 1) (by omega)
      have e1 : nI c + nI 1 = nI (c + 1) := nI_add c 1
      rw [← e1] at ih'
      obtain ⟨o1, o2, o3⟩ := hmk c (by omega)
      generalize hR : mkR (mD Z 14) (mD Z 15) (mA Z 11) c = R at o1 o2
      have ih' : WC (xL_X5_matrix.drop 144) [some (.ref 0), some (.int (nI c + nI 1)), none, none, none, none, none] [] (mW (mD' Z 15 (vf_upd R c (mkV (mD Z 14) R (mA Z 11) c)))) := by rw [← hR]; exact ih'
      have U3 : ∀ (x y : Int32), WC (xL_X5_matrix.drop 184) [some (.ref 0), some (.int (nI c)), some (.double (mk2 (mD Z 14) R (mA Z 11) c)), none, some (.int x), some (.int y), none] [] (mW (mD' Z 15 R)) := by
        intro x y
        refine hW.1 (fun pc => Nat.beq pc 219) 300 184 _ _ _ ?_
        refine ⟨c, rfl, by omega, by decide, ?_⟩
        refine And.intro o3 ?_
        refine And.intro (fun h2 => ?_) (fun h2 => ?_)
        · refine ⟨c, rfl, by omega, by decide, ?_⟩
          have e3 : mkV (mD Z 14) R (mA Z 11) c = mk2 (mD Z 14) R (mA Z 11) c := by unfold mkV; exact if_pos h2
          rw [e3] at ih'
          refine hW.2 144 _ _ _ _ ?_ ?_ ih'
          · exact And.intro rfl (And.intro rfl (trivial))
          · rfl
        · refine ⟨c, rfl, by omega, by decide, ?_⟩
          refine ⟨c, rfl, by omega, by decide, ?_⟩
          have e3 : mkV (mD Z 14) R (mA Z 11) c = mD Z 14 c := by unfold mkV; exact if_neg h2
          rw [e3] at ih'
          refine hW.2 144 _ _ _ _ ?_ ?_ ih'
          · exact And.intro rfl (And.intro rfl (trivial))
          · rfl
      have U2 : WC (xL_X5_matrix.drop 173) [some (.ref 0), some (.int (nI c)), some (.double (mk1 (mD Z 14) R (mA Z 11) c)), none, some (.int (nearI (mA Z 11) c 0)), some (.int (nearI (mA Z 11) c 2)), none] [] (mW (mD' Z 15 R)) := by
        refine hW.1 (fun pc => Nat.beq pc 282) 300 173 _ _ _ ?_
        have u3 := U3 (nearI (mA Z 11) c 0) (nearI (mA Z 11) c 2)
        refine And.intro (fun h2 => ?_) (fun h2 => ?_)
        · have e3 : mk2 (mD Z 14) R (mA Z 11) c = mk1 (mD Z 14) R (mA Z 11) c := by unfold mk2; exact if_pos h2
          rw [e3] at u3
          exact u3
        · obtain ⟨q1, q2⟩ := o2 h2
          obtain ⟨d, hd, ed, -⟩ := nearI_in h2
          have e3 : mk2 (mD Z 14) R (mA Z 11) c = FP.dsub (mk1 (mD Z 14) R (mA Z 11) c) (FP.ddiv FP.dconst1 (R d)) := by unfold mk2; rw [if_neg h2, ed, nI_clamp (by omega)]
          rw [e3] at u3 q2
          rw [ed, nI_clamp (by omega)] at q1
          refine ⟨d, ed, by omega, by decide, ?_⟩
          exact And.intro q1 (And.intro q2 u3)
      refine hW.1 (fun pc => Nat.beq pc 219 || Nat.beq pc 265) 300 144 _ _ _ ?_
      refine And.intro (fun h1 => absurd h1 (nI_ge (b := 36) (by omega) (by decide))) (fun h1 => ?_)
      refine ⟨c, rfl, by omega, by decide, ?_⟩
      refine ⟨mD' Z 15 R, c, 0, rfl, rfl, rfl, by omega, by decide, ?_⟩
      refine ⟨mD' Z 15 R, c, 2, rfl, rfl, rfl, by omega, by decide, ?_⟩
      refine And.intro (fun h2 => ?_) (fun h2 => ?_)
      · have e3 : mk1 (mD Z 14) R (mA Z 11) c = mD Z 14 c := by unfold mk1; exact if_pos h2
        rw [e3] at U2
        exact U2
      · obtain ⟨q1, q2⟩ := o1 h2
        obtain ⟨d, hd, ed, -⟩ := nearI_in h2
        have ed : nearI (mA Z 11) c 0 = nI d := ed
        have e3 : mk1 (mD Z 14) R (mA Z 11) c = FP.dsub (mD Z 14 c) (FP.ddiv FP.dconst1 (R d)) := by unfold mk1; rw [if_neg h2, ed, nI_clamp (by omega)]
        rw [e3] at U2 q2
        rw [ed, nI_clamp (by omega)] at q1
        refine ⟨d, ed, by omega, by decide, ?_⟩
        exact And.intro q1 (And.intro q2 U2)
  have loop1 : ∀ (n c : Nat), c + n = 36 → WC (xL_X5_matrix.drop 2) [some (.ref 0), some (.int (nI c)), none, none, none, none, none] [] (mW (mx1 S c)) := by
    intro n
    induction n with
    | zero =>
      intro c hc
      have : c = 36 := by omega
      subst this
      refine hW.1 (fun pc => Nat.beq pc 2 || Nat.beq pc 219) 300 2 _ _ _ ?_
      exact And.intro (fun h1 => loop2 36 0 (by omega)) (fun h1 => absurd (Int32.le_refl _) h1)
    | succ n ih =>
      intro c hc
      have ih' := ih (c + 1) (by omega)
      have e1 : nI c + nI 1 = nI (c + 1) := nI_add c 1
      obtain ⟨o1, o2, o3, o4⟩ := hok c (by omega)
      have r1 : nI c - nI c / nI 6 * nI 6 = nI (c % 6) := pk_rem (by omega) (by decide) (by decide)
      have r2 : nI c / nI 6 = nI (c / 6) := pk_div (by omega) (by decide) (by decide)
      have hi6 : c % 6 < 6 := Nat.mod_lt _ (by decide)
      have hj6 : c / 6 < 6 := by omega
      have e2 : mW (mx1 S (c + 1)) = mW (mD' (mD' (mA' (mD' (mx1 S c) 14 (vf_upd (filR (dgG (mA S 1)) (mD S 14) c) c (dgG (mA S 1) c))) 11 (upd (filR (tkG (mA S 1) (mA S 10)) (mA S 11) c) c (tkG (mA S 1) (mA S 10) c))) 17 (vf_upd (filR (rG (mA S 1) (mA S 10) (mD S 13)) (mD S 17) c) c (rG (mA S 1) (mA S 10) (mD S 13) c))) 16 (vf_upd (filR (fun _ => FP.dconst0) (mD S 16) c) c FP.dconst0)) := by
        unfold mx1
        rw [filR_s, filR_i, filR_s, filR_s]
        rfl
      rw [e2, ← e1] at ih'
      have T6 : ∀ v, v = rG (mA S 1) (mA S 10) (mD S 13) c → ∀ (o : Int32) (d : UInt64), WC (xL_X5_matrix.drop 134) [some (.ref 0), some (.int (nI c)), some (.int (nI (c % 6))), some (.int (nI (c / 6))), some (.int o), some (.double d), none] [.double v, .int (nI c), .ref 17] (mW (mA' (mD' (mx1 S c) 14 (vf_upd (filR (dgG (mA S 1)) (mD S 14) c) c (dgG (mA S 1) c))) 11 (upd (filR (tkG (mA S 1) (mA S 10)) (mA S 11) c) c (tkG (mA S 1) (mA S 10) c)))) := by
        intro v hv o d
        subst hv
        refine hW.1 (fun pc => Nat.beq pc 2) 300 134 _ _ _ ?_
        refine ⟨c, rfl, by omega, by decide, ?_⟩
        refine ⟨c, rfl, by omega, by decide, ?_⟩
        refine hW.2 2 _ _ _ _ ?_ ?_ ih'
        · exact And.intro rfl (And.intro rfl (trivial))
        · rfl
      have T5 : ∀ b : Bool, b = tkB (mA S 1) (mA S 10) c → ∀ (o : Int32), WC (xL_X5_matrix.drop 76) [some (.ref 0), some (.int (nI c)), some (.int (nI (c % 6))), some (.int (nI (c / 6))), some (.int o), none, none] [.int (xb b), .int (nI c), .ref 11] (mW (mD' (mx1 S c) 14 (vf_upd (filR (dgG (mA S 1)) (mD S 14) c) c (dgG (mA S 1) c)))) := by
        intro b hb o
        refine hW.1 (fun pc => Nat.beq pc 2 || Nat.beq pc 203) 300 76 _ _ _ ?_
        refine ⟨c, b, rfl, rfl, by omega, by decide, ?_⟩
        refine ⟨7 * (c / 6) + c % 6 + 1, by rw [pk_mul, nI_add, nI_add], by omega, by decide, ?_⟩
        refine ⟨7 * (c / 6) + c % 6, by rw [pk_mul, nI_add], by omega, by decide, ?_⟩
        refine And.intro o1 ?_
        refine ⟨42 + 6 * (c / 6) + 6 + c % 6, by rw [pk_mul, nI_add, nI_add, nI_add], by omega, by decide, ?_⟩
        refine And.intro o2 ?_
        refine ⟨42 + 6 * (c / 6) + c % 6, by rw [pk_mul, nI_add, nI_add], by omega, by decide, ?_⟩
        refine And.intro o3 ?_
        refine ⟨c, rfl, by omega, by decide, ?_⟩
        have eu : upd (filR (tkG (mA S 1) (mA S 10)) (mA S 11) c) c (xb b) c = xb b := pk_us
        refine And.intro (fun h2 => ?_) (fun h2 => ?_)
        · have h2 := xb_eq (eu.symm.trans h2)
          have T := T6 FP.dconst0 (by unfold rG; rw [← hb, h2]; rfl) o (outF (mD S 13) c)
          unfold tkG at T
          rw [← hb] at T
          exact T
        · have h2 := xb_ne (fun z => h2 (eu.trans z))
          refine And.intro (o4 (by rw [← hb]; exact h2)) ?_
          have T := T6 (FP.dsub FP.dconst0 (outF (mD S 13) c)) (by unfold rG; rw [← hb, h2]; rfl) o (outF (mD S 13) c)
          unfold tkG at T
          rw [← hb] at T
          exact T
      have T4 : WC (xL_X5_matrix.drop 56) [some (.ref 0), some (.int (nI c)), some (.int (nI (c % 6))), some (.int (nI (c / 6))), none, none, none] [.int (nI (opN (mA S 1) c))] (mW (mx1 S c)) := by
        refine hW.1 (fun pc => Nat.beq pc 120) 300 56 _ _ _ ?_
        refine ⟨c, rfl, by omega, by decide, ?_⟩
        refine ⟨c, rfl, by omega, by decide, ?_⟩
        have hle : opN (mA S 1) c ≤ 4 := by unfold opN b01; split <;> split <;> split <;> split <;> omega
        refine And.intro (fun h2 => ?_) (fun h2 => ?_)
        · have h2 : mA S 10 c = 0 := h2
          exact T5 false (by unfold tkB; rw [if_pos h2]) _
        have h2 : ¬ mA S 10 c = 0 := h2
        refine And.intro (fun h3 => ?_) (fun h3 => ?_)
        · have h4 : opN (mA S 1) c = 0 := Decidable.byContradiction fun z => nI_nle (Nat.pos_of_ne_zero z) (by omega) h3
          exact T5 false (by unfold tkB; rw [if_neg h2, if_pos h4]) _
        · have h4 : opN (mA S 1) c ≠ 0 := fun z => h3 (by rw [z]; exact Int32.le_refl _)
          exact T5 true (by unfold tkB; rw [if_neg h2, if_neg h4]) _
      have T3 : ∀ a : Nat, a + b01 (isSolB (mA S 1) (nI (c % 6)) (nI (c / 6) + nI 1)) = opN (mA S 1) c → WC (xL_X5_matrix.drop 45) [some (.ref 0), some (.int (nI c)), some (.int (nI (c % 6))), some (.int (nI (c / 6))), none, none, none] [.int (nI a)] (mW (mx1 S c)) := by
        intro a ha
        refine hW.1 (fun pc => Nat.beq pc 85) 300 45 _ _ _ ?_
        refine ⟨mx1 S c, rfl, ?_⟩
        refine And.intro (fun h2 => ?_) (fun h2 => ?_)
        · have h2 : isSolB (mA S 1) (nI (c % 6)) (nI (c / 6) + nI 1) = false := xb_eq h2
          rw [h2] at ha
          rw [← ha] at T4
          have e : nI a + nI 1 = nI (a + b01 false) := nI_add a 1
          rw [← e] at T4
          exact T4
        · have h2 : isSolB (mA S 1) (nI (c % 6)) (nI (c / 6) + nI 1) = true := xb_ne h2
          rw [h2] at ha
          rw [← ha] at T4
          have e : nI a + nI 0 = nI (a + b01 true) := nI_add a 0
          rw [← e] at T4
          exact T4
      have T2 : ∀ a : Nat, a + b01 (isSolB (mA S 1) (nI (c % 6)) (nI (c / 6) - nI 1)) + b01 (isSolB (mA S 1) (nI (c % 6)) (nI (c / 6) + nI 1)) = opN (mA S 1) c → WC (xL_X5_matrix.drop 34) [some (.ref 0), some (.int (nI c)), some (.int (nI (c % 6))), some (.int (nI (c / 6))), none, none, none] [.int (nI a)] (mW (mx1 S c)) := by
        intro a ha
        refine hW.1 (fun pc => Nat.beq pc 68) 300 34 _ _ _ ?_
        refine ⟨mx1 S c, rfl, ?_⟩
        refine And.intro (fun h2 => ?_) (fun h2 => ?_)
        · have h2 : isSolB (mA S 1) (nI (c % 6)) (nI (c / 6) - nI 1) = false := xb_eq h2
          rw [h2] at ha
          have T := T3 _ ha
          have e : nI a + nI 1 = nI (a + b01 false) := nI_add a 1
          rw [← e] at T
          exact T
        · have h2 : isSolB (mA S 1) (nI (c % 6)) (nI (c / 6) - nI 1) = true := xb_ne h2
          rw [h2] at ha
          have T := T3 _ ha
          have e : nI a + nI 0 = nI (a + b01 true) := nI_add a 0
          rw [← e] at T
          exact T
      have T1 : ∀ a : Nat, a = b01 (isSolB (mA S 1) (nI (c % 6) - nI 1) (nI (c / 6))) → WC (xL_X5_matrix.drop 23) [some (.ref 0), some (.int (nI c)), some (.int (nI (c % 6))), some (.int (nI (c / 6))), none, none, none] [.int (nI a)] (mW (mx1 S c)) := by
        intro a ha
        have ha2 : a + b01 (isSolB (mA S 1) (nI (c % 6) + nI 1) (nI (c / 6))) + b01 (isSolB (mA S 1) (nI (c % 6)) (nI (c / 6) - nI 1)) + b01 (isSolB (mA S 1) (nI (c % 6)) (nI (c / 6) + nI 1)) = opN (mA S 1) c := by rw [ha]; rfl
        refine hW.1 (fun pc => Nat.beq pc 51) 300 23 _ _ _ ?_
        refine ⟨mx1 S c, rfl, ?_⟩
        refine And.intro (fun h2 => ?_) (fun h2 => ?_)
        · have h2 : isSolB (mA S 1) (nI (c % 6) + nI 1) (nI (c / 6)) = false := xb_eq h2
          rw [h2] at ha2
          have T := T2 _ ha2
          have e : nI a + nI 1 = nI (a + b01 false) := nI_add a 1
          rw [← e] at T
          exact T
        · have h2 : isSolB (mA S 1) (nI (c % 6) + nI 1) (nI (c / 6)) = true := xb_ne h2
          rw [h2] at ha2
          have T := T2 _ ha2
          have e : nI a + nI 0 = nI (a + b01 true) := nI_add a 0
          rw [← e] at T
          exact T
      have T0 : WC (xL_X5_matrix.drop 13) [some (.ref 0), some (.int (nI c)), some (.int (nI (c % 6))), some (.int (nI (c / 6))), none, none, none] [] (mW (mx1 S c)) := by
        refine hW.1 (fun pc => Nat.beq pc 34) 300 13 _ _ _ ?_
        refine ⟨mx1 S c, rfl, ?_⟩
        refine And.intro (fun h2 => ?_) (fun h2 => ?_)
        · have h2 : isSolB (mA S 1) (nI (c % 6) - nI 1) (nI (c / 6)) = false := xb_eq h2
          exact T1 1 (by rw [h2]; rfl)
        · have h2 : isSolB (mA S 1) (nI (c % 6) - nI 1) (nI (c / 6)) = true := xb_ne h2
          exact T1 0 (by rw [h2]; rfl)
      refine hW.1 (fun pc => Nat.beq pc 2 || Nat.beq pc 18) 300 2 _ _ _ ?_
      refine And.intro (fun h1 => absurd h1 (nI_ge (b := 36) (by omega) (by decide))) (fun h1 => ?_)
      refine And.intro (by decide) ?_
      refine And.intro (by decide) ?_
      rw [← r1, ← r2] at T0
      exact T0
  have h9 := loop1 36 0 (by omega)
  have e0 : mW (mx1 S 0) = mW S := by
    unfold mx1
    rw [filR_0, filR_0, filR_0, filR_0]
    rfl
  rw [e0] at h9
  exact hW.1 (fun pc => Nat.beq pc 2) 300 0 _ _ _ h9
end M8
