/-! the reference: makeZ -/
/-- MAKING z from r: the first way, cell by cell -/
def fw1 (r mk h : Nat → UInt64) (tk : Nat → Int32) (c : Nat) : UInt64 := if nearI tk c 0 < 0 then r c else FP.dadd (r c) (FP.ddiv (h (nearI tk c 0).toNatClampNeg) (mk (nearI tk c 0).toNatClampNeg))
def fw2 (r mk h : Nat → UInt64) (tk : Nat → Int32) (c : Nat) : UInt64 := if nearI tk c 2 < 0 then fw1 r mk h tk c else FP.dadd (fw1 r mk h tk c) (FP.ddiv (h (nearI tk c 2).toNatClampNeg) (mk (nearI tk c 2).toNatClampNeg))
def fwV (r mk h : Nat → UInt64) (tk : Nat → Int32) (c : Nat) : UInt64 := if tk c = 0 then FP.dconst0 else fw2 r mk h tk c
def fwR (r mk old : Nat → UInt64) (tk : Nat → Int32) : Nat → Nat → UInt64
  | 0 => old
  | c + 1 => vf_upd (fwR r mk old tk c) c (fwV r mk (fwR r mk old tk c) tk c)
def fwOk (r mk h : Nat → UInt64) (tk : Nat → Int32) (c : Nat) : Prop :=
  (¬ nearI tk c 0 < 0 → vf_n64 (FP.ddiv (h (nearI tk c 0).toNatClampNeg) (mk (nearI tk c 0).toNatClampNeg)) ∧ vf_n64 (fw1 r mk h tk c)) ∧ (¬ nearI tk c 2 < 0 → vf_n64 (FP.ddiv (h (nearI tk c 2).toNatClampNeg) (mk (nearI tk c 2).toNatClampNeg)) ∧ vf_n64 (fw2 r mk h tk c))
/-- .. and the way back; the cells from n on are done -/
def bw0 (h mk : Nat → UInt64) (tk : Nat → Int32) (c : Nat) : UInt64 := if tk c = 0 then FP.dconst0 else FP.ddiv (h c) (mk c)
def bw1 (h mk z : Nat → UInt64) (tk : Nat → Int32) (c : Nat) : UInt64 := if tk c = 0 then bw0 h mk tk c else if nearI tk c 1 < 0 then bw0 h mk tk c else FP.dadd (bw0 h mk tk c) (FP.ddiv (z (nearI tk c 1).toNatClampNeg) (mk c))
def bwV (h mk z : Nat → UInt64) (tk : Nat → Int32) (c : Nat) : UInt64 := if tk c = 0 then bw1 h mk z tk c else if nearI tk c 3 < 0 then bw1 h mk z tk c else FP.dadd (bw1 h mk z tk c) (FP.ddiv (z (nearI tk c 3).toNatClampNeg) (mk c))
def bwR (h mk old : Nat → UInt64) (tk : Nat → Int32) : Nat → Nat → UInt64
  | 0 => old
  | n + 1 => vf_upd (bwR h mk old tk n) (35 - n) (bwV h mk (bwR h mk old tk n) tk (35 - n))
def bwOk (h mk z : Nat → UInt64) (tk : Nat → Int32) (c : Nat) : Prop := (tk c ≠ 0 → vf_n64 (FP.ddiv (h c) (mk c))) ∧
  (tk c ≠ 0 → ¬ nearI tk c 1 < 0 → vf_n64 (FP.ddiv (z (nearI tk c 1).toNatClampNeg) (mk c)) ∧ vf_n64 (bw1 h mk z tk c)) ∧ (tk c ≠ 0 → ¬ nearI tk c 3 < 0 → vf_n64 (FP.ddiv (z (nearI tk c 3).toNatClampNeg) (mk c)) ∧ vf_n64 (bwV h mk z tk c))
def mkH (S : mS) (c : Nat) : Nat → UInt64 := fwR (mD S 17) (mD S 15) (mD S 20) (mA S 11) c
def mkZr (S : mS) (n : Nat) : Nat → UInt64 := bwR (mkH S 36) (mD S 15) (mD S 18) (mA S 11) n
def mzOk (S : mS) : Prop := (∀ c, c < 36 → fwOk (mD S 17) (mD S 15) (mkH S c) (mA S 11) c) ∧ ∀ n, n < 36 → bwOk (mkH S 36) (mD S 15) (mkZr S n) (mA S 11) (35 - n)
def mzS (S : mS) : mS := mD' (mD' S 20 (mkH S 36)) 18 (mkZr S 36)
section M9
variable {l : Launch} {D : va_G} {ad : Nat → Nat} {cy : Nat → ClassId}
set_option maxRecDepth 100000 in
set_option maxHeartbeats 4000000 in
theorem m_makeZ (S : mS) (hok : mzOk S) : xMet l yX5_makeZ cX5_makeZ 6 none 2 D ad cy [.ref 0] (mW S) (fun vs aw' => vs = [] ∧ aw' = mW (mzS S)) := by
  refine xmet (Fd := xlk xfl5) (Cn := xlk xcl5) (Cl := xCt [(264, s_near)]) (by decide) xk_X5_makeZ xt_X5_makeZ ⟨_, _, rfl, rfl⟩ xpl5 (xEnt_ok (List.forall_mem_cons.mpr ⟨e_near (by omega), fun q h => by cases h⟩)) (Nat.le_of_ble_eq_true rfl) (fun WC hW => ?_)
  obtain ⟨hf, hbk⟩ := hok
  have loop2 : ∀ (n m : Nat), m + n = 36 → WC (xL_X5_makeZ.drop 64) [some (.ref 0), some (.int (nI (36 - m) + (-1))), none, none, none, none] [] (mW (mD' (mD' S 20 (mkH S 36)) 18 (mkZr S m))) := by
    intro n
    induction n with
    | zero =>
      intro m hm
      have : m = 36 := by omega
      subst this
      refine hW.1 (fun pc => Nat.beq pc 106) 300 64 _ _ _ ?_
      exact And.intro (fun h1 => And.intro rfl rfl) (fun h1 => absurd (by decide) h1)
    | succ n ih =>
      intro m hm
      have ih' := ih (m + 1) (by omega)
      obtain ⟨o0, o1, o2⟩ := hbk m (by omega)
      have e0 : nI (36 - m) + (-1) = nI (35 - m) := by rw [show 36 - m = (35 - m) + 1 by omega]; exact pk_m1 _
      have e1 : nI (36 - (m + 1)) = nI (35 - m) := by rw [show 36 - (m + 1) = 35 - m by omega]
      rw [e1] at ih'
      rw [e0]
      generalize hc : 35 - m = c at o0 o1 o2 ih' ⊢
      have hc36 : c < 36 := by omega
      generalize hR : mkZr S m = R at o1 o2 ⊢
      have ih' : WC (xL_X5_makeZ.drop 64) [some (.ref 0), some (.int (nI c + (-1))), none, none, none, none] [] (mW (mD' (mD' S 20 (mkH S 36)) 18 (vf_upd R c (bwV (mkH S 36) (mD S 15) R (mA S 11) c)))) := by
        rw [← hR]
        unfold mkZr at ih' ⊢
        have e3 : bwR (mkH S 36) (mD S 15) (mD S 18) (mA S 11) (m + 1) = vf_upd (bwR (mkH S 36) (mD S 15) (mD S 18) (mA S 11) m) (35 - m) (bwV (mkH S 36) (mD S 15) (bwR (mkH S 36) (mD S 15) (mD S 18) (mA S 11) m) (mA S 11) (35 - m)) := rfl
        rw [e3, hc] at ih'
        exact ih'
      generalize hH : mkH S 36 = Hh at o0 o1 o2 ih' ⊢
      have V3 : ∀ (x y : Int32), WC (xL_X5_makeZ.drop 131) [some (.ref 0), some (.int (nI c)), some (.double (bwV Hh (mD S 15) R (mA S 11) c)), none, some (.int x), some (.int y)] [] (mW (mD' (mD' S 20 Hh) 18 R)) := by
        intro x y
        refine hW.1 (fun pc => Nat.beq pc 106) 300 131 _ _ _ ?_
        refine ⟨c, rfl, by omega, by decide, ?_⟩
        refine hW.2 64 _ _ _ _ ?_ ?_ ih'
        · exact And.intro rfl (And.intro rfl (trivial))
        · rfl
      have V2 : WC (xL_X5_makeZ.drop 112) [some (.ref 0), some (.int (nI c)), some (.double (bw1 Hh (mD S 15) R (mA S 11) c)), none, some (.int (nearI (mA S 11) c 1)), some (.int (nearI (mA S 11) c 3))] [] (mW (mD' (mD' S 20 Hh) 18 R)) := by
        have v3 := V3 (nearI (mA S 11) c 1) (nearI (mA S 11) c 3)
        refine hW.1 (fun pc => Nat.beq pc 215) 300 112 _ _ _ ?_
        refine ⟨c, rfl, by omega, by decide, ?_⟩
        refine And.intro (fun h2 => ?_) (fun h2 => ?_)
        · have h2 : mA S 11 c = 0 := h2
          have e3 : bwV Hh (mD S 15) R (mA S 11) c = bw1 Hh (mD S 15) R (mA S 11) c := by unfold bwV; exact if_pos h2
          rw [e3] at v3
          exact v3
        have h2 : ¬ mA S 11 c = 0 := h2
        refine And.intro (fun h3 => ?_) (fun h3 => ?_)
        · have e3 : bwV Hh (mD S 15) R (mA S 11) c = bw1 Hh (mD S 15) R (mA S 11) c := by unfold bwV; rw [if_neg h2, if_pos h3]
          rw [e3] at v3
          exact v3
        · obtain ⟨q1, q2⟩ := o2 h2 h3
          obtain ⟨d, hd, ed, -⟩ := nearI_in h3
          have e3 : bwV Hh (mD S 15) R (mA S 11) c = FP.dadd (bw1 Hh (mD S 15) R (mA S 11) c) (FP.ddiv (R d) (mD S 15 c)) := by unfold bwV; rw [if_neg h2, if_neg h3, ed, nI_clamp (by omega)]
          rw [e3] at v3 q2
          rw [ed, nI_clamp (by omega)] at q1
          refine ⟨d, ed, by omega, by decide, ?_⟩
          refine ⟨c, rfl, by omega, by decide, ?_⟩
          exact And.intro q1 (And.intro q2 v3)
      have V1 : ∀ v, v = bw0 Hh (mD S 15) (mA S 11) c → WC (xL_X5_makeZ.drop 82) [some (.ref 0), some (.int (nI c)), none, none, none, none] [.double v] (mW (mD' (mD' S 20 Hh) 18 R)) := by
        intro v hv
        refine hW.1 (fun pc => Nat.beq pc 184) 300 82 _ _ _ ?_
        refine ⟨mD' (mD' S 20 Hh) 18 R, c, 1, rfl, rfl, rfl, by omega, by decide, ?_⟩
        refine ⟨mD' (mD' S 20 Hh) 18 R, c, 3, rfl, rfl, rfl, by omega, by decide, ?_⟩
        refine ⟨c, rfl, by omega, by decide, ?_⟩
        refine And.intro (fun h2 => ?_) (fun h2 => ?_)
        · have h2 : mA S 11 c = 0 := h2
          have e3 : bw1 Hh (mD S 15) R (mA S 11) c = v := by unfold bw1; rw [if_pos h2, hv]
          rw [e3] at V2
          exact V2
        have h2 : ¬ mA S 11 c = 0 := h2
        refine And.intro (fun h3 => ?_) (fun h3 => ?_)
        · have e3 : bw1 Hh (mD S 15) R (mA S 11) c = v := by unfold bw1; rw [if_neg h2, if_pos h3, hv]
          rw [e3] at V2
          exact V2
        · obtain ⟨q1, q2⟩ := o1 h2 h3
          obtain ⟨d, hd, ed, -⟩ := nearI_in h3
          have ed : nearI (mA S 11) c 1 = nI d := ed
          have e3 : bw1 Hh (mD S 15) R (mA S 11) c = FP.dadd v (FP.ddiv (R d) (mD S 15 c)) := by unfold bw1; rw [if_neg h2, if_neg h3, ed, nI_clamp (by omega), hv]
          rw [e3] at V2 q2
          rw [ed, nI_clamp (by omega)] at q1
          refine ⟨d, ed, by omega, by decide, ?_⟩
          refine ⟨c, rfl, by omega, by decide, ?_⟩
          exact And.intro q1 (And.intro q2 V2)
      refine hW.1 (fun pc => Nat.beq pc 106 || Nat.beq pc 136) 300 64 _ _ _ ?_
      refine And.intro (fun h1 => absurd h1 (nI_pos (by omega))) (fun h1 => ?_)
      refine ⟨c, rfl, by omega, by decide, ?_⟩
      refine And.intro (fun h2 => ?_) (fun h2 => ?_)
      · have h2 : mA S 11 c = 0 := h2
        exact V1 _ (by unfold bw0; rw [if_pos h2])
      · have h2 : ¬ mA S 11 c = 0 := h2
        refine ⟨c, rfl, by omega, by decide, ?_⟩
        refine ⟨c, rfl, by omega, by decide, ?_⟩
        refine And.intro (o0 h2) ?_
        exact V1 (FP.ddiv (Hh c) (mD S 15 c)) (by unfold bw0; rw [if_neg h2])
  have loop1 : ∀ (n c : Nat), c + n = 36 → WC (xL_X5_makeZ.drop 2) [some (.ref 0), some (.int (nI c)), none, none, none, none] [] (mW (mD' S 20 (mkH S c))) := by
    intro n
    induction n with
    | zero =>
      intro c hc
      have : c = 36 := by omega
      subst this
      refine hW.1 (fun pc => Nat.beq pc 2 || Nat.beq pc 106) 300 2 _ _ _ ?_
      exact And.intro (fun h1 => loop2 36 0 (by omega)) (fun h1 => absurd (Int32.le_refl _) h1)
    | succ n ih =>
      intro c hc
      have ih' := ih (c + 1) (by omega)
      have e1 : nI c + nI 1 = nI (c + 1) := nI_add c 1
      rw [← e1] at ih'
      obtain ⟨o1, o2⟩ := hf c (by omega)
      have ih' : WC (xL_X5_makeZ.drop 2) [some (.ref 0), some (.int (nI c + nI 1)), none, none, none, none] [] (mW (mD' S 20 (vf_upd (mkH S c) c (fwV (mD S 17) (mD S 15) (mkH S c) (mA S 11) c)))) := ih'
      generalize mkH S c = R at o1 o2 ih' ⊢
      have V3 : ∀ (x y : Int32), WC (xL_X5_makeZ.drop 48) [some (.ref 0), some (.int (nI c)), some (.double (fw2 (mD S 17) (mD S 15) R (mA S 11) c)), none, some (.int x), some (.int y)] [] (mW (mD' S 20 R)) := by
        intro x y
        refine hW.1 (fun pc => Nat.beq pc 2) 300 48 _ _ _ ?_
        refine ⟨c, rfl, by omega, by decide, ?_⟩
        refine And.intro (fun h2 => ?_) (fun h2 => ?_)
        · have h2 : mA S 11 c = 0 := h2
          refine ⟨c, rfl, by omega, by decide, ?_⟩
          have e3 : fwV (mD S 17) (mD S 15) R (mA S 11) c = FP.dconst0 := by unfold fwV; exact if_pos h2
          rw [e3] at ih'
          refine hW.2 2 _ _ _ _ ?_ ?_ ih'
          · exact And.intro rfl (And.intro rfl (trivial))
          · rfl
        · have h2 : ¬ mA S 11 c = 0 := h2
          refine ⟨c, rfl, by omega, by decide, ?_⟩
          have e3 : fwV (mD S 17) (mD S 15) R (mA S 11) c = fw2 (mD S 17) (mD S 15) R (mA S 11) c := by unfold fwV; exact if_neg h2
          rw [e3] at ih'
          refine hW.2 2 _ _ _ _ ?_ ?_ ih'
          · exact And.intro rfl (And.intro rfl (trivial))
          · rfl
      have V2 : WC (xL_X5_makeZ.drop 34) [some (.ref 0), some (.int (nI c)), some (.double (fw1 (mD S 17) (mD S 15) R (mA S 11) c)), none, some (.int (nearI (mA S 11) c 0)), some (.int (nearI (mA S 11) c 2))] [] (mW (mD' S 20 R)) := by
        have v3 := V3 (nearI (mA S 11) c 0) (nearI (mA S 11) c 2)
        refine hW.1 (fun pc => Nat.beq pc 77) 300 34 _ _ _ ?_
        refine And.intro (fun h3 => ?_) (fun h3 => ?_)
        · have e3 : fw2 (mD S 17) (mD S 15) R (mA S 11) c = fw1 (mD S 17) (mD S 15) R (mA S 11) c := by unfold fw2; exact if_pos h3
          rw [e3] at v3
          exact v3
        · obtain ⟨q1, q2⟩ := o2 h3
          obtain ⟨d, hd, ed, -⟩ := nearI_in h3
          have e3 : fw2 (mD S 17) (mD S 15) R (mA S 11) c = FP.dadd (fw1 (mD S 17) (mD S 15) R (mA S 11) c) (FP.ddiv (R d) (mD S 15 d)) := by unfold fw2; rw [if_neg h3, ed, nI_clamp (by omega)]
          rw [e3] at v3 q2
          rw [ed, nI_clamp (by omega)] at q1
          refine ⟨d, ed, by omega, by decide, ?_⟩
          refine ⟨d, ed, by omega, by decide, ?_⟩
          exact And.intro q1 (And.intro q2 v3)
      refine hW.1 (fun pc => Nat.beq pc 2 || Nat.beq pc 54) 300 2 _ _ _ ?_
      refine And.intro (fun h1 => absurd h1 (nI_ge (b := 36) (by omega) (by decide))) (fun h1 => ?_)
      refine ⟨c, rfl, by omega, by decide, ?_⟩
      refine ⟨mD' S 20 R, c, 0, rfl, rfl, rfl, by omega, by decide, ?_⟩
      refine ⟨mD' S 20 R, c, 2, rfl, rfl, rfl, by omega, by decide, ?_⟩
      refine And.intro (fun h3 => ?_) (fun h3 => ?_)
      · have e3 : fw1 (mD S 17) (mD S 15) R (mA S 11) c = mD S 17 c := by unfold fw1; exact if_pos h3
        rw [e3] at V2
        exact V2
      · obtain ⟨q1, q2⟩ := o1 h3
        obtain ⟨d, hd, ed, -⟩ := nearI_in h3
        have ed : nearI (mA S 11) c 0 = nI d := ed
        have e3 : fw1 (mD S 17) (mD S 15) R (mA S 11) c = FP.dadd (mD S 17 c) (FP.ddiv (R d) (mD S 15 d)) := by unfold fw1; rw [if_neg h3, ed, nI_clamp (by omega)]
        rw [e3] at V2 q2
        rw [ed, nI_clamp (by omega)] at q1
        refine ⟨d, ed, by omega, by decide, ?_⟩
        refine ⟨d, ed, by omega, by decide, ?_⟩
        exact And.intro q1 (And.intro q2 V2)
  exact hW.1 (fun pc => Nat.beq pc 2) 300 0 _ _ _ (loop1 36 0 (by omega))
def s_makeZ (st : List Value) (aw : xA) (k : List Value → xA → Prop) : Prop := match st with
  | .ref 0 :: st => match xsm st with
    | true => ∃ S : mS, aw = mW S ∧ mzOk S ∧ k st (mW (mzS S))
    | false => False
  | _ => False
theorem e_makeZ {d : Nat} (hd : 3 ≤ d) : xEnt l d D ad cy RX5 284 s_makeZ := xEnt_V (y' := yX5_makeZ) (cc' := cX5_makeZ) (n' := 6) (ret' := none) (d' := 2) (j := 142) 0 (by decide +kernel) (by decide +kernel) (by omega) (fun st aw k h => by
  match st, h with
  | .ref 0 :: st, h =>
    cases hs : xsm st with
    | false => simp only [s_makeZ, hs] at h
    | true =>
      simp only [s_makeZ, hs] at h
      obtain ⟨S, rfl, hok, h2⟩ := h
      exact ⟨[], st, _, 0, 5, _, rfl, rfl, hs, rfl, ⟨_, rfl, rfl⟩, m_makeZ S hok, fun vs aw' h9 => by obtain ⟨rfl, rfl⟩ := h9; exact h2⟩)
end M9
