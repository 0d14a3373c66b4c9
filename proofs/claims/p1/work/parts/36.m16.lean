/-! the reference: move -/
def mv2 (A : Nat → UInt64) (t : UInt64) (x y : UInt32) (u : Bool) (z : UInt32) : UInt64 := FP.dadd (FP.f2d z) (FP.dmul (FP.dmul 4602678819172646912 t) (smF A u (FP.f2d x) (FP.f2d y)))
def mv2O (A : Nat → UInt64) (t : UInt64) (x y : UInt32) (u : Bool) (z : UInt32) : Prop := vf_n64 (FP.f2d x) ∧ vf_n64 (FP.f2d y) ∧ vf_n64 (FP.dmul 4602678819172646912 t) ∧ smOk A u (FP.f2d x) (FP.f2d y) ∧ vf_n64 (FP.dmul (FP.dmul 4602678819172646912 t) (smF A u (FP.f2d x) (FP.f2d y))) ∧ vf_n64 (mv2 A t x y u z)
def mv3 (A : Nat → UInt64) (t : UInt64) (z : UInt32) (u : Bool) (p q : UInt64) : UInt32 := FP.d2f (FP.dadd (FP.f2d z) (FP.dmul t (smF A u p q)))
def mv3O (A : Nat → UInt64) (t : UInt64) (z : UInt32) (u : Bool) (p q : UInt64) : Prop := vf_n64 (FP.f2d z) ∧ smOk A u p q ∧ vf_n64 (FP.dmul t (smF A u p q)) ∧ vf_n64 (FP.dadd (FP.f2d z) (FP.dmul t (smF A u p q))) ∧ vf_n32 (mv3 A t z u p q)
/-- moved, the edges not yet looked at -/
def mvA (A : Nat → UInt64) (N : Nat → UInt32) (t : UInt64) (x y : UInt32) (k : Nat) : Nat → UInt32 := vf_upd (vf_upd N (4 * k) (mv3 A t x true (mv2 A t x y true x) (mv2 A t x y false y))) (4 * k + 1) (mv3 A t y false (mv2 A t x y true x) (mv2 A t x y false y))
def mvE (N : Nat → UInt32) (k : Nat) : Nat → UInt32 := edS (edS N (4 * k) (4 * k + 2)) (4 * k + 1) (4 * k + 3)
def mvS (N : Nat → UInt32) (sol : Nat → Int32) (x y : UInt32) (k : Nat) : Nat → UInt32 := if sol (cellI (N (4 * k)) (N (4 * k + 1))).toNatClampNeg = 0 then N else vf_upd (vf_upd (vf_upd (vf_upd N (4 * k) x) (4 * k + 1) y) (4 * k + 2) FP.fconst0) (4 * k + 3) FP.fconst0
def mvF (A : Nat → UInt64) (N : Nat → UInt32) (sol : Nat → Int32) (t : UInt64) (x y : UInt32) (k : Nat) : Nat → UInt32 := mvS (mvE (mvA A N t x y k) k) sol x y k
def mvOk (A : Nat → UInt64) (N : Nat → UInt32) (t : UInt64) (x y : UInt32) (k : Nat) : Prop := mv2O A t x y true x ∧ mv2O A t x y false y ∧ mv3O A t x true (mv2 A t x y true x) (mv2 A t x y false y) ∧ mv3O A t y false (mv2 A t x y true x) (mv2 A t x y false y) ∧ edOk (mvA A N t x y k) (4 * k) (4 * k + 2) ∧ edOk (edS (mvA A N t x y k) (4 * k) (4 * k + 2)) (4 * k + 1) (4 * k + 3)
theorem cell_in {x y : UInt32} (hx : offB x 1031798784 1086193664 = false) (hy : offB y 1031798784 1086193664 = false) : ∃ c, c < 36 ∧ cellI x y = nI c := by
  obtain ⟨i, hi, ei⟩ := place_cell hx
  obtain ⟨j, hj, ej⟩ := place_cell hy
  exact ⟨6 * j + i, by omega, by unfold cellI; rw [ei, ej, pk_mul, nI_add]⟩
section M16
variable {l : Launch} {D : va_G} {ad : Nat → Nat} {cy : Nat → ClassId}
set_option maxRecDepth 100000 in
set_option maxHeartbeats 4000000 in
theorem mv_a (S Q : mS) (WC : xC → xO → List Value → xA → Prop) (hW : xSys xL_X5_move (xlk xfl5) (xlk xcl5) (xCt [(316, s_sample), (332, s_edge), (187, s_cellOf)]) (xRt (none) (fun vs aw' => vs = [] ∧ aw' = mW Q)) WC) (k : Nat) (hk : k < 24) (t : UInt64) (x y : UInt32) (hx : x = mF S 3 (4 * k)) (hy : y = mF S 3 (4 * k + 1)) (next : WC (xL_X5_move.drop 16) [some (.ref 0), some (.int (nI k)), some (.double t), none, some (.float x), some (.float y), none, none, none, none] [] (mW S)) : WC (xL_X5_move.drop 0) [some (.ref 0), some (.int (nI k)), some (.double t), none, none, none, none, none, none, none] [] (mW S) := by
  subst hx hy
  refine hW.1 (fun pc => Nat.beq pc 22) 200 0 _ _ _ ?_
  refine ⟨4 * k, by rw [pk_mul], by omega, by decide, ?_⟩
  refine ⟨4 * k + 1, by rw [pk_mul, nI_add], by omega, by decide, ?_⟩
  exact next
set_option maxRecDepth 100000 in
set_option maxHeartbeats 4000000 in
theorem mv_b (S Q : mS) (WC : xC → xO → List Value → xA → Prop) (hW : xSys xL_X5_move (xlk xfl5) (xlk xcl5) (xCt [(316, s_sample), (332, s_edge), (187, s_cellOf)]) (xRt (none) (fun vs aw' => vs = [] ∧ aw' = mW Q)) WC) (k : Nat) (t : UInt64) (x y : UInt32) (p : UInt64) (hp : p = mv2 (mD S 13) t x y true x) (ok : mv2O (mD S 13) t x y true x) (next : WC (xL_X5_move.drop 32) [some (.ref 0), some (.int (nI k)), some (.double t), none, some (.float x), some (.float y), some (.double p), none, none, none] [] (mW S)) : WC (xL_X5_move.drop 16) [some (.ref 0), some (.int (nI k)), some (.double t), none, some (.float x), some (.float y), none, none, none, none] [] (mW S) := by
  subst hp
  obtain ⟨v1, v2, v3, v4, v5, v6⟩ := ok
  refine hW.1 (fun pc => Nat.beq pc 46) 200 16 _ _ _ ?_
  refine And.intro v1 (And.intro v3 (And.intro v1 (And.intro v2 ?_)))
  refine ⟨S, false, true, rfl, rfl, rfl, v4, ?_⟩
  exact And.intro v5 (And.intro v6 next)
set_option maxRecDepth 100000 in
set_option maxHeartbeats 4000000 in
theorem mv_c (S Q : mS) (WC : xC → xO → List Value → xA → Prop) (hW : xSys xL_X5_move (xlk xfl5) (xlk xcl5) (xCt [(316, s_sample), (332, s_edge), (187, s_cellOf)]) (xRt (none) (fun vs aw' => vs = [] ∧ aw' = mW Q)) WC) (k : Nat) (t : UInt64) (x y : UInt32) (p q : UInt64) (hp : q = mv2 (mD S 13) t x y false y) (ok : mv2O (mD S 13) t x y false y) (next : WC (xL_X5_move.drop 48) [some (.ref 0), some (.int (nI k)), some (.double t), none, some (.float x), some (.float y), some (.double p), none, some (.double q), none] [] (mW S)) : WC (xL_X5_move.drop 32) [some (.ref 0), some (.int (nI k)), some (.double t), none, some (.float x), some (.float y), some (.double p), none, none, none] [] (mW S) := by
  subst hp
  obtain ⟨v1, v2, v3, v4, v5, v6⟩ := ok
  refine hW.1 (fun pc => Nat.beq pc 70) 200 32 _ _ _ ?_
  refine And.intro v2 (And.intro v3 (And.intro v1 (And.intro v2 ?_)))
  refine ⟨S, false, false, rfl, rfl, rfl, v4, ?_⟩
  exact And.intro v5 (And.intro v6 next)
set_option maxRecDepth 100000 in
set_option maxHeartbeats 4000000 in
theorem mv_d (S Q : mS) (WC : xC → xO → List Value → xA → Prop) (hW : xSys xL_X5_move (xlk xfl5) (xlk xcl5) (xCt [(316, s_sample), (332, s_edge), (187, s_cellOf)]) (xRt (none) (fun vs aw' => vs = [] ∧ aw' = mW Q)) WC) (k : Nat) (hk : k < 24) (t : UInt64) (x y : UInt32) (p q : UInt64) (r : UInt32) (hr : r = mv3 (mD S 13) t x true p q) (ok : mv3O (mD S 13) t x true p q) (next : WC (xL_X5_move.drop 66) [some (.ref 0), some (.int (nI k)), some (.double t), none, some (.float x), some (.float y), some (.double p), none, some (.double q), none] [] (mW (mF' S 21 (vf_upd (mF S 21) (4 * k) r)))) : WC (xL_X5_move.drop 48) [some (.ref 0), some (.int (nI k)), some (.double t), none, some (.float x), some (.float y), some (.double p), none, some (.double q), none] [] (mW S) := by
  subst hr
  obtain ⟨v1, v2, v3, v4, v5⟩ := ok
  refine hW.1 (fun pc => Nat.beq pc 95) 200 48 _ _ _ ?_
  refine And.intro v1 ?_
  refine ⟨S, false, true, rfl, rfl, rfl, v2, ?_⟩
  refine And.intro v3 (And.intro v4 (And.intro v5 ?_))
  refine ⟨4 * k, by rw [pk_mul], by omega, by decide, ?_⟩
  exact next
set_option maxRecDepth 100000 in
set_option maxHeartbeats 4000000 in
theorem mv_e (S Q : mS) (WC : xC → xO → List Value → xA → Prop) (hW : xSys xL_X5_move (xlk xfl5) (xlk xcl5) (xCt [(316, s_sample), (332, s_edge), (187, s_cellOf)]) (xRt (none) (fun vs aw' => vs = [] ∧ aw' = mW Q)) WC) (k : Nat) (hk : k < 24) (t : UInt64) (x y : UInt32) (p q : UInt64) (r : UInt32) (hr : r = mv3 (mD S 13) t y false p q) (ok : mv3O (mD S 13) t y false p q) (next : WC (xL_X5_move.drop 86) [some (.ref 0), some (.int (nI k)), some (.double t), none, some (.float x), some (.float y), some (.double p), none, some (.double q), none] [] (mW (mF' S 21 (vf_upd (mF S 21) (4 * k + 1) r)))) : WC (xL_X5_move.drop 66) [some (.ref 0), some (.int (nI k)), some (.double t), none, some (.float x), some (.float y), some (.double p), none, some (.double q), none] [] (mW S) := by
  subst hr
  obtain ⟨v1, v2, v3, v4, v5⟩ := ok
  refine hW.1 (fun pc => Nat.beq pc 122) 200 66 _ _ _ ?_
  refine And.intro v1 ?_
  refine ⟨S, false, false, rfl, rfl, rfl, v2, ?_⟩
  refine And.intro v3 (And.intro v4 (And.intro v5 ?_))
  refine ⟨4 * k + 1, by rw [pk_mul, nI_add], by omega, by decide, ?_⟩
  exact next
set_option maxRecDepth 100000 in
set_option maxHeartbeats 4000000 in
theorem mv_f (S Q : mS) (WC : xC → xO → List Value → xA → Prop) (hW : xSys xL_X5_move (xlk xfl5) (xlk xcl5) (xCt [(316, s_sample), (332, s_edge), (187, s_cellOf)]) (xRt (none) (fun vs aw' => vs = [] ∧ aw' = mW Q)) WC) (k : Nat) (hk : k < 24) (t : UInt64) (x y : UInt32) (p q : UInt64) (o1 : edOk (mF S 21) (4 * k) (4 * k + 2)) (o2 : edOk (edS (mF S 21) (4 * k) (4 * k + 2)) (4 * k + 1) (4 * k + 3)) (next : WC (xL_X5_move.drop 108) [some (.ref 0), some (.int (nI k)), some (.double t), none, some (.float x), some (.float y), some (.double p), none, some (.double q), none] [] (mW (mF' S 21 (mvE (mF S 21) k)))) : WC (xL_X5_move.drop 86) [some (.ref 0), some (.int (nI k)), some (.double t), none, some (.float x), some (.float y), some (.double p), none, some (.double q), none] [] (mW S) := by
  refine hW.1 (fun pc => Nat.beq pc 148) 200 86 _ _ _ ?_
  refine ⟨S, 4 * k, 4 * k + 2, rfl, by rw [pk_mul], by rw [pk_mul, nI_add], by omega, by omega, by omega, o1, ?_⟩
  refine ⟨mF' S 21 (edS (mF S 21) (4 * k) (4 * k + 2)), 4 * k + 1, 4 * k + 3, rfl, by rw [pk_mul, nI_add], by rw [pk_mul, nI_add], by omega, by omega, by omega, o2, ?_⟩
  exact next
set_option maxRecDepth 100000 in
set_option maxHeartbeats 4000000 in
theorem mv_g (Z Q : mS) (WC : xC → xO → List Value → xA → Prop) (hW : xSys xL_X5_move (xlk xfl5) (xlk xcl5) (xCt [(316, s_sample), (332, s_edge), (187, s_cellOf)]) (xRt (none) (fun vs aw' => vs = [] ∧ aw' = mW Q)) WC) (k : Nat) (hk : k < 24) (t : UInt64) (x y : UInt32) (p q : UInt64) (hc : ∃ c, c < 36 ∧ (cellI (mF Z 21 (4 * k)) (mF Z 21 (4 * k + 1))) = nI c) (hQ : mW Q = mW (mF' Z 21 (mvS (mF Z 21) (mA Z 1) x y k))) : WC (xL_X5_move.drop 108) [some (.ref 0), some (.int (nI k)), some (.double t), none, some (.float x), some (.float y), some (.double p), none, some (.double q), none] [] (mW Z) := by
  obtain ⟨c, hc, ec⟩ := hc
  have e4 : nI 4 * nI k = nI (4 * k) := by rw [pk_mul]
  refine hW.1 (fun _ => false) 200 108 _ _ _ ?_
  refine ⟨4 * k, e4, by omega, by decide, ?_⟩
  refine ⟨4 * k + 1, by rw [pk_mul, nI_add], by omega, by decide, ?_⟩
  refine ⟨c, ec, by omega, by decide, ?_⟩
  refine And.intro (fun h1 => ?_) (fun h1 => ?_)
  · refine And.intro rfl ?_
    rw [hQ]
    unfold mvS
    rw [ec, nI_clamp (by omega), if_pos h1]
    rfl
  · refine ⟨4 * k, e4, by omega, by decide, ?_⟩
    refine ⟨4 * k + 1, by rw [pk_mul, nI_add], by omega, by decide, ?_⟩
    refine ⟨4 * k + 2, by rw [pk_mul, nI_add], by omega, by decide, ?_⟩
    refine ⟨4 * k + 3, by rw [pk_mul, nI_add], by omega, by decide, ?_⟩
    refine And.intro rfl ?_
    rw [hQ]
    unfold mvS
    rw [ec, nI_clamp (by omega), if_neg h1]
    rfl
theorem mF_2 (S : mS) (i : Nat) (a b : Nat → UInt32) : mW (mF' (mF' S 21 a) 21 b) = mW (mF' S 21 b) := rfl
theorem m_move (S : mS) (k : Nat) (hk : k < 24) (t : UInt64) (x y : UInt32) (hx : mF S 3 (4 * k) = x) (hy : mF S 3 (4 * k + 1) = y) (hok : mvOk (mD S 13) (mF S 21) t x y k) : xMet l yX5_move cX5_move 10 none 3 D ad cy [.ref 0, .int (nI k), .double t] (mW S) (fun vs aw' => vs = [] ∧ aw' = mW (mF' S 21 (mvF (mD S 13) (mF S 21) (mA S 1) t x y k))) := by
  refine xmet (Fd := xlk xfl5) (Cn := xlk xcl5) (Cl := xCt [(316, s_sample), (332, s_edge), (187, s_cellOf)]) (by decide) xk_X5_move xt_X5_move ⟨_, _, rfl, rfl⟩ xpl5 (xEnt_ok (List.forall_mem_cons.mpr ⟨e_sample (by omega), List.forall_mem_cons.mpr ⟨e_edge (by omega), List.forall_mem_cons.mpr ⟨e_cellOf (by omega), fun q h => by cases h⟩⟩⟩)) (Nat.le_of_ble_eq_true rfl) (fun WC hW => ?_)
  obtain ⟨o1, o2, o3, o4, o5, o6⟩ := hok
  refine mv_a S _ WC hW k hk t x y hx.symm hy.symm ?_
  refine mv_b S _ WC hW k t x y _ rfl o1 ?_
  refine mv_c S _ WC hW k t x y _ _ rfl o2 ?_
  refine mv_d S _ WC hW k hk t x y _ _ _ rfl o3 ?_
  refine mv_e (mF' S 21 (vf_upd (mF S 21) (4 * k) (mv3 (mD S 13) t x true (mv2 (mD S 13) t x y true x) (mv2 (mD S 13) t x y false y)))) _ WC hW k hk t x y _ _ _ rfl o4 ?_
  have E : mW (mF' (mF' S 21 (vf_upd (mF S 21) (4 * k) (mv3 (mD S 13) t x true (mv2 (mD S 13) t x y true x) (mv2 (mD S 13) t x y false y)))) 21 (vf_upd (mF (mF' S 21 (vf_upd (mF S 21) (4 * k) (mv3 (mD S 13) t x true (mv2 (mD S 13) t x y true x) (mv2 (mD S 13) t x y false y)))) 21) (4 * k + 1) (mv3 (mD S 13) t y false (mv2 (mD S 13) t x y true x) (mv2 (mD S 13) t x y false y)))) = mW (mF' S 21 (mvA (mD S 13) (mF S 21) t x y k)) := rfl
  have G : WC (xL_X5_move.drop 86) [some (.ref 0), some (.int (nI k)), some (.double t), none, some (.float x), some (.float y), some (.double (mv2 (mD S 13) t x y true x)), none, some (.double (mv2 (mD S 13) t x y false y)), none] [] (mW (mF' S 21 (mvA (mD S 13) (mF S 21) t x y k))) := by
    have f1 : vf_n32 (mvA (mD S 13) (mF S 21) t x y k (4 * k)) := by unfold mvA; rw [upd_ne _ _ (by omega), upd_at]; exact o3.2.2.2.2
    have f2 : vf_n32 (mvA (mD S 13) (mF S 21) t x y k (4 * k + 1)) := by unfold mvA; rw [upd_at]; exact o4.2.2.2.2
    unfold mvF at hW
    generalize mvA (mD S 13) (mF S 21) t x y k = N at o5 o6 f1 f2 hW ⊢
    have h1 : mvE N k (4 * k) = edV (N (4 * k)) := by unfold mvE edS; rw [upd_ne _ _ (by omega), upd_ne _ _ (by omega), upd_ne _ _ (by omega), upd_at]
    have h2 : mvE N k (4 * k + 1) = edV (N (4 * k + 1)) := by
      have h3 : edS N (4 * k) (4 * k + 2) (4 * k + 1) = N (4 * k + 1) := by unfold edS; rw [upd_ne _ _ (by omega), upd_ne _ _ (by omega)]
      show vf_upd (vf_upd (edS N (4 * k) (4 * k + 2)) (4 * k + 1) (edV (edS N (4 * k) (4 * k + 2) (4 * k + 1)))) (4 * k + 3) _ (4 * k + 1) = _
      rw [upd_ne _ _ (by omega), upd_at, h3]
    refine mv_f (mF' S 21 N) _ WC hW k hk t x y _ _ o5 o6 ?_
    refine mv_g (mF' S 21 (mvE N k)) _ WC hW k hk t x y _ _ ?_ rfl
    show ∃ c, c < 36 ∧ cellI (mvE N k (4 * k)) (mvE N k (4 * k + 1)) = nI c
    rw [h1, h2]
    exact cell_in (edV_off f1) (edV_off f2)
  exact G
def s_move (st : List Value) (aw : xA) (k : List Value → xA → Prop) : Prop := match st with
  | .double t :: .int c :: .ref 0 :: st => match xsm st with
    | true => ∃ (S : mS) (k9 : Nat), aw = mW S ∧ c = nI k9 ∧ k9 < 24 ∧ mvOk (mD S 13) (mF S 21) t (mF S 3 (4 * k9)) (mF S 3 (4 * k9 + 1)) k9 ∧ k st (mW (mF' S 21 (mvF (mD S 13) (mF S 21) (mA S 1) t (mF S 3 (4 * k9)) (mF S 3 (4 * k9 + 1)) k9)))
    | false => False
  | _ => False
theorem e_move {d : Nat} (hd : 4 ≤ d) : xEnt l d D ad cy RX5 392 s_move := xEnt_V (y' := yX5_move) (cc' := cX5_move) (n' := 10) (ret' := none) (d' := 3) (j := 196) 2 (by decide +kernel) (by decide +kernel) (by omega) (fun st aw k h => by
  match st, h with
  | .double t :: .int c :: .ref 0 :: st, h =>
    cases hs : xsm st with
    | false => simp only [s_move, hs] at h
    | true =>
      simp only [s_move, hs] at h
      obtain ⟨S, k9, rfl, rfl, hk, hok, h2⟩ := h
      exact ⟨[.int (nI k9), .double t], st, _, 0, 5, _, rfl, rfl, hs, rfl, ⟨_, rfl, rfl⟩, m_move S k9 hk t _ _ rfl rfl hok, fun vs aw' h9 => by obtain ⟨rfl, rfl⟩ := h9; exact h2⟩)
end M16
