/-! the class: moveParticle -/
def cp2 (A : Nat → UInt64) (t : UInt64) (x y : UInt32) (u : Bool) (z : UInt32) : UInt64 := FP.dadd (FP.f2d z) (FP.dmul (FP.dmul 4602678819172646912 t) (cmF A u (FP.f2d x) (FP.f2d y)))
def cp2O (A : Nat → UInt64) (t : UInt64) (x y : UInt32) (u : Bool) (z : UInt32) : Prop := vf_n64 (FP.f2d x) ∧ vf_n64 (FP.f2d y) ∧ vf_n64 (FP.dmul 4602678819172646912 t) ∧ cmOk A u (FP.f2d x) (FP.f2d y) ∧ vf_n64 (FP.dmul (FP.dmul 4602678819172646912 t) (cmF A u (FP.f2d x) (FP.f2d y))) ∧ vf_n64 (cp2 A t x y u z)
def cp3 (A : Nat → UInt64) (t : UInt64) (z : UInt32) (u : Bool) (p q : UInt64) : UInt32 := FP.d2f (FP.dadd (FP.f2d z) (FP.dmul t (cmF A u p q)))
def cp3O (A : Nat → UInt64) (t : UInt64) (z : UInt32) (u : Bool) (p q : UInt64) : Prop := vf_n64 (FP.f2d z) ∧ cmOk A u p q ∧ vf_n64 (FP.dmul t (cmF A u p q)) ∧ vf_n64 (FP.dadd (FP.f2d z) (FP.dmul t (cmF A u p q))) ∧ vf_n32 (cp3 A t z u p q)
/-- where particle k wants to go -/
def mpX (S : cS) (t : UInt64) (x y : UInt32) : UInt32 := cp3 (cD S 23) t x true (cp2 (cD S 23) t x y true x) (cp2 (cD S 24) t x y false y)
def mpY (S : cS) (t : UInt64) (x y : UInt32) : UInt32 := cp3 (cD S 24) t y false (cp2 (cD S 23) t x y true x) (cp2 (cD S 24) t x y false y)
def mpZ (S : cS) (k : Nat) : cS := cF' (cF' S 14 (vf_upd (cF S 14) k FP.fconst0)) 15 (vf_upd (cF S 15) k FP.fconst0)
def mpA (S : cS) (k : Nat) (h w : UInt32) : cS := if cvf h w .l = 0 then S else cF' S 14 (vf_upd (cF S 14) k (FP.fmul (FP.fneg (cF S 14 k)) 1056964608))
def mpB (S : cS) (k : Nat) (h w : UInt32) : cS := if cvf h w .l = 0 then S else cF' S 15 (vf_upd (cF S 15) k (FP.fmul (FP.fneg (cF S 15 k)) 1056964608))
def mpP (S : cS) (k : Nat) (x y : UInt32) : cS := cF' (cF' S 12 (vf_upd (cF S 12) k x)) 13 (vf_upd (cF S 13) k y)
def mpE (S : cS) (k : Nat) (x y : UInt32) : cS := if isSolB (cA S 11) (FP.f2i (hoF x)) (FP.f2i (hoF y)) then mpZ S k else mpP (mpB (mpA S k (hoF x) x) k (hoF y) y) k (hoF x) (hoF y)
def mpS (S : cS) (k : Nat) (t : UInt64) : cS := mpE S k (mpX S t (cF S 12 k) (cF S 13 k)) (mpY S t (cF S 12 k) (cF S 13 k))
def mpEO (S : cS) (k : Nat) (x y : UInt32) : Prop := isSolB (cA S 11) (FP.f2i (hoF x)) (FP.f2i (hoF y)) = false → (cvf (hoF x) x .l ≠ 0 → vf_n32 (FP.fmul (FP.fneg (cF S 14 k)) 1056964608)) ∧ (cvf (hoF y) y .l ≠ 0 → vf_n32 (FP.fmul (FP.fneg (cF S 15 k)) 1056964608))
def mpOk (S : cS) (k : Nat) (t : UInt64) : Prop := cp2O (cD S 23) t (cF S 12 k) (cF S 13 k) true (cF S 12 k) ∧ cp2O (cD S 24) t (cF S 12 k) (cF S 13 k) false (cF S 13 k) ∧ cp3O (cD S 23) t (cF S 12 k) true (cp2 (cD S 23) t (cF S 12 k) (cF S 13 k) true (cF S 12 k)) (cp2 (cD S 24) t (cF S 12 k) (cF S 13 k) false (cF S 13 k)) ∧ cp3O (cD S 24) t (cF S 13 k) false (cp2 (cD S 23) t (cF S 12 k) (cF S 13 k) true (cF S 12 k)) (cp2 (cD S 24) t (cF S 12 k) (cF S 13 k) false (cF S 13 k)) ∧ mpEO S k (mpX S t (cF S 12 k) (cF S 13 k)) (mpY S t (cF S 12 k) (cF S 13 k))
theorem mpA_15 (S : cS) (k : Nat) (h w : UInt32) : cF (mpA S k h w) 15 = cF S 15 := by
  unfold mpA; split <;> rfl
section C17
variable {l : Launch} {D : va_G} {ad : Nat → Nat} {cy : Nat → ClassId}
set_option maxRecDepth 100000 in
set_option maxHeartbeats 4000000 in
theorem mp_a (S : cS) (Q : cS) (WC : xC → xO → List Value → xA → Prop) (hW : xSys xL_X4_moveParticle (xlk xfl4) (xlk xcl4) (xCt [(460, t_sample), (481, t_holdInBox), (154, t_isSolid)]) (xRt none (fun vs aw' => vs = [] ∧ aw' = cW Q)) WC) (k : Nat) (hk : k < 24) (t : UInt64) (x y : UInt32) (hx : x = cF S 12 k) (hy : y = cF S 13 k) (next : WC (xL_X4_moveParticle.drop 12) [some (.ref 0), some (.int (nI k)), some (.double t), none, some (.float x), some (.float y), none, none, none, none, none, none, none, none] [] (cW S)) : WC (xL_X4_moveParticle.drop 0) [some (.ref 0), some (.int (nI k)), some (.double t), none, none, none, none, none, none, none, none, none, none, none] [] (cW S) := by
  subst hx hy
  refine hW.1 (fun pc => Nat.beq pc 22) 200 0 _ _ _ ?_
  refine ⟨k, rfl, by omega, by decide, ?_⟩
  refine ⟨k, rfl, by omega, by decide, ?_⟩
  exact next
set_option maxRecDepth 100000 in
set_option maxHeartbeats 4000000 in
theorem mp_b (S : cS) (Q : cS) (WC : xC → xO → List Value → xA → Prop) (hW : xSys xL_X4_moveParticle (xlk xfl4) (xlk xcl4) (xCt [(460, t_sample), (481, t_holdInBox), (154, t_isSolid)]) (xRt none (fun vs aw' => vs = [] ∧ aw' = cW Q)) WC) (k : Nat) (hk : k < 24) (t : UInt64) (x y : UInt32) (p : UInt64) (hp : p = cp2 (cD S 23) t x y true x) (ok : cp2O (cD S 23) t x y true x) (next : WC (xL_X4_moveParticle.drop 27) [some (.ref 0), some (.int (nI k)), some (.double t), none, some (.float x), some (.float y), some (.double p), none, none, none, none, none, none, none] [] (cW S)) : WC (xL_X4_moveParticle.drop 12) [some (.ref 0), some (.int (nI k)), some (.double t), none, some (.float x), some (.float y), none, none, none, none, none, none, none, none] [] (cW S) := by
  subst hp
  obtain ⟨v1, v2, v3, v4, v5, v6⟩ := ok
  refine hW.1 (fun pc => Nat.beq pc 47) 200 12 _ _ _ ?_
  refine And.intro v1 (And.intro v3 (And.intro v1 (And.intro v2 ?_)))
  refine ⟨S, false, true, rfl, rfl, v4, ?_⟩
  exact And.intro v5 (And.intro v6 next)
set_option maxRecDepth 100000 in
set_option maxHeartbeats 4000000 in
theorem mp_c (S : cS) (Q : cS) (WC : xC → xO → List Value → xA → Prop) (hW : xSys xL_X4_moveParticle (xlk xfl4) (xlk xcl4) (xCt [(460, t_sample), (481, t_holdInBox), (154, t_isSolid)]) (xRt none (fun vs aw' => vs = [] ∧ aw' = cW Q)) WC) (k : Nat) (hk : k < 24) (t : UInt64) (x y : UInt32) (p q : UInt64) (hq : q = cp2 (cD S 24) t x y false y) (ok : cp2O (cD S 24) t x y false y) (next : WC (xL_X4_moveParticle.drop 42) [some (.ref 0), some (.int (nI k)), some (.double t), none, some (.float x), some (.float y), some (.double p), none, some (.double q), none, none, none, none, none] [] (cW S)) : WC (xL_X4_moveParticle.drop 27) [some (.ref 0), some (.int (nI k)), some (.double t), none, some (.float x), some (.float y), some (.double p), none, none, none, none, none, none, none] [] (cW S) := by
  subst hq
  obtain ⟨v1, v2, v3, v4, v5, v6⟩ := ok
  refine hW.1 (fun pc => Nat.beq pc 72) 200 27 _ _ _ ?_
  refine And.intro v2 (And.intro v3 (And.intro v1 (And.intro v2 ?_)))
  refine ⟨S, false, false, rfl, rfl, v4, ?_⟩
  exact And.intro v5 (And.intro v6 next)
set_option maxRecDepth 100000 in
set_option maxHeartbeats 4000000 in
theorem mp_d (S : cS) (Q : cS) (WC : xC → xO → List Value → xA → Prop) (hW : xSys xL_X4_moveParticle (xlk xfl4) (xlk xcl4) (xCt [(460, t_sample), (481, t_holdInBox), (154, t_isSolid)]) (xRt none (fun vs aw' => vs = [] ∧ aw' = cW Q)) WC) (k : Nat) (hk : k < 24) (t : UInt64) (x y : UInt32) (p q : UInt64) (X : UInt32) (hX : X = cp3 (cD S 23) t x true p q) (ok : cp3O (cD S 23) t x true p q) (next : WC (xL_X4_moveParticle.drop 54) [some (.ref 0), some (.int (nI k)), some (.double t), none, some (.float x), some (.float y), some (.double p), none, some (.double q), none, some (.float X), none, none, none] [] (cW S)) : WC (xL_X4_moveParticle.drop 42) [some (.ref 0), some (.int (nI k)), some (.double t), none, some (.float x), some (.float y), some (.double p), none, some (.double q), none, none, none, none, none] [] (cW S) := by
  subst hX
  obtain ⟨v1, v2, v3, v4, v5⟩ := ok
  refine hW.1 (fun pc => Nat.beq pc 92) 200 42 _ _ _ ?_
  refine And.intro v1 ?_
  refine ⟨S, false, true, rfl, rfl, v2, ?_⟩
  exact And.intro v3 (And.intro v4 (And.intro v5 next))
set_option maxRecDepth 100000 in
set_option maxHeartbeats 4000000 in
theorem mp_e (S : cS) (Q : cS) (WC : xC → xO → List Value → xA → Prop) (hW : xSys xL_X4_moveParticle (xlk xfl4) (xlk xcl4) (xCt [(460, t_sample), (481, t_holdInBox), (154, t_isSolid)]) (xRt none (fun vs aw' => vs = [] ∧ aw' = cW Q)) WC) (k : Nat) (hk : k < 24) (t : UInt64) (x y : UInt32) (p q : UInt64) (X Y : UInt32) (hY : Y = cp3 (cD S 24) t y false p q) (ok : cp3O (cD S 24) t y false p q) (next : WC (xL_X4_moveParticle.drop 66) [some (.ref 0), some (.int (nI k)), some (.double t), none, some (.float x), some (.float y), some (.double p), none, some (.double q), none, some (.float X), some (.float Y), none, none] [] (cW S)) : WC (xL_X4_moveParticle.drop 54) [some (.ref 0), some (.int (nI k)), some (.double t), none, some (.float x), some (.float y), some (.double p), none, some (.double q), none, some (.float X), none, none, none] [] (cW S) := by
  subst hY
  obtain ⟨v1, v2, v3, v4, v5⟩ := ok
  refine hW.1 (fun pc => Nat.beq pc 112) 200 54 _ _ _ ?_
  refine And.intro v1 ?_
  refine ⟨S, false, false, rfl, rfl, v2, ?_⟩
  exact And.intro v3 (And.intro v4 (And.intro v5 next))
set_option maxRecDepth 100000 in
set_option maxHeartbeats 4000000 in
theorem mp_f (S : cS) (Q : cS) (WC : xC → xO → List Value → xA → Prop) (hW : xSys xL_X4_moveParticle (xlk xfl4) (xlk xcl4) (xCt [(460, t_sample), (481, t_holdInBox), (154, t_isSolid)]) (xRt none (fun vs aw' => vs = [] ∧ aw' = cW Q)) WC) (k : Nat) (hk : k < 24) (t : UInt64) (x y : UInt32) (p q : UInt64) (X Y hX hY : UInt32) (eX : hX = hoF X) (eY : hY = hoF Y) (bad : isSolB (cA S 11) (FP.f2i hX) (FP.f2i hY) = true → mpZ S k = Q) (next : isSolB (cA S 11) (FP.f2i hX) (FP.f2i hY) = false → WC (xL_X4_moveParticle.drop 93) [some (.ref 0), some (.int (nI k)), some (.double t), none, some (.float x), some (.float y), some (.double p), none, some (.double q), none, some (.float X), some (.float Y), some (.float hX), some (.float hY)] [] (cW S)) : WC (xL_X4_moveParticle.drop 66) [some (.ref 0), some (.int (nI k)), some (.double t), none, some (.float x), some (.float y), some (.double p), none, some (.double q), none, some (.float X), some (.float Y), none, none] [] (cW S) := by
  subst eX eY
  unfold mpZ at bad
  refine hW.1 (fun pc => Nat.beq pc 163) 200 66 _ _ _ ?_
  refine ⟨S, rfl, ?_⟩
  refine And.intro (fun h1 => next (xb_eq h1)) (fun h1 => ?_)
  refine ⟨k, rfl, by omega, by decide, ?_⟩
  refine ⟨k, rfl, by omega, by decide, ?_⟩
  rw [← bad (xb_ne h1)]
  exact And.intro rfl rfl
set_option maxRecDepth 100000 in
set_option maxHeartbeats 4000000 in
theorem mp_g (S : cS) (Q : cS) (WC : xC → xO → List Value → xA → Prop) (hW : xSys xL_X4_moveParticle (xlk xfl4) (xlk xcl4) (xCt [(460, t_sample), (481, t_holdInBox), (154, t_isSolid)]) (xRt none (fun vs aw' => vs = [] ∧ aw' = cW Q)) WC) (k : Nat) (hk : k < 24) (t : UInt64) (x y : UInt32) (p q : UInt64) (X Y hX hY : UInt32) (ok : cvf hX X .l ≠ 0 → vf_n32 (FP.fmul (FP.fneg (cF S 14 k)) 1056964608)) (next : WC (xL_X4_moveParticle.drop 110) [some (.ref 0), some (.int (nI k)), some (.double t), none, some (.float x), some (.float y), some (.double p), none, some (.double q), none, some (.float X), some (.float Y), some (.float hX), some (.float hY)] [] (cW (mpA S k hX X))) : WC (xL_X4_moveParticle.drop 93) [some (.ref 0), some (.int (nI k)), some (.double t), none, some (.float x), some (.float y), some (.double p), none, some (.double q), none, some (.float X), some (.float Y), some (.float hX), some (.float hY)] [] (cW S) := by
  unfold mpA at next
  refine hW.1 (fun pc => Nat.beq pc 193) 200 93 _ _ _ ?_
  refine And.intro (fun h1 => ?_) (fun h1 => ?_)
  · rw [if_pos h1] at next
    exact next
  · rw [if_neg h1] at next
    refine ⟨k, rfl, by omega, by decide, ?_⟩
    refine And.intro (ok h1) ?_
    refine ⟨k, rfl, by omega, by decide, ?_⟩
    exact next
set_option maxRecDepth 100000 in
set_option maxHeartbeats 4000000 in
theorem mp_h (S : cS) (Q : cS) (WC : xC → xO → List Value → xA → Prop) (hW : xSys xL_X4_moveParticle (xlk xfl4) (xlk xcl4) (xCt [(460, t_sample), (481, t_holdInBox), (154, t_isSolid)]) (xRt none (fun vs aw' => vs = [] ∧ aw' = cW Q)) WC) (k : Nat) (hk : k < 24) (t : UInt64) (x y : UInt32) (p q : UInt64) (X Y hX hY : UInt32) (ok : cvf hY Y .l ≠ 0 → vf_n32 (FP.fmul (FP.fneg (cF S 15 k)) 1056964608)) (next : WC (xL_X4_moveParticle.drop 127) [some (.ref 0), some (.int (nI k)), some (.double t), none, some (.float x), some (.float y), some (.double p), none, some (.double q), none, some (.float X), some (.float Y), some (.float hX), some (.float hY)] [] (cW (mpB S k hY Y))) : WC (xL_X4_moveParticle.drop 110) [some (.ref 0), some (.int (nI k)), some (.double t), none, some (.float x), some (.float y), some (.double p), none, some (.double q), none, some (.float X), some (.float Y), some (.float hX), some (.float hY)] [] (cW S) := by
  unfold mpB at next
  refine hW.1 (fun pc => Nat.beq pc 223) 200 110 _ _ _ ?_
  refine And.intro (fun h1 => ?_) (fun h1 => ?_)
  · rw [if_pos h1] at next
    exact next
  · rw [if_neg h1] at next
    refine ⟨k, rfl, by omega, by decide, ?_⟩
    refine And.intro (ok h1) ?_
    refine ⟨k, rfl, by omega, by decide, ?_⟩
    exact next
set_option maxRecDepth 100000 in
set_option maxHeartbeats 4000000 in
theorem mp_i (S : cS) (Q : cS) (WC : xC → xO → List Value → xA → Prop) (hW : xSys xL_X4_moveParticle (xlk xfl4) (xlk xcl4) (xCt [(460, t_sample), (481, t_holdInBox), (154, t_isSolid)]) (xRt none (fun vs aw' => vs = [] ∧ aw' = cW Q)) WC) (k : Nat) (hk : k < 24) (t : UInt64) (x y : UInt32) (p q : UInt64) (X Y hX hY : UInt32) (e : mpP S k hX hY = Q) : WC (xL_X4_moveParticle.drop 127) [some (.ref 0), some (.int (nI k)), some (.double t), none, some (.float x), some (.float y), some (.double p), none, some (.double q), none, some (.float X), some (.float Y), some (.float hX), some (.float hY)] [] (cW S) := by
  subst e
  refine hW.1 (fun _ => false) 200 127 _ _ _ ?_
  refine ⟨k, rfl, by omega, by decide, ?_⟩
  refine ⟨k, rfl, by omega, by decide, ?_⟩
  exact And.intro rfl rfl
theorem n_moveP (S : cS) (k : Nat) (hk : k < 24) (t : UInt64) (hok : mpOk S k t) : xMet l yX4_moveParticle cX4_moveParticle 14 none 3 D ad cy [.ref 0, .int (nI k), .double t] (cW S) (fun vs aw' => vs = [] ∧ aw' = cW (mpS S k t)) := by
  refine xmet (Fd := xlk xfl4) (Cn := xlk xcl4) (Cl := xCt [(460, t_sample), (481, t_holdInBox), (154, t_isSolid)]) (by decide) xk_X4_moveParticle xt_X4_moveParticle ⟨_, _, rfl, rfl⟩ xpl4 (xEnt_ok (List.forall_mem_cons.mpr ⟨f_sample (by omega), List.forall_mem_cons.mpr ⟨f_holdInBox (by omega), List.forall_mem_cons.mpr ⟨f_isSolid4 (by omega), fun q h => by cases h⟩⟩⟩)) (Nat.le_of_ble_eq_true rfl) (fun WC hW => ?_)
  obtain ⟨o1, o2, o3, o4, o5⟩ := hok
  refine mp_a S _ WC hW k hk t _ _ rfl rfl ?_
  refine mp_b S _ WC hW k hk t _ _ _ rfl o1 ?_
  refine mp_c S _ WC hW k hk t _ _ _ _ rfl o2 ?_
  refine mp_d S _ WC hW k hk t _ _ _ _ (mpX S t (cF S 12 k) (cF S 13 k)) rfl o3 ?_
  refine mp_e S _ WC hW k hk t _ _ _ _ _ (mpY S t (cF S 12 k) (cF S 13 k)) rfl o4 ?_
  have e9 : mpS S k t = mpE S k (mpX S t (cF S 12 k) (cF S 13 k)) (mpY S t (cF S 12 k) (cF S 13 k)) := rfl
  rw [e9] at hW
  generalize mpX S t (cF S 12 k) (cF S 13 k) = X at hW o5 ⊢
  generalize mpY S t (cF S 12 k) (cF S 13 k) = Y at hW o5 ⊢
  refine mp_f S _ WC hW k hk t _ _ _ _ X Y (hoF X) (hoF Y) rfl rfl (fun h1 => ?_) (fun h1 => ?_)
  · unfold mpE
    rw [if_pos h1]
  · obtain ⟨w1, w2⟩ := o5 h1
    have e8 : mpE S k X Y = mpP (mpB (mpA S k (hoF X) X) k (hoF Y) Y) k (hoF X) (hoF Y) := by
      unfold mpE
      rw [if_neg (by rw [h1]; decide)]
    refine mp_g S _ WC hW k hk t _ _ _ _ X Y (hoF X) (hoF Y) w1 ?_
    refine mp_h (mpA S k (hoF X) X) _ WC hW k hk t _ _ _ _ X Y (hoF X) (hoF Y) (by rw [mpA_15]; exact w2) ?_
    exact mp_i (mpB (mpA S k (hoF X) X) k (hoF Y) Y) _ WC hW k hk t _ _ _ _ X Y (hoF X) (hoF Y) e8.symm
def t_moveP (st : List Value) (aw : xA) (k : List Value → xA → Prop) : Prop := match st with
  | .double t :: .int i :: .ref 0 :: st => match xsm st with
    | true => ∃ (S : cS) (n : Nat), aw = cW S ∧ i = nI n ∧ n < 24 ∧ mpOk S n t ∧ k st (cW (mpS S n t))
    | false => False
  | _ => False
theorem f_moveP {d : Nat} (hd : 4 ≤ d) : xEnt l d D ad cy RX4 338 t_moveP := xEnt_V (y' := yX4_moveParticle) (cc' := cX4_moveParticle) (n' := 14) (ret' := none) (d' := 3) (j := 169) 2 (by decide +kernel) (by decide +kernel) (by omega) (fun st aw k h => by
  match st, h with
  | .double t :: .int i :: .ref 0 :: st, h =>
    cases hs : xsm st with
    | false => simp only [t_moveP, hs] at h
    | true =>
      simp only [t_moveP, hs] at h
      obtain ⟨S, n, rfl, rfl, hn, hok, h2⟩ := h
      exact ⟨[.int (nI n), .double t], st, _, 0, 4, _, rfl, rfl, hs, rfl, ⟨_, rfl, rfl⟩, n_moveP S n hn t hok, fun vs aw' h9 => by obtain ⟨rfl, rfl⟩ := h9; exact h2⟩)
end C17
