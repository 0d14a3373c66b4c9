/-! the class: blend, renewVelocity, moveParticle -/
/-- particle k's new speeds -/
def rvA (S : cS) (k : Nat) : UInt32 := miF (cH S 0) (cF S 14 k) (cmF (cD S 23) true (FP.f2d (cF S 12 k)) (FP.f2d (cF S 13 k))) (cmF (cD S 21) true (FP.f2d (cF S 12 k)) (FP.f2d (cF S 13 k)))
def rvB (S : cS) (k : Nat) : UInt32 := miF (cH S 0) (cF S 15 k) (cmF (cD S 24) false (FP.f2d (cF S 12 k)) (FP.f2d (cF S 13 k))) (cmF (cD S 22) false (FP.f2d (cF S 12 k)) (FP.f2d (cF S 13 k)))
def rvOA (S : cS) (k : Nat) : Prop := vf_n64 (FP.f2d (cF S 12 k)) ∧ vf_n64 (FP.f2d (cF S 13 k)) ∧ cmOk (cD S 21) true (FP.f2d (cF S 12 k)) (FP.f2d (cF S 13 k)) ∧ cmOk (cD S 23) true (FP.f2d (cF S 12 k)) (FP.f2d (cF S 13 k)) ∧ miO (cH S 0) (cF S 14 k) (cmF (cD S 23) true (FP.f2d (cF S 12 k)) (FP.f2d (cF S 13 k))) (cmF (cD S 21) true (FP.f2d (cF S 12 k)) (FP.f2d (cF S 13 k)))
def rvOB (S : cS) (k : Nat) : Prop := vf_n64 (FP.f2d (cF S 12 k)) ∧ vf_n64 (FP.f2d (cF S 13 k)) ∧ cmOk (cD S 22) false (FP.f2d (cF S 12 k)) (FP.f2d (cF S 13 k)) ∧ cmOk (cD S 24) false (FP.f2d (cF S 12 k)) (FP.f2d (cF S 13 k)) ∧ miO (cH S 0) (cF S 15 k) (cmF (cD S 24) false (FP.f2d (cF S 12 k)) (FP.f2d (cF S 13 k))) (cmF (cD S 22) false (FP.f2d (cF S 12 k)) (FP.f2d (cF S 13 k)))
def rvSA (S : cS) (k : Nat) : cS := cF' S 14 (vf_upd (cF S 14) k (rvA S k))
def rvSB (S : cS) (k : Nat) : cS := cF' S 15 (vf_upd (cF S 15) k (rvB S k))
def rvS (S : cS) (k : Nat) : cS := rvSB (rvSA S k) k
def rvOk (S : cS) (k : Nat) : Prop := rvOA S k ∧ rvOB (rvSA S k) k
section C16
variable {l : Launch} {D : va_G} {ad : Nat → Nat} {cy : Nat → ClassId}
def t_sample (st : List Value) (aw : xA) (k : List Value → xA → Prop) : Prop := match st with
  | .double y :: .double x :: .ref r :: st => match xsm st with
    | true => ∃ (S : cS) (o u : Bool), aw = cW S ∧ r = (if o then (if u then 3 else 4) else (if u then 5 else 6)) ∧ cmOk (cD S (if o then (if u then 21 else 22) else (if u then 23 else 24))) u x y ∧ k (.double (cmF (cD S (if o then (if u then 21 else 22) else (if u then 23 else 24))) u x y) :: st) (cW S)
    | false => False
  | _ => False
theorem f_sample {d : Nat} (hd : 3 ≤ d) : xEnt l d D ad cy RX4 460 t_sample := xEnt_V (y' := yX0_sample) (cc' := cX0_sample) (n' := 17) (ret' := some .double) (d' := 1) (j := 230) 2 (by decide +kernel) (by decide +kernel) (by omega) (fun st aw k h => by
  match st, h with
  | .double y :: .double x :: .ref r :: st, h =>
    cases hs : xsm st with
    | false => simp only [t_sample, hs] at h
    | true =>
      simp only [t_sample, hs] at h
      obtain ⟨S, o, u, rfl, rfl, hok, h2⟩ := h
      cases o with
      | true =>
        cases u with
        | true => exact ⟨[.double x, .double y], st, _, 3, 0, _, rfl, rfl, hs, rfl, ⟨_, rfl, rfl⟩, n_sample3 S x y hok, fun vs aw' h9 => by obtain ⟨rfl, rfl⟩ := h9; exact h2⟩
        | false => exact ⟨[.double x, .double y], st, _, 4, 0, _, rfl, rfl, hs, rfl, ⟨_, rfl, rfl⟩, n_sample4 S x y hok, fun vs aw' h9 => by obtain ⟨rfl, rfl⟩ := h9; exact h2⟩
      | false =>
        cases u with
        | true => exact ⟨[.double x, .double y], st, _, 5, 0, _, rfl, rfl, hs, rfl, ⟨_, rfl, rfl⟩, n_sample5 S x y hok, fun vs aw' h9 => by obtain ⟨rfl, rfl⟩ := h9; exact h2⟩
        | false => exact ⟨[.double x, .double y], st, _, 6, 0, _, rfl, rfl, hs, rfl, ⟨_, rfl, rfl⟩, n_sample6 S x y hok, fun vs aw' h9 => by obtain ⟨rfl, rfl⟩ := h9; exact h2⟩)
set_option maxRecDepth 100000 in
set_option maxHeartbeats 4000000 in
theorem n_blend (S : cS) (v : UInt32) (was now : UInt64) (hok : miO (cH S 0) v now was) : xMet l yX4_blend cX4_blend 8 (some .float) 0 D ad cy [.ref 0, .float v, .double was, .double now] (cW S) (fun vs aw' => vs = [.float (miF (cH S 0) v now was)] ∧ aw' = cW S) := by
  refine xmet (Fd := xlk xfl4) (Cn := xlk xcl4) (Cl := xCt []) (by decide) xk_X4_blend xt_X4_blend ⟨_, _, rfl, rfl⟩ xpl4 (xEnt_ok (fun q h => by cases h)) (Nat.le_of_ble_eq_true rfl) (fun WC hW => ?_)
  obtain ⟨v1, v2, v3, v4, v5, v6, v7, v8⟩ := hok
  refine hW.1 (fun _ => false) 200 0 _ _ _ ?_
  refine And.intro v1 (And.intro v2 (And.intro v3 (And.intro v4 (And.intro v5 (And.intro v6 (And.intro v7 (And.intro v8 ?_)))))))
  unfold miF
  generalize FP.fadd (FP.fmul (cH S 0) (FP.fadd v (FP.d2f (FP.dsub now was)))) (FP.fmul (FP.fsub FP.fconst1 (cH S 0)) (FP.d2f now)) = w
  refine And.intro (fun h1 => ?_) (fun h1 => ?_)
  · refine And.intro (fun h2 => ?_) (fun h2 => ?_)
    · exact And.intro (by unfold boF; rw [if_pos h1, if_pos h2]) rfl
    · exact And.intro (by unfold boF; rw [if_pos h1, if_neg h2]) rfl
  · exact And.intro (by unfold boF; rw [if_neg h1]) rfl
def t_blend (st : List Value) (aw : xA) (k : List Value → xA → Prop) : Prop := match st with
  | .double now :: .double was :: .float v :: .ref 0 :: st => match xsm st with
    | true => ∃ (S : cS), aw = cW S ∧ miO (cH S 0) v now was ∧ k (.float (miF (cH S 0) v now was) :: st) (cW S)
    | false => False
  | _ => False
theorem f_blend {d : Nat} (hd : 1 ≤ d) : xEnt l d D ad cy RX4 468 t_blend := xEnt_V (y' := yX4_blend) (cc' := cX4_blend) (n' := 8) (ret' := some .float) (d' := 0) (j := 234) 3 (by decide +kernel) (by decide +kernel) (by omega) (fun st aw k h => by
  match st, h with
  | .double now :: .double was :: .float v :: .ref 0 :: st, h =>
    cases hs : xsm st with
    | false => simp only [t_blend, hs] at h
    | true =>
      simp only [t_blend, hs] at h
      obtain ⟨S, rfl, hok, h2⟩ := h
      exact ⟨[.float v, .double was, .double now], st, _, 0, 4, _, rfl, rfl, hs, rfl, ⟨_, rfl, rfl⟩, n_blend S v was now hok, fun vs aw' h9 => by obtain ⟨rfl, rfl⟩ := h9; exact h2⟩)
set_option maxRecDepth 100000 in
set_option maxHeartbeats 4000000 in
theorem rv_a (S : cS) (Q : cS) (WC : xC → xO → List Value → xA → Prop) (hW : xSys xL_X4_renewVelocity (xlk xfl4) (xlk xcl4) (xCt [(460, t_sample), (468, t_blend)]) (xRt none (fun vs aw' => vs = [] ∧ aw' = cW Q)) WC) (k : Nat) (hk : k < 24) (x y : UInt32) (hx : x = cF S 12 k) (hy : y = cF S 13 k) (next : WC (xL_X4_renewVelocity.drop 12) [some (.ref 0), some (.int (nI k)), some (.float x), some (.float y)] [] (cW S)) : WC (xL_X4_renewVelocity.drop 0) [some (.ref 0), some (.int (nI k)), none, none] [] (cW S) := by
  subst hx hy
  refine hW.1 (fun pc => Nat.beq pc 20) 200 0 _ _ _ ?_
  refine ⟨k, rfl, by omega, by decide, ?_⟩
  refine ⟨k, rfl, by omega, by decide, ?_⟩
  exact next
set_option maxRecDepth 100000 in
set_option maxHeartbeats 4000000 in
theorem rv_b (S : cS) (Q : cS) (WC : xC → xO → List Value → xA → Prop) (hW : xSys xL_X4_renewVelocity (xlk xfl4) (xlk xcl4) (xCt [(460, t_sample), (468, t_blend)]) (xRt none (fun vs aw' => vs = [] ∧ aw' = cW Q)) WC) (k : Nat) (hk : k < 24) (x y : UInt32) (T : cS) (hT : T = cF' S 14 (vf_upd (cF S 14) k (miF (cH S 0) (cF S 14 k) (cmF (cD S 23) true (FP.f2d x) (FP.f2d y)) (cmF (cD S 21) true (FP.f2d x) (FP.f2d y))))) (v1 : vf_n64 (FP.f2d x)) (v2 : vf_n64 (FP.f2d y)) (v3 : cmOk (cD S 21) true (FP.f2d x) (FP.f2d y)) (v4 : cmOk (cD S 23) true (FP.f2d x) (FP.f2d y)) (v5 : miO (cH S 0) (cF S 14 k) (cmF (cD S 23) true (FP.f2d x) (FP.f2d y)) (cmF (cD S 21) true (FP.f2d x) (FP.f2d y))) (next : WC (xL_X4_renewVelocity.drop 38) [some (.ref 0), some (.int (nI k)), some (.float x), some (.float y)] [] (cW T)) : WC (xL_X4_renewVelocity.drop 12) [some (.ref 0), some (.int (nI k)), some (.float x), some (.float y)] [] (cW S) := by
  subst hT
  refine hW.1 (fun pc => Nat.beq pc 64) 200 12 _ _ _ ?_
  refine ⟨k, rfl, by omega, by decide, ?_⟩
  refine And.intro v1 (And.intro v2 ?_)
  refine ⟨S, true, true, rfl, rfl, v3, ?_⟩
  refine And.intro v1 (And.intro v2 ?_)
  refine ⟨S, false, true, rfl, rfl, v4, ?_⟩
  refine ⟨S, rfl, v5, ?_⟩
  refine ⟨k, rfl, by omega, by decide, ?_⟩
  exact next
set_option maxRecDepth 100000 in
set_option maxHeartbeats 4000000 in
theorem rv_c (S : cS) (Q : cS) (WC : xC → xO → List Value → xA → Prop) (hW : xSys xL_X4_renewVelocity (xlk xfl4) (xlk xcl4) (xCt [(460, t_sample), (468, t_blend)]) (xRt none (fun vs aw' => vs = [] ∧ aw' = cW Q)) WC) (k : Nat) (hk : k < 24) (x y : UInt32) (T : cS) (hT : T = cF' S 15 (vf_upd (cF S 15) k (miF (cH S 0) (cF S 15 k) (cmF (cD S 24) false (FP.f2d x) (FP.f2d y)) (cmF (cD S 22) false (FP.f2d x) (FP.f2d y))))) (v1 : vf_n64 (FP.f2d x)) (v2 : vf_n64 (FP.f2d y)) (v3 : cmOk (cD S 22) false (FP.f2d x) (FP.f2d y)) (v4 : cmOk (cD S 24) false (FP.f2d x) (FP.f2d y)) (v5 : miO (cH S 0) (cF S 15 k) (cmF (cD S 24) false (FP.f2d x) (FP.f2d y)) (cmF (cD S 22) false (FP.f2d x) (FP.f2d y))) (next : cW T = cW Q) : WC (xL_X4_renewVelocity.drop 38) [some (.ref 0), some (.int (nI k)), some (.float x), some (.float y)] [] (cW S) := by
  subst hT
  refine hW.1 (fun _ => false) 200 38 _ _ _ ?_
  refine ⟨k, rfl, by omega, by decide, ?_⟩
  refine And.intro v1 (And.intro v2 ?_)
  refine ⟨S, true, false, rfl, rfl, v3, ?_⟩
  refine And.intro v1 (And.intro v2 ?_)
  refine ⟨S, false, false, rfl, rfl, v4, ?_⟩
  refine ⟨S, rfl, v5, ?_⟩
  refine ⟨k, rfl, by omega, by decide, ?_⟩
  exact And.intro rfl next
theorem n_renew (S : cS) (k : Nat) (hk : k < 24) (hok : rvOk S k) : xMet l yX4_renewVelocity cX4_renewVelocity 4 none 3 D ad cy [.ref 0, .int (nI k)] (cW S) (fun vs aw' => vs = [] ∧ aw' = cW (rvS S k)) := by
  refine xmet (Fd := xlk xfl4) (Cn := xlk xcl4) (Cl := xCt [(460, t_sample), (468, t_blend)]) (by decide) xk_X4_renewVelocity xt_X4_renewVelocity ⟨_, _, rfl, rfl⟩ xpl4 (xEnt_ok (List.forall_mem_cons.mpr ⟨f_sample (by omega), List.forall_mem_cons.mpr ⟨f_blend (by omega), fun q h => by cases h⟩⟩)) (Nat.le_of_ble_eq_true rfl) (fun WC hW => ?_)
  obtain ⟨⟨a1, a2, a3, a4, a5⟩, ⟨b1, b2, b3, b4, b5⟩⟩ := hok
  refine rv_a S _ WC hW k hk _ _ rfl rfl ?_
  refine rv_b S _ WC hW k hk _ _ (rvSA S k) rfl a1 a2 a3 a4 a5 ?_
  exact rv_c (rvSA S k) _ WC hW k hk _ _ (rvS S k) rfl b1 b2 b3 b4 b5 rfl
def t_renew (st : List Value) (aw : xA) (k : List Value → xA → Prop) : Prop := match st with
  | .int i :: .ref 0 :: st => match xsm st with
    | true => ∃ (S : cS) (n : Nat), aw = cW S ∧ i = nI n ∧ n < 24 ∧ rvOk S n ∧ k st (cW (rvS S n))
    | false => False
  | _ => False
theorem f_renew {d : Nat} (hd : 4 ≤ d) : xEnt l d D ad cy RX4 332 t_renew := xEnt_V (y' := yX4_renewVelocity) (cc' := cX4_renewVelocity) (n' := 4) (ret' := none) (d' := 3) (j := 166) 1 (by decide +kernel) (by decide +kernel) (by omega) (fun st aw k h => by
  match st, h with
  | .int i :: .ref 0 :: st, h =>
    cases hs : xsm st with
    | false => simp only [t_renew, hs] at h
    | true =>
      simp only [t_renew, hs] at h
      obtain ⟨S, n, rfl, rfl, hn, hok, h2⟩ := h
      exact ⟨[.int (nI n)], st, _, 0, 4, _, rfl, rfl, hs, rfl, ⟨_, rfl, rfl⟩, n_renew S n hn hok, fun vs aw' h9 => by obtain ⟨rfl, rfl⟩ := h9; exact h2⟩)
end C16
