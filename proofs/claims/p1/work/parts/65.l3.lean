/-! the law's own methods: each calls the class, and catches -/
abbrev aL (n : Nat) (f : Nat → Int64) : va_E := .inl (4, n, .inr (.inl f))
theorem xplL0 : xPool RL (xlk []) (xlk []) := xpool_of (by decide) (by decide)
/-- what a method of the law leaves in its row -/
def oB (vs : List Value) (o : Nat → Int64) : Nat → Int64 := match vs with
  | [.int x] => vp_updL o 0 (if x = 0 then Int64.ofNat 0 else Int64.ofNat 1)
  | _ => o
def oI (vs : List Value) (o : Nat → Int64) : Nat → Int64 := match vs with
  | [.int x] => vp_updL o 0 x.toInt64
  | _ => o
def oD (vs : List Value) (o : Nat → UInt64) : Nat → UInt64 := match vs with
  | [.double x] => vf_upd o 0 x
  | _ => o
def oF (vs : List Value) (o : Nat → UInt64) : Nat → UInt64 := match vs with
  | [.float x] => vf_upd o 0 (FP.f2d x)
  | _ => o
def shI (r : cR) : Prop := (r.1 = 0 → ∃ x, r.2.1 = [.int x]) ∧ (r.1 ≠ 0 → r.2.1 = [])
def shD (r : cR) : Prop := (r.1 = 0 → ∃ x, r.2.1 = [.double x]) ∧ (r.1 ≠ 0 → r.2.1 = [] ∧ r.1 = 1)
def shF (r : cR) : Prop := (r.1 = 0 → ∃ x, r.2.1 = [.float x] ∧ vf_n64 (FP.f2d x)) ∧ (r.1 ≠ 0 → r.2.1 = [] ∧ r.1 = 1)
def wPo (r : cR) (o : Nat → Int64) (od : Nat → UInt64) : List Value → xA → Prop := fun vs aw' => vs = [.int (nI r.1)] ∧ aw' = cW r.2.2 ++ [aL 1 o, aD 1 od]
section L3
variable {l : Launch} {D : va_G} {ad : Nat → Nat} {cy : Nat → ClassId}
set_option maxRecDepth 100000 in
set_option maxHeartbeats 4000000 in
theorem w_solid (S : cS) (x y : Int32) (b : Bool) (o : Nat → Int64) (od : Nat → UInt64) (r : cR) (hsh : shI r) (hM : yMet l yX4_solid cX4_solid 5 (some .boolean) 6 D ad cy [.ref 0, .int x, .int y, .int (xb b)] (cW S) (yPost r) (yPx xIO xIS r)) : wMet l yL_solid cL_solid 6 [(0, 19, 22, 13), (0, 19, 26, 15)] D ad cy [.ref 0, .int x, .int y, .int (xb b), .ref 36] (cW S ++ [aL 1 o, aD 1 od]) (wPo r (oB r.2.1 o) od) := by
  refine wmet (y := yL_solid) (L := xL_L_solid) (Fd := xlk []) (Cn := xlk []) (r := r) (E1 := xIO) (E2 := xIS) (j := 7) (na := 3) (by decide) rfl xk_L_solid xt_L_solid ⟨_, _, rfl, rfl⟩ xplL0 (Nat.le_of_ble_eq_true rfl) hM (by decide +kernel) rfl (by decide +kernel) rfl (by decide) 6 7 0 rfl ⟨0, 19, 22, 13⟩ [⟨0, 19, 26, 15⟩] rfl (by decide) (by decide) (by decide +kernel) (by decide +kernel) (Or.inl ⟨5, by decide, by decide +kernel, by decide +kernel, by decide +kernel⟩) (fun _ => ⟨_, _, rfl, by decide, by decide, by decide +kernel, by decide +kernel, Or.inl ⟨5, by decide, by decide +kernel, by decide +kernel, by decide +kernel⟩, fun U h => h.1⟩) (fun h => by refine ⟨by rw [h], ?_⟩; rw [(hsh.2 (by rw [h]; decide))]; rfl) (fun h => by refine ⟨by rw [h], ?_⟩; rw [(hsh.2 (by rw [h]; decide))]; rfl) (fun WC0 WC1 hW0 hW1 hcall => ?_)
  refine hW0.1 (fun pc => Nat.beq pc 7) 20 0 _ _ _ ?_
  refine hcall _ [.int (nI 0), .ref 36] rfl (fun h0 => ?_)
  obtain ⟨v, hv⟩ := hsh.1 h0
  unfold wPo at hW1
  rw [h0, hv] at hW1
  rw [hv]
  generalize r.2.2 = V at hW1 ⊢
  refine hW1.1 (fun _ => false) 20 7 _ _ _ ?_
  refine And.intro (fun h1 => ?_) (fun h1 => ?_)
  · refine ⟨0, rfl, by decide, by decide, ?_⟩
    refine ⟨rfl, ?_⟩
    have e : oB [.int v] o = vp_updL o 0 (Int64.ofNat 0) := by show vp_updL o 0 (if v = 0 then _ else _) = _; rw [if_pos h1]
    rw [e]
    rfl
  · refine ⟨0, rfl, by decide, by decide, ?_⟩
    refine ⟨rfl, ?_⟩
    have e : oB [.int v] o = vp_updL o 0 (Int64.ofNat 1) := by show vp_updL o 0 (if v = 0 then _ else _) = _; rw [if_neg h1]
    rw [e]
    rfl
set_option maxRecDepth 100000 in
set_option maxHeartbeats 4000000 in
theorem w_add (S : cS) (x y a b : UInt32) (o : Nat → Int64) (od : Nat → UInt64) (r : cR) (hsh : shI r) (hM : yMet l yX4_add cX4_add 6 (some .int) 6 D ad cy [.ref 0, .float x, .float y, .float a, .float b] (cW S) (yPost r) (yPx xIA xIS r)) : wMet l yL_add cL_add 7 [(0, 14, 17, 21), (0, 14, 21, 15)] D ad cy [.ref 0, .float x, .float y, .float a, .float b, .ref 36] (cW S ++ [aL 1 o, aD 1 od]) (wPo r (oI r.2.1 o) od) := by
  refine wmet (y := yL_add) (L := xL_L_add) (Fd := xlk []) (Cn := xlk []) (r := r) (E1 := xIA) (E2 := xIS) (j := 17) (na := 4) (by decide) rfl xk_L_add xt_L_add ⟨_, _, rfl, rfl⟩ xplL0 (Nat.le_of_ble_eq_true rfl) hM (by decide +kernel) rfl (by decide +kernel) rfl (by decide) 7 9 0 rfl ⟨0, 14, 17, 21⟩ [⟨0, 14, 21, 15⟩] rfl (by decide) (by decide) (by decide +kernel) (by decide +kernel) (Or.inl ⟨6, by decide, by decide +kernel, by decide +kernel, by decide +kernel⟩) (fun _ => ⟨_, _, rfl, by decide, by decide, by decide +kernel, by decide +kernel, Or.inl ⟨6, by decide, by decide +kernel, by decide +kernel, by decide +kernel⟩, fun U h => h.2⟩) (fun h => by refine ⟨by rw [h], ?_⟩; rw [(hsh.2 (by rw [h]; decide))]; rfl) (fun h => by refine ⟨by rw [h], ?_⟩; rw [(hsh.2 (by rw [h]; decide))]; rfl) (fun WC0 WC1 hW0 hW1 hcall => ?_)
  refine hW0.1 (fun pc => Nat.beq pc 9) 20 0 _ _ _ ?_
  refine hcall _ [.int (nI 0), .ref 36] rfl (fun h0 => ?_)
  obtain ⟨v, hv⟩ := hsh.1 h0
  unfold wPo at hW1
  rw [h0, hv] at hW1
  rw [hv]
  generalize r.2.2 = V at hW1 ⊢
  refine hW1.1 (fun _ => false) 20 8 _ _ _ ?_
  refine ⟨0, rfl, by decide, by decide, ?_⟩
  exact ⟨rfl, rfl⟩
set_option maxRecDepth 100000 in
set_option maxHeartbeats 4000000 in
theorem w_pull (S : cS) (g : UInt64) (o : Nat → Int64) (od : Nat → UInt64) (r : cR) (hsh : shD r) (hM : yMet l yX4_pull cX4_pull 5 (some .double) 6 D ad cy [.ref 0, .double g] (cW S) (yPost r) (yPx xIA xIS r)) : wMet l yL_pull cL_pull 5 [(0, 8, 11, 21)] D ad cy [.ref 0, .double g, .ref 37] (cW S ++ [aL 1 o, aD 1 od]) (wPo r o (oD r.2.1 od)) := by
  refine wmet (y := yL_pull) (L := xL_L_pull) (Fd := xlk []) (Cn := xlk []) (r := r) (E1 := xIA) (E2 := xIS) (j := 23) (na := 1) (by decide) rfl xk_L_pull xt_L_pull ⟨_, _, rfl, rfl⟩ xplL0 (Nat.le_of_ble_eq_true rfl) hM (by decide +kernel) rfl (by decide +kernel) rfl (by decide) 4 4 0 rfl ⟨0, 8, 11, 21⟩ [] rfl (by decide) (by decide) (by decide +kernel) (by decide +kernel) (Or.inl ⟨4, by decide, by decide +kernel, by decide +kernel, by decide +kernel⟩) (fun h => by have h3 := (hsh.2 (by rw [h]; decide)).2; rw [h] at h3; cases h3) (fun h => by refine ⟨by rw [h], ?_⟩; rw [(hsh.2 (by rw [h]; decide)).1]; rfl) (fun h => by refine ⟨by rw [h], ?_⟩; rw [(hsh.2 (by rw [h]; decide)).1]; rfl) (fun WC0 WC1 hW0 hW1 hcall => ?_)
  refine hW0.1 (fun pc => Nat.beq pc 4) 20 0 _ _ _ ?_
  refine hcall _ [.int (nI 0), .ref 37] rfl (fun h0 => ?_)
  obtain ⟨v, hv⟩ := hsh.1 h0
  unfold wPo at hW1
  rw [h0, hv] at hW1
  rw [hv]
  generalize r.2.2 = V at hW1 ⊢
  refine hW1.1 (fun _ => false) 20 5 _ _ _ ?_
  refine ⟨0, rfl, by decide, by decide, ?_⟩
  exact ⟨rfl, rfl⟩
set_option maxRecDepth 100000 in
set_option maxHeartbeats 4000000 in
theorem w_share (S : cS) (g : UInt32) (o : Nat → Int64) (od : Nat → UInt64) (r : cR) (hsh : shF r) (hM : yMet l yX4_share cX4_share 3 (some .float) 6 D ad cy [.ref 0, .float g] (cW S) (yPost r) (yPx xIA xIS r)) : wMet l yL_share cL_share 4 [(0, 9, 12, 21)] D ad cy [.ref 0, .float g, .ref 37] (cW S ++ [aL 1 o, aD 1 od]) (wPo r o (oF r.2.1 od)) := by
  refine wmet (y := yL_share) (L := xL_L_share) (Fd := xlk []) (Cn := xlk []) (r := r) (E1 := xIA) (E2 := xIS) (j := 27) (na := 1) (by decide) rfl xk_L_share xt_L_share ⟨_, _, rfl, rfl⟩ xplL0 (Nat.le_of_ble_eq_true rfl) hM (by decide +kernel) rfl (by decide +kernel) rfl (by decide) 4 4 0 rfl ⟨0, 9, 12, 21⟩ [] rfl (by decide) (by decide) (by decide +kernel) (by decide +kernel) (Or.inr ⟨3, by decide, by decide +kernel, by decide +kernel, by decide +kernel⟩) (fun h => by have h3 := (hsh.2 (by rw [h]; decide)).2; rw [h] at h3; cases h3) (fun h => by refine ⟨by rw [h], ?_⟩; rw [(hsh.2 (by rw [h]; decide)).1]; rfl) (fun h => by refine ⟨by rw [h], ?_⟩; rw [(hsh.2 (by rw [h]; decide)).1]; rfl) (fun WC0 WC1 hW0 hW1 hcall => ?_)
  refine hW0.1 (fun pc => Nat.beq pc 4) 20 0 _ _ _ ?_
  refine hcall _ [.int (nI 0), .ref 37] rfl (fun h0 => ?_)
  obtain ⟨v, hv, hn⟩ := hsh.1 h0
  unfold wPo at hW1
  rw [h0, hv] at hW1
  rw [hv]
  generalize r.2.2 = V at hW1 ⊢
  refine hW1.1 (fun _ => false) 20 5 _ _ _ ?_
  refine And.intro hn ?_
  refine ⟨0, rfl, by decide, by decide, ?_⟩
  exact ⟨rfl, rfl⟩
set_option maxRecDepth 100000 in
set_option maxHeartbeats 4000000 in
theorem w_solver (S : cS) (x y : Int32) (o : Nat → Int64) (od : Nat → UInt64) (r : cR) (hsh : shD r) (hM : yMet l yX4_solver cX4_solver 3 (some .double) 6 D ad cy [.ref 0, .int x, .int y] (cW S) (yPost r) (yPx xIA xIS r)) : wMet l yL_solver cL_solver 5 [(0, 9, 12, 21)] D ad cy [.ref 0, .int x, .int y, .ref 37] (cW S ++ [aL 1 o, aD 1 od]) (wPo r o (oD r.2.1 od)) := by
  refine wmet (y := yL_solver) (L := xL_L_solver) (Fd := xlk []) (Cn := xlk []) (r := r) (E1 := xIA) (E2 := xIS) (j := 31) (na := 2) (by decide) rfl xk_L_solver xt_L_solver ⟨_, _, rfl, rfl⟩ xplL0 (Nat.le_of_ble_eq_true rfl) hM (by decide +kernel) rfl (by decide +kernel) rfl (by decide) 5 5 0 rfl ⟨0, 9, 12, 21⟩ [] rfl (by decide) (by decide) (by decide +kernel) (by decide +kernel) (Or.inl ⟨4, by decide, by decide +kernel, by decide +kernel, by decide +kernel⟩) (fun h => by have h3 := (hsh.2 (by rw [h]; decide)).2; rw [h] at h3; cases h3) (fun h => by refine ⟨by rw [h], ?_⟩; rw [(hsh.2 (by rw [h]; decide)).1]; rfl) (fun h => by refine ⟨by rw [h], ?_⟩; rw [(hsh.2 (by rw [h]; decide)).1]; rfl) (fun WC0 WC1 hW0 hW1 hcall => ?_)
  refine hW0.1 (fun pc => Nat.beq pc 5) 20 0 _ _ _ ?_
  refine hcall _ [.int (nI 0), .ref 37] rfl (fun h0 => ?_)
  obtain ⟨v, hv⟩ := hsh.1 h0
  unfold wPo at hW1
  rw [h0, hv] at hW1
  rw [hv]
  generalize r.2.2 = V at hW1 ⊢
  refine hW1.1 (fun _ => false) 20 6 _ _ _ ?_
  refine ⟨0, rfl, by decide, by decide, ?_⟩
  exact ⟨rfl, rfl⟩
set_option maxRecDepth 100000 in
set_option maxHeartbeats 4000000 in
theorem w_step (S : cS) (g : UInt64) (o : Nat → Int64) (od : Nat → UInt64) (r : cR) (hsh : shI r) (hM : yMet l yX4_step cX4_step 5 (some .int) 6 D ad cy [.ref 0, .double g] (cW S) (yPost r) (yPx xIA xIS r)) : wMet l yL_step cL_step 5 [(0, 9, 12, 21), (0, 9, 16, 15)] D ad cy [.ref 0, .double g, .ref 36] (cW S ++ [aL 1 o, aD 1 od]) (wPo r (oI r.2.1 o) od) := by
  refine wmet (y := yL_step) (L := xL_L_step) (Fd := xlk []) (Cn := xlk []) (r := r) (E1 := xIA) (E2 := xIS) (j := 35) (na := 1) (by decide) rfl xk_L_step xt_L_step ⟨_, _, rfl, rfl⟩ xplL0 (Nat.le_of_ble_eq_true rfl) hM (by decide +kernel) rfl (by decide +kernel) rfl (by decide) 4 4 0 rfl ⟨0, 9, 12, 21⟩ [⟨0, 9, 16, 15⟩] rfl (by decide) (by decide) (by decide +kernel) (by decide +kernel) (Or.inl ⟨4, by decide, by decide +kernel, by decide +kernel, by decide +kernel⟩) (fun _ => ⟨_, _, rfl, by decide, by decide, by decide +kernel, by decide +kernel, Or.inl ⟨4, by decide, by decide +kernel, by decide +kernel, by decide +kernel⟩, fun U h => h.2⟩) (fun h => by refine ⟨by rw [h], ?_⟩; rw [(hsh.2 (by rw [h]; decide))]; rfl) (fun h => by refine ⟨by rw [h], ?_⟩; rw [(hsh.2 (by rw [h]; decide))]; rfl) (fun WC0 WC1 hW0 hW1 hcall => ?_)
  refine hW0.1 (fun pc => Nat.beq pc 4) 20 0 _ _ _ ?_
  refine hcall _ [.int (nI 0), .ref 36] rfl (fun h0 => ?_)
  obtain ⟨v, hv⟩ := hsh.1 h0
  unfold wPo at hW1
  rw [h0, hv] at hW1
  rw [hv]
  generalize r.2.2 = V at hW1 ⊢
  refine hW1.1 (fun _ => false) 20 5 _ _ _ ?_
  refine ⟨0, rfl, by decide, by decide, ?_⟩
  exact ⟨rfl, rfl⟩
set_option maxRecDepth 100000 in
set_option maxHeartbeats 4000000 in
theorem w_particle (S : cS) (x y : Int32) (o : Nat → Int64) (od : Nat → UInt64) (r : cR) (hsh : shF r) (hM : yMet l yX4_particle cX4_particle 3 (some .float) 6 D ad cy [.ref 0, .int x, .int y] (cW S) (yPost r) (yPx xIO xIS r)) : wMet l yL_particle cL_particle 5 [(0, 10, 13, 13)] D ad cy [.ref 0, .int x, .int y, .ref 37] (cW S ++ [aL 1 o, aD 1 od]) (wPo r o (oF r.2.1 od)) := by
  refine wmet (y := yL_particle) (L := xL_L_particle) (Fd := xlk []) (Cn := xlk []) (r := r) (E1 := xIO) (E2 := xIS) (j := 39) (na := 2) (by decide) rfl xk_L_particle xt_L_particle ⟨_, _, rfl, rfl⟩ xplL0 (Nat.le_of_ble_eq_true rfl) hM (by decide +kernel) rfl (by decide +kernel) rfl (by decide) 5 5 0 rfl ⟨0, 10, 13, 13⟩ [] rfl (by decide) (by decide) (by decide +kernel) (by decide +kernel) (Or.inl ⟨4, by decide, by decide +kernel, by decide +kernel, by decide +kernel⟩) (fun h => by have h3 := (hsh.2 (by rw [h]; decide)).2; rw [h] at h3; cases h3) (fun h => by refine ⟨by rw [h], ?_⟩; rw [(hsh.2 (by rw [h]; decide)).1]; rfl) (fun h => by refine ⟨by rw [h], ?_⟩; rw [(hsh.2 (by rw [h]; decide)).1]; rfl) (fun WC0 WC1 hW0 hW1 hcall => ?_)
  refine hW0.1 (fun pc => Nat.beq pc 5) 20 0 _ _ _ ?_
  refine hcall _ [.int (nI 0), .ref 37] rfl (fun h0 => ?_)
  obtain ⟨v, hv, hn⟩ := hsh.1 h0
  unfold wPo at hW1
  rw [h0, hv] at hW1
  rw [hv]
  generalize r.2.2 = V at hW1 ⊢
  refine hW1.1 (fun _ => false) 20 6 _ _ _ ?_
  refine And.intro hn ?_
  refine ⟨0, rfl, by decide, by decide, ?_⟩
  exact ⟨rfl, rfl⟩
set_option maxRecDepth 100000 in
set_option maxHeartbeats 4000000 in
theorem w_pressure (S : cS) (x y : Int32) (o : Nat → Int64) (od : Nat → UInt64) (r : cR) (hsh : shD r) (hM : yMet l yX4_pressure cX4_pressure 3 (some .double) 6 D ad cy [.ref 0, .int x, .int y] (cW S) (yPost r) (yPx xIO xIS r)) : wMet l yL_pressure cL_pressure 5 [(0, 9, 12, 13)] D ad cy [.ref 0, .int x, .int y, .ref 37] (cW S ++ [aL 1 o, aD 1 od]) (wPo r o (oD r.2.1 od)) := by
  refine wmet (y := yL_pressure) (L := xL_L_pressure) (Fd := xlk []) (Cn := xlk []) (r := r) (E1 := xIO) (E2 := xIS) (j := 43) (na := 2) (by decide) rfl xk_L_pressure xt_L_pressure ⟨_, _, rfl, rfl⟩ xplL0 (Nat.le_of_ble_eq_true rfl) hM (by decide +kernel) rfl (by decide +kernel) rfl (by decide) 5 5 0 rfl ⟨0, 9, 12, 13⟩ [] rfl (by decide) (by decide) (by decide +kernel) (by decide +kernel) (Or.inl ⟨4, by decide, by decide +kernel, by decide +kernel, by decide +kernel⟩) (fun h => by have h3 := (hsh.2 (by rw [h]; decide)).2; rw [h] at h3; cases h3) (fun h => by refine ⟨by rw [h], ?_⟩; rw [(hsh.2 (by rw [h]; decide)).1]; rfl) (fun h => by refine ⟨by rw [h], ?_⟩; rw [(hsh.2 (by rw [h]; decide)).1]; rfl) (fun WC0 WC1 hW0 hW1 hcall => ?_)
  refine hW0.1 (fun pc => Nat.beq pc 5) 20 0 _ _ _ ?_
  refine hcall _ [.int (nI 0), .ref 37] rfl (fun h0 => ?_)
  obtain ⟨v, hv⟩ := hsh.1 h0
  unfold wPo at hW1
  rw [h0, hv] at hW1
  rw [hv]
  generalize r.2.2 = V at hW1 ⊢
  refine hW1.1 (fun _ => false) 20 6 _ _ _ ?_
  refine ⟨0, rfl, by decide, by decide, ?_⟩
  exact ⟨rfl, rfl⟩
set_option maxRecDepth 100000 in
set_option maxHeartbeats 4000000 in
theorem w_face (S : cS) (a x y : Int32) (o : Nat → Int64) (od : Nat → UInt64) (r : cR) (hsh : shD r) (hM : yMet l yX4_face cX4_face 5 (some .double) 6 D ad cy [.ref 0, .int a, .int x, .int y] (cW S) (yPost r) (yPx xIO xIS r)) : wMet l yL_face cL_face 6 [(0, 11, 14, 13)] D ad cy [.ref 0, .int a, .int x, .int y, .ref 37] (cW S ++ [aL 1 o, aD 1 od]) (wPo r o (oD r.2.1 od)) := by
  refine wmet (y := yL_face) (L := xL_L_face) (Fd := xlk []) (Cn := xlk []) (r := r) (E1 := xIO) (E2 := xIS) (j := 46) (na := 3) (by decide) rfl xk_L_face xt_L_face ⟨_, _, rfl, rfl⟩ xplL0 (Nat.le_of_ble_eq_true rfl) hM (by decide +kernel) rfl (by decide +kernel) rfl (by decide) 6 7 0 rfl ⟨0, 11, 14, 13⟩ [] rfl (by decide) (by decide) (by decide +kernel) (by decide +kernel) (Or.inl ⟨5, by decide, by decide +kernel, by decide +kernel, by decide +kernel⟩) (fun h => by have h3 := (hsh.2 (by rw [h]; decide)).2; rw [h] at h3; cases h3) (fun h => by refine ⟨by rw [h], ?_⟩; rw [(hsh.2 (by rw [h]; decide)).1]; rfl) (fun h => by refine ⟨by rw [h], ?_⟩; rw [(hsh.2 (by rw [h]; decide)).1]; rfl) (fun WC0 WC1 hW0 hW1 hcall => ?_)
  refine hW0.1 (fun pc => Nat.beq pc 7) 20 0 _ _ _ ?_
  refine hcall _ [.int (nI 0), .ref 37] rfl (fun h0 => ?_)
  obtain ⟨v, hv⟩ := hsh.1 h0
  unfold wPo at hW1
  rw [h0, hv] at hW1
  rw [hv]
  generalize r.2.2 = V at hW1 ⊢
  refine hW1.1 (fun _ => false) 20 7 _ _ _ ?_
  refine ⟨0, rfl, by decide, by decide, ?_⟩
  exact ⟨rfl, rfl⟩
end L3
