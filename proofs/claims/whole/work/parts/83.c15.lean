/-! the class: sample -/
theorem ds0 {x : UInt64} (h : vf_n64 x) : FP.dsub x FP.dconst0 = x := by
  have e : FP.dsub x FP.dconst0 = FP.dadd x FP.Core.dzeroNeg := rfl
  rw [e]
  exact FP.Core.dadd_zeroNeg (n64_ne h)
theorem mn_ix {w : Nat} {g : UInt64} (hw : 0 < w) (hw2 : w < 100) (hg : 0 ≤ (FP.d2i g).toInt) : (if nI w - nI 1 < FP.d2i g then nI w - nI 1 else FP.d2i g) = nI (ixN w g) := by
  have e : nI w - nI 1 = nI (w - 1) := pk_sub (by omega)
  obtain ⟨a1, a2⟩ := ixN_lt hw hw2 hg
  rw [e]
  by_cases h : nI w ≤ FP.d2i g
  · have h2 : nI (w - 1) < FP.d2i g := by
      rw [Int32.lt_iff_toInt_lt, nI_toInt (by omega)]
      rw [Int32.le_iff_toInt_le, nI_toInt (by omega)] at h
      omega
    rw [if_pos h2]
    unfold ixN
    rw [if_pos h]
  · have h2 : ¬ nI (w - 1) < FP.d2i g := by
      rw [Int32.lt_iff_toInt_lt, nI_toInt (by omega)]
      rw [Int32.le_iff_toInt_le, nI_toInt (by omega)] at h
      omega
    rw [if_neg h2]
    exact a2 h
/-- a row of faces of the class (rows of seven), sampled at (x, y) -/
def cmF (A : Nat → UInt64) (u : Bool) (x y : UInt64) : UInt64 :=
  let a := 7 * ixN (sW (!u)) (spY u y) + ixN (sW u) (spX u x)
  mxF (sfr (sW u) (spX u x)) (sfr (sW (!u)) (spY u y)) (A a) (A (a + 1)) (A (a + 7)) (A (a + 8))
def cmOk (A : Nat → UInt64) (u : Bool) (x y : UInt64) : Prop := vf_n64 x ∧ vf_n64 y ∧ (u = false → vf_n64 (FP.dsub x 4602678819172646912)) ∧ (u = true → vf_n64 (FP.dsub y 4602678819172646912)) ∧ vf_n64 (sfr (sW u) (spX u x)) ∧ vf_n64 (sfr (sW (!u)) (spY u y)) ∧
  mxO (sfr (sW u) (spX u x)) (sfr (sW (!u)) (spY u y)) (A (7 * ixN (sW (!u)) (spY u y) + ixN (sW u) (spX u x))) (A (7 * ixN (sW (!u)) (spY u y) + ixN (sW u) (spX u x) + 1)) (A (7 * ixN (sW (!u)) (spY u y) + ixN (sW u) (spX u x) + 7)) (A (7 * ixN (sW (!u)) (spY u y) + ixN (sW u) (spX u x) + 8))
section C15
variable {l : Launch} {D : va_G} {ad : Nat → Nat} {cy : Nat → ClassId}
set_option maxRecDepth 100000 in
set_option maxHeartbeats 4000000 in
theorem cs_a3 (S : cS) (Q : UInt64) (WC : xC → xO → List Value → xA → Prop) (hW : xSys xL_X0_sample (xlk xfl0) (xlk xcl0) (xCt [(173, t_hold), (181, t_min), (87, t_faceIndex)]) (xRt (some .double) (fun vs aw' => vs = [.double Q] ∧ aw' = cW S)) WC) (x y px py : UInt64) (i j : Nat) (v1 : vf_n64 (FP.dsub x FP.dconst0)) (v2 : vf_n64 (FP.dsub y 4602678819172646912)) (hx : px = wiF (FP.dsub x FP.dconst0) (FP.i2d (nI 6))) (hy : py = wiF (FP.dsub y 4602678819172646912) (FP.i2d (nI 5))) (hi : (if nI 6 - nI 1 < FP.d2i px then nI 6 - nI 1 else FP.d2i px) = nI i) (hj : (if nI 5 - nI 1 < FP.d2i py then nI 5 - nI 1 else FP.d2i py) = nI j) (next : WC (xL_X0_sample.drop 32) [some (.ref 3), some (.double x), none, some (.double y), none, some (.double px), none, some (.double py), none, some (.int (nI i)), some (.int (nI j)), none, none, none, none, none, none] [] (cW S)) : WC (xL_X0_sample.drop 0) [some (.ref 3), some (.double x), none, some (.double y), none, none, none, none, none, none, none, none, none, none, none, none, none] [] (cW S) := by
  subst hx hy
  rw [← hi, ← hj] at next
  refine hW.1 (fun pc => Nat.beq pc 58) 300 0 _ _ _ ?_
  refine And.intro v1 (And.intro v2 ?_)
  exact next
set_option maxRecDepth 100000 in
set_option maxHeartbeats 4000000 in
theorem cs_b3 (S : cS) (Q : UInt64) (WC : xC → xO → List Value → xA → Prop) (hW : xSys xL_X0_sample (xlk xfl0) (xlk xcl0) (xCt [(173, t_hold), (181, t_min), (87, t_faceIndex)]) (xRt (some .double) (fun vs aw' => vs = [.double Q] ∧ aw' = cW S)) WC) (x y px py : UInt64) (i j : Nat) (f g : UInt64) (a b : Nat) (hf : f = FP.dsub px (FP.i2d (nI i))) (hg : g = FP.dsub py (FP.i2d (nI j))) (v1 : vf_n64 f) (v2 : vf_n64 g) (ha : a = 7 * j + i) (hb : b = a + 7) (next : WC (xL_X0_sample.drop 52) [some (.ref 3), some (.double x), none, some (.double y), none, some (.double px), none, some (.double py), none, some (.int (nI i)), some (.int (nI j)), some (.double f), none, some (.double g), none, some (.int (nI a)), some (.int (nI b))] [] (cW S)) : WC (xL_X0_sample.drop 32) [some (.ref 3), some (.double x), none, some (.double y), none, some (.double px), none, some (.double py), none, some (.int (nI i)), some (.int (nI j)), none, none, none, none, none, none] [] (cW S) := by
  subst hf hg
  have e1 : nI j * nI 7 + nI i = nI a := by rw [ha, pk_mul, nI_add, Nat.mul_comm]
  have e2 : (nI j + nI 1) * nI 7 + nI i = nI b := by rw [hb, ha, nI_add, pk_mul, nI_add]; congr 1; omega
  rw [← e1, ← e2] at next
  refine hW.1 (fun pc => Nat.beq pc 94) 300 32 _ _ _ ?_
  refine And.intro v1 (And.intro v2 ?_)
  exact next
set_option maxRecDepth 100000 in
set_option maxHeartbeats 4000000 in
theorem cs_c3 (S : cS) (Q : UInt64) (WC : xC → xO → List Value → xA → Prop) (hW : xSys xL_X0_sample (xlk xfl0) (xlk xcl0) (xCt [(173, t_hold), (181, t_min), (87, t_faceIndex)]) (xRt (some .double) (fun vs aw' => vs = [.double Q] ∧ aw' = cW S)) WC) (x y px py : UInt64) (i j : Nat) (f g : UInt64) (a b : Nat) (hb : b + 1 < 49) (ha : a + 1 < 49) (hQ : Q = mxF f g (cD S 21 a) (cD S 21 (a + 1)) (cD S 21 b) (cD S 21 (b + 1))) (v : mxO f g (cD S 21 a) (cD S 21 (a + 1)) (cD S 21 b) (cD S 21 (b + 1))) : WC (xL_X0_sample.drop 52) [some (.ref 3), some (.double x), none, some (.double y), none, some (.double px), none, some (.double py), none, some (.int (nI i)), some (.int (nI j)), some (.double f), none, some (.double g), none, some (.int (nI a)), some (.int (nI b))] [] (cW S) := by
  obtain ⟨v1, v2, v3, v4, v5, v6, v7, v8, v9, va, vb⟩ := v
  have ea : nI a + nI 1 = nI (a + 1) := nI_add a 1
  have eb : nI b + nI 1 = nI (b + 1) := nI_add b 1
  refine hW.1 (fun _ => false) 300 52 _ _ _ ?_
  refine And.intro v1 (And.intro v2 ?_)
  refine ⟨a, rfl, by omega, by decide, ?_⟩
  refine And.intro v3 ?_
  refine ⟨a + 1, ea, by omega, by decide, ?_⟩
  refine And.intro v4 (And.intro v5 (And.intro v6 (And.intro v2 ?_)))
  refine ⟨b, rfl, by omega, by decide, ?_⟩
  refine And.intro v7 ?_
  refine ⟨b + 1, eb, by omega, by decide, ?_⟩
  refine And.intro v8 (And.intro v9 (And.intro va (And.intro vb ?_)))
  exact And.intro (by rw [hQ]; rfl) rfl
theorem n_sample3 (S : cS) (x y : UInt64) (hok : cmOk (cD S 21) true x y) : xMet l yX0_sample cX0_sample 17 (some .double) 1 D ad cy [.ref 3, .double x, .double y] (cW S) (fun vs aw' => vs = [.double (cmF (cD S 21) true x y)] ∧ aw' = cW S) := by
  refine xmet (Fd := xlk xfl0) (Cn := xlk xcl0) (Cl := xCt [(173, t_hold), (181, t_min), (87, t_faceIndex)]) (by decide) xk_X0_sample xt_X0_sample ⟨_, _, rfl, rfl⟩ xpl0 (xEnt_ok (List.forall_mem_cons.mpr ⟨f_hold (by omega), List.forall_mem_cons.mpr ⟨f_min (own := RX0) (j := 90) (by decide +kernel) (by omega), List.forall_mem_cons.mpr ⟨f_faceIndex0 (by omega), fun q h => by cases h⟩⟩⟩)) (Nat.le_of_ble_eq_true rfl) (fun WC hW => ?_)
  obtain ⟨n1, n2, v1, v2, v3, v4, v5⟩ := hok
  have p1 := wi_pos (x) (show 6 < 100 by omega)
  have p2 := wi_pos (FP.dsub y 4602678819172646912) (show 5 < 100 by omega)
  have p1 : 0 ≤ (FP.d2i (spX true x)).toInt := p1
  have p2 : 0 ≤ (FP.d2i (spY true y)).toInt := p2
  have i1 : ixN 6 (spX true x) < 6 := (ixN_lt (by omega) (by omega) p1).1
  have i2 : ixN 5 (spY true y) < 5 := (ixN_lt (by omega) (by omega) p2).1
  refine cs_a3 S _ WC hW x y (spX true x) (spY true y) (ixN 6 (spX true x)) (ixN 5 (spY true y)) (by rw [ds0 n1]; exact n1) (v2 rfl) (by rw [ds0 n1]; rfl) rfl (mn_ix (by omega) (by omega) p1) (mn_ix (by omega) (by omega) p2) ?_
  refine cs_b3 S _ WC hW x y (spX true x) (spY true y) (ixN 6 (spX true x)) (ixN 5 (spY true y)) (sfr 6 (spX true x)) (sfr 5 (spY true y)) _ _ rfl rfl v3 v4 rfl rfl ?_
  exact cs_c3 S _ WC hW x y (spX true x) (spY true y) (ixN 6 (spX true x)) (ixN 5 (spY true y)) (sfr 6 (spX true x)) (sfr 5 (spY true y)) _ _ (by omega) (by omega) rfl v5
set_option maxRecDepth 100000 in
set_option maxHeartbeats 4000000 in
theorem cs_a4 (S : cS) (Q : UInt64) (WC : xC → xO → List Value → xA → Prop) (hW : xSys xL_X0_sample (xlk xfl0) (xlk xcl0) (xCt [(173, t_hold), (181, t_min), (87, t_faceIndex)]) (xRt (some .double) (fun vs aw' => vs = [.double Q] ∧ aw' = cW S)) WC) (x y px py : UInt64) (i j : Nat) (v1 : vf_n64 (FP.dsub x 4602678819172646912)) (v2 : vf_n64 (FP.dsub y FP.dconst0)) (hx : px = wiF (FP.dsub x 4602678819172646912) (FP.i2d (nI 5))) (hy : py = wiF (FP.dsub y FP.dconst0) (FP.i2d (nI 6))) (hi : (if nI 5 - nI 1 < FP.d2i px then nI 5 - nI 1 else FP.d2i px) = nI i) (hj : (if nI 6 - nI 1 < FP.d2i py then nI 6 - nI 1 else FP.d2i py) = nI j) (next : WC (xL_X0_sample.drop 32) [some (.ref 4), some (.double x), none, some (.double y), none, some (.double px), none, some (.double py), none, some (.int (nI i)), some (.int (nI j)), none, none, none, none, none, none] [] (cW S)) : WC (xL_X0_sample.drop 0) [some (.ref 4), some (.double x), none, some (.double y), none, none, none, none, none, none, none, none, none, none, none, none, none] [] (cW S) := by
  subst hx hy
  rw [← hi, ← hj] at next
  refine hW.1 (fun pc => Nat.beq pc 58) 300 0 _ _ _ ?_
  refine And.intro v1 (And.intro v2 ?_)
  exact next
set_option maxRecDepth 100000 in
set_option maxHeartbeats 4000000 in
theorem cs_b4 (S : cS) (Q : UInt64) (WC : xC → xO → List Value → xA → Prop) (hW : xSys xL_X0_sample (xlk xfl0) (xlk xcl0) (xCt [(173, t_hold), (181, t_min), (87, t_faceIndex)]) (xRt (some .double) (fun vs aw' => vs = [.double Q] ∧ aw' = cW S)) WC) (x y px py : UInt64) (i j : Nat) (f g : UInt64) (a b : Nat) (hf : f = FP.dsub px (FP.i2d (nI i))) (hg : g = FP.dsub py (FP.i2d (nI j))) (v1 : vf_n64 f) (v2 : vf_n64 g) (ha : a = 7 * j + i) (hb : b = a + 7) (next : WC (xL_X0_sample.drop 52) [some (.ref 4), some (.double x), none, some (.double y), none, some (.double px), none, some (.double py), none, some (.int (nI i)), some (.int (nI j)), some (.double f), none, some (.double g), none, some (.int (nI a)), some (.int (nI b))] [] (cW S)) : WC (xL_X0_sample.drop 32) [some (.ref 4), some (.double x), none, some (.double y), none, some (.double px), none, some (.double py), none, some (.int (nI i)), some (.int (nI j)), none, none, none, none, none, none] [] (cW S) := by
  subst hf hg
  have e1 : nI j * nI 7 + nI i = nI a := by rw [ha, pk_mul, nI_add, Nat.mul_comm]
  have e2 : (nI j + nI 1) * nI 7 + nI i = nI b := by rw [hb, ha, nI_add, pk_mul, nI_add]; congr 1; omega
  rw [← e1, ← e2] at next
  refine hW.1 (fun pc => Nat.beq pc 94) 300 32 _ _ _ ?_
  refine And.intro v1 (And.intro v2 ?_)
  exact next
set_option maxRecDepth 100000 in
set_option maxHeartbeats 4000000 in
theorem cs_c4 (S : cS) (Q : UInt64) (WC : xC → xO → List Value → xA → Prop) (hW : xSys xL_X0_sample (xlk xfl0) (xlk xcl0) (xCt [(173, t_hold), (181, t_min), (87, t_faceIndex)]) (xRt (some .double) (fun vs aw' => vs = [.double Q] ∧ aw' = cW S)) WC) (x y px py : UInt64) (i j : Nat) (f g : UInt64) (a b : Nat) (hb : b + 1 < 49) (ha : a + 1 < 49) (hQ : Q = mxF f g (cD S 22 a) (cD S 22 (a + 1)) (cD S 22 b) (cD S 22 (b + 1))) (v : mxO f g (cD S 22 a) (cD S 22 (a + 1)) (cD S 22 b) (cD S 22 (b + 1))) : WC (xL_X0_sample.drop 52) [some (.ref 4), some (.double x), none, some (.double y), none, some (.double px), none, some (.double py), none, some (.int (nI i)), some (.int (nI j)), some (.double f), none, some (.double g), none, some (.int (nI a)), some (.int (nI b))] [] (cW S) := by
  obtain ⟨v1, v2, v3, v4, v5, v6, v7, v8, v9, va, vb⟩ := v
  have ea : nI a + nI 1 = nI (a + 1) := nI_add a 1
  have eb : nI b + nI 1 = nI (b + 1) := nI_add b 1
  refine hW.1 (fun _ => false) 300 52 _ _ _ ?_
  refine And.intro v1 (And.intro v2 ?_)
  refine ⟨a, rfl, by omega, by decide, ?_⟩
  refine And.intro v3 ?_
  refine ⟨a + 1, ea, by omega, by decide, ?_⟩
  refine And.intro v4 (And.intro v5 (And.intro v6 (And.intro v2 ?_)))
  refine ⟨b, rfl, by omega, by decide, ?_⟩
  refine And.intro v7 ?_
  refine ⟨b + 1, eb, by omega, by decide, ?_⟩
  refine And.intro v8 (And.intro v9 (And.intro va (And.intro vb ?_)))
  exact And.intro (by rw [hQ]; rfl) rfl
theorem n_sample4 (S : cS) (x y : UInt64) (hok : cmOk (cD S 22) false x y) : xMet l yX0_sample cX0_sample 17 (some .double) 1 D ad cy [.ref 4, .double x, .double y] (cW S) (fun vs aw' => vs = [.double (cmF (cD S 22) false x y)] ∧ aw' = cW S) := by
  refine xmet (Fd := xlk xfl0) (Cn := xlk xcl0) (Cl := xCt [(173, t_hold), (181, t_min), (87, t_faceIndex)]) (by decide) xk_X0_sample xt_X0_sample ⟨_, _, rfl, rfl⟩ xpl0 (xEnt_ok (List.forall_mem_cons.mpr ⟨f_hold (by omega), List.forall_mem_cons.mpr ⟨f_min (own := RX0) (j := 90) (by decide +kernel) (by omega), List.forall_mem_cons.mpr ⟨f_faceIndex0 (by omega), fun q h => by cases h⟩⟩⟩)) (Nat.le_of_ble_eq_true rfl) (fun WC hW => ?_)
  obtain ⟨n1, n2, v1, v2, v3, v4, v5⟩ := hok
  have p1 := wi_pos (FP.dsub x 4602678819172646912) (show 5 < 100 by omega)
  have p2 := wi_pos (y) (show 6 < 100 by omega)
  have p1 : 0 ≤ (FP.d2i (spX false x)).toInt := p1
  have p2 : 0 ≤ (FP.d2i (spY false y)).toInt := p2
  have i1 : ixN 5 (spX false x) < 5 := (ixN_lt (by omega) (by omega) p1).1
  have i2 : ixN 6 (spY false y) < 6 := (ixN_lt (by omega) (by omega) p2).1
  refine cs_a4 S _ WC hW x y (spX false x) (spY false y) (ixN 5 (spX false x)) (ixN 6 (spY false y)) (v1 rfl) (by rw [ds0 n2]; exact n2) rfl (by rw [ds0 n2]; rfl) (mn_ix (by omega) (by omega) p1) (mn_ix (by omega) (by omega) p2) ?_
  refine cs_b4 S _ WC hW x y (spX false x) (spY false y) (ixN 5 (spX false x)) (ixN 6 (spY false y)) (sfr 5 (spX false x)) (sfr 6 (spY false y)) _ _ rfl rfl v3 v4 rfl rfl ?_
  exact cs_c4 S _ WC hW x y (spX false x) (spY false y) (ixN 5 (spX false x)) (ixN 6 (spY false y)) (sfr 5 (spX false x)) (sfr 6 (spY false y)) _ _ (by omega) (by omega) rfl v5
set_option maxRecDepth 100000 in
set_option maxHeartbeats 4000000 in
theorem cs_a5 (S : cS) (Q : UInt64) (WC : xC → xO → List Value → xA → Prop) (hW : xSys xL_X0_sample (xlk xfl0) (xlk xcl0) (xCt [(173, t_hold), (181, t_min), (87, t_faceIndex)]) (xRt (some .double) (fun vs aw' => vs = [.double Q] ∧ aw' = cW S)) WC) (x y px py : UInt64) (i j : Nat) (v1 : vf_n64 (FP.dsub x FP.dconst0)) (v2 : vf_n64 (FP.dsub y 4602678819172646912)) (hx : px = wiF (FP.dsub x FP.dconst0) (FP.i2d (nI 6))) (hy : py = wiF (FP.dsub y 4602678819172646912) (FP.i2d (nI 5))) (hi : (if nI 6 - nI 1 < FP.d2i px then nI 6 - nI 1 else FP.d2i px) = nI i) (hj : (if nI 5 - nI 1 < FP.d2i py then nI 5 - nI 1 else FP.d2i py) = nI j) (next : WC (xL_X0_sample.drop 32) [some (.ref 5), some (.double x), none, some (.double y), none, some (.double px), none, some (.double py), none, some (.int (nI i)), some (.int (nI j)), none, none, none, none, none, none] [] (cW S)) : WC (xL_X0_sample.drop 0) [some (.ref 5), some (.double x), none, some (.double y), none, none, none, none, none, none, none, none, none, none, none, none, none] [] (cW S) := by
  subst hx hy
  rw [← hi, ← hj] at next
  refine hW.1 (fun pc => Nat.beq pc 58) 300 0 _ _ _ ?_
  refine And.intro v1 (And.intro v2 ?_)
  exact next
set_option maxRecDepth 100000 in
set_option maxHeartbeats 4000000 in
theorem cs_b5 (S : cS) (Q : UInt64) (WC : xC → xO → List Value → xA → Prop) (hW : xSys xL_X0_sample (xlk xfl0) (xlk xcl0) (xCt [(173, t_hold), (181, t_min), (87, t_faceIndex)]) (xRt (some .double) (fun vs aw' => vs = [.double Q] ∧ aw' = cW S)) WC) (x y px py : UInt64) (i j : Nat) (f g : UInt64) (a b : Nat) (hf : f = FP.dsub px (FP.i2d (nI i))) (hg : g = FP.dsub py (FP.i2d (nI j))) (v1 : vf_n64 f) (v2 : vf_n64 g) (ha : a = 7 * j + i) (hb : b = a + 7) (next : WC (xL_X0_sample.drop 52) [some (.ref 5), some (.double x), none, some (.double y), none, some (.double px), none, some (.double py), none, some (.int (nI i)), some (.int (nI j)), some (.double f), none, some (.double g), none, some (.int (nI a)), some (.int (nI b))] [] (cW S)) : WC (xL_X0_sample.drop 32) [some (.ref 5), some (.double x), none, some (.double y), none, some (.double px), none, some (.double py), none, some (.int (nI i)), some (.int (nI j)), none, none, none, none, none, none] [] (cW S) := by
  subst hf hg
  have e1 : nI j * nI 7 + nI i = nI a := by rw [ha, pk_mul, nI_add, Nat.mul_comm]
  have e2 : (nI j + nI 1) * nI 7 + nI i = nI b := by rw [hb, ha, nI_add, pk_mul, nI_add]; congr 1; omega
  rw [← e1, ← e2] at next
  refine hW.1 (fun pc => Nat.beq pc 94) 300 32 _ _ _ ?_
  refine And.intro v1 (And.intro v2 ?_)
  exact next
set_option maxRecDepth 100000 in
set_option maxHeartbeats 4000000 in
theorem cs_c5 (S : cS) (Q : UInt64) (WC : xC → xO → List Value → xA → Prop) (hW : xSys xL_X0_sample (xlk xfl0) (xlk xcl0) (xCt [(173, t_hold), (181, t_min), (87, t_faceIndex)]) (xRt (some .double) (fun vs aw' => vs = [.double Q] ∧ aw' = cW S)) WC) (x y px py : UInt64) (i j : Nat) (f g : UInt64) (a b : Nat) (hb : b + 1 < 49) (ha : a + 1 < 49) (hQ : Q = mxF f g (cD S 23 a) (cD S 23 (a + 1)) (cD S 23 b) (cD S 23 (b + 1))) (v : mxO f g (cD S 23 a) (cD S 23 (a + 1)) (cD S 23 b) (cD S 23 (b + 1))) : WC (xL_X0_sample.drop 52) [some (.ref 5), some (.double x), none, some (.double y), none, some (.double px), none, some (.double py), none, some (.int (nI i)), some (.int (nI j)), some (.double f), none, some (.double g), none, some (.int (nI a)), some (.int (nI b))] [] (cW S) := by
  obtain ⟨v1, v2, v3, v4, v5, v6, v7, v8, v9, va, vb⟩ := v
  have ea : nI a + nI 1 = nI (a + 1) := nI_add a 1
  have eb : nI b + nI 1 = nI (b + 1) := nI_add b 1
  refine hW.1 (fun _ => false) 300 52 _ _ _ ?_
  refine And.intro v1 (And.intro v2 ?_)
  refine ⟨a, rfl, by omega, by decide, ?_⟩
  refine And.intro v3 ?_
  refine ⟨a + 1, ea, by omega, by decide, ?_⟩
  refine And.intro v4 (And.intro v5 (And.intro v6 (And.intro v2 ?_)))
  refine ⟨b, rfl, by omega, by decide, ?_⟩
  refine And.intro v7 ?_
  refine ⟨b + 1, eb, by omega, by decide, ?_⟩
  refine And.intro v8 (And.intro v9 (And.intro va (And.intro vb ?_)))
  exact And.intro (by rw [hQ]; rfl) rfl
theorem n_sample5 (S : cS) (x y : UInt64) (hok : cmOk (cD S 23) true x y) : xMet l yX0_sample cX0_sample 17 (some .double) 1 D ad cy [.ref 5, .double x, .double y] (cW S) (fun vs aw' => vs = [.double (cmF (cD S 23) true x y)] ∧ aw' = cW S) := by
  refine xmet (Fd := xlk xfl0) (Cn := xlk xcl0) (Cl := xCt [(173, t_hold), (181, t_min), (87, t_faceIndex)]) (by decide) xk_X0_sample xt_X0_sample ⟨_, _, rfl, rfl⟩ xpl0 (xEnt_ok (List.forall_mem_cons.mpr ⟨f_hold (by omega), List.forall_mem_cons.mpr ⟨f_min (own := RX0) (j := 90) (by decide +kernel) (by omega), List.forall_mem_cons.mpr ⟨f_faceIndex0 (by omega), fun q h => by cases h⟩⟩⟩)) (Nat.le_of_ble_eq_true rfl) (fun WC hW => ?_)
  obtain ⟨n1, n2, v1, v2, v3, v4, v5⟩ := hok
  have p1 := wi_pos (x) (show 6 < 100 by omega)
  have p2 := wi_pos (FP.dsub y 4602678819172646912) (show 5 < 100 by omega)
  have p1 : 0 ≤ (FP.d2i (spX true x)).toInt := p1
  have p2 : 0 ≤ (FP.d2i (spY true y)).toInt := p2
  have i1 : ixN 6 (spX true x) < 6 := (ixN_lt (by omega) (by omega) p1).1
  have i2 : ixN 5 (spY true y) < 5 := (ixN_lt (by omega) (by omega) p2).1
  refine cs_a5 S _ WC hW x y (spX true x) (spY true y) (ixN 6 (spX true x)) (ixN 5 (spY true y)) (by rw [ds0 n1]; exact n1) (v2 rfl) (by rw [ds0 n1]; rfl) rfl (mn_ix (by omega) (by omega) p1) (mn_ix (by omega) (by omega) p2) ?_
  refine cs_b5 S _ WC hW x y (spX true x) (spY true y) (ixN 6 (spX true x)) (ixN 5 (spY true y)) (sfr 6 (spX true x)) (sfr 5 (spY true y)) _ _ rfl rfl v3 v4 rfl rfl ?_
  exact cs_c5 S _ WC hW x y (spX true x) (spY true y) (ixN 6 (spX true x)) (ixN 5 (spY true y)) (sfr 6 (spX true x)) (sfr 5 (spY true y)) _ _ (by omega) (by omega) rfl v5
set_option maxRecDepth 100000 in
set_option maxHeartbeats 4000000 in
theorem cs_a6 (S : cS) (Q : UInt64) (WC : xC → xO → List Value → xA → Prop) (hW : xSys xL_X0_sample (xlk xfl0) (xlk xcl0) (xCt [(173, t_hold), (181, t_min), (87, t_faceIndex)]) (xRt (some .double) (fun vs aw' => vs = [.double Q] ∧ aw' = cW S)) WC) (x y px py : UInt64) (i j : Nat) (v1 : vf_n64 (FP.dsub x 4602678819172646912)) (v2 : vf_n64 (FP.dsub y FP.dconst0)) (hx : px = wiF (FP.dsub x 4602678819172646912) (FP.i2d (nI 5))) (hy : py = wiF (FP.dsub y FP.dconst0) (FP.i2d (nI 6))) (hi : (if nI 5 - nI 1 < FP.d2i px then nI 5 - nI 1 else FP.d2i px) = nI i) (hj : (if nI 6 - nI 1 < FP.d2i py then nI 6 - nI 1 else FP.d2i py) = nI j) (next : WC (xL_X0_sample.drop 32) [some (.ref 6), some (.double x), none, some (.double y), none, some (.double px), none, some (.double py), none, some (.int (nI i)), some (.int (nI j)), none, none, none, none, none, none] [] (cW S)) : WC (xL_X0_sample.drop 0) [some (.ref 6), some (.double x), none, some (.double y), none, none, none, none, none, none, none, none, none, none, none, none, none] [] (cW S) := by
  subst hx hy
  rw [← hi, ← hj] at next
  refine hW.1 (fun pc => Nat.beq pc 58) 300 0 _ _ _ ?_
  refine And.intro v1 (And.intro v2 ?_)
  exact next
set_option maxRecDepth 100000 in
set_option maxHeartbeats 4000000 in
theorem cs_b6 (S : cS) (Q : UInt64) (WC : xC → xO → List Value → xA → Prop) (hW : xSys xL_X0_sample (xlk xfl0) (xlk xcl0) (xCt [(173, t_hold), (181, t_min), (87, t_faceIndex)]) (xRt (some .double) (fun vs aw' => vs = [.double Q] ∧ aw' = cW S)) WC) (x y px py : UInt64) (i j : Nat) (f g : UInt64) (a b : Nat) (hf : f = FP.dsub px (FP.i2d (nI i))) (hg : g = FP.dsub py (FP.i2d (nI j))) (v1 : vf_n64 f) (v2 : vf_n64 g) (ha : a = 7 * j + i) (hb : b = a + 7) (next : WC (xL_X0_sample.drop 52) [some (.ref 6), some (.double x), none, some (.double y), none, some (.double px), none, some (.double py), none, some (.int (nI i)), some (.int (nI j)), some (.double f), none, some (.double g), none, some (.int (nI a)), some (.int (nI b))] [] (cW S)) : WC (xL_X0_sample.drop 32) [some (.ref 6), some (.double x), none, some (.double y), none, some (.double px), none, some (.double py), none, some (.int (nI i)), some (.int (nI j)), none, none, none, none, none, none] [] (cW S) := by
  subst hf hg
  have e1 : nI j * nI 7 + nI i = nI a := by rw [ha, pk_mul, nI_add, Nat.mul_comm]
  have e2 : (nI j + nI 1) * nI 7 + nI i = nI b := by rw [hb, ha, nI_add, pk_mul, nI_add]; congr 1; omega
  rw [← e1, ← e2] at next
  refine hW.1 (fun pc => Nat.beq pc 94) 300 32 _ _ _ ?_
  refine And.intro v1 (And.intro v2 ?_)
  exact next
set_option maxRecDepth 100000 in
set_option maxHeartbeats 4000000 in
theorem cs_c6 (S : cS) (Q : UInt64) (WC : xC → xO → List Value → xA → Prop) (hW : xSys xL_X0_sample (xlk xfl0) (xlk xcl0) (xCt [(173, t_hold), (181, t_min), (87, t_faceIndex)]) (xRt (some .double) (fun vs aw' => vs = [.double Q] ∧ aw' = cW S)) WC) (x y px py : UInt64) (i j : Nat) (f g : UInt64) (a b : Nat) (hb : b + 1 < 49) (ha : a + 1 < 49) (hQ : Q = mxF f g (cD S 24 a) (cD S 24 (a + 1)) (cD S 24 b) (cD S 24 (b + 1))) (v : mxO f g (cD S 24 a) (cD S 24 (a + 1)) (cD S 24 b) (cD S 24 (b + 1))) : WC (xL_X0_sample.drop 52) [some (.ref 6), some (.double x), none, some (.double y), none, some (.double px), none, some (.double py), none, some (.int (nI i)), some (.int (nI j)), some (.double f), none, some (.double g), none, some (.int (nI a)), some (.int (nI b))] [] (cW S) := by
  obtain ⟨v1, v2, v3, v4, v5, v6, v7, v8, v9, va, vb⟩ := v
  have ea : nI a + nI 1 = nI (a + 1) := nI_add a 1
  have eb : nI b + nI 1 = nI (b + 1) := nI_add b 1
  refine hW.1 (fun _ => false) 300 52 _ _ _ ?_
  refine And.intro v1 (And.intro v2 ?_)
  refine ⟨a, rfl, by omega, by decide, ?_⟩
  refine And.intro v3 ?_
  refine ⟨a + 1, ea, by omega, by decide, ?_⟩
  refine And.intro v4 (And.intro v5 (And.intro v6 (And.intro v2 ?_)))
  refine ⟨b, rfl, by omega, by decide, ?_⟩
  refine And.intro v7 ?_
  refine ⟨b + 1, eb, by omega, by decide, ?_⟩
  refine And.intro v8 (And.intro v9 (And.intro va (And.intro vb ?_)))
  exact And.intro (by rw [hQ]; rfl) rfl
theorem n_sample6 (S : cS) (x y : UInt64) (hok : cmOk (cD S 24) false x y) : xMet l yX0_sample cX0_sample 17 (some .double) 1 D ad cy [.ref 6, .double x, .double y] (cW S) (fun vs aw' => vs = [.double (cmF (cD S 24) false x y)] ∧ aw' = cW S) := by
  refine xmet (Fd := xlk xfl0) (Cn := xlk xcl0) (Cl := xCt [(173, t_hold), (181, t_min), (87, t_faceIndex)]) (by decide) xk_X0_sample xt_X0_sample ⟨_, _, rfl, rfl⟩ xpl0 (xEnt_ok (List.forall_mem_cons.mpr ⟨f_hold (by omega), List.forall_mem_cons.mpr ⟨f_min (own := RX0) (j := 90) (by decide +kernel) (by omega), List.forall_mem_cons.mpr ⟨f_faceIndex0 (by omega), fun q h => by cases h⟩⟩⟩)) (Nat.le_of_ble_eq_true rfl) (fun WC hW => ?_)
  obtain ⟨n1, n2, v1, v2, v3, v4, v5⟩ := hok
  have p1 := wi_pos (FP.dsub x 4602678819172646912) (show 5 < 100 by omega)
  have p2 := wi_pos (y) (show 6 < 100 by omega)
  have p1 : 0 ≤ (FP.d2i (spX false x)).toInt := p1
  have p2 : 0 ≤ (FP.d2i (spY false y)).toInt := p2
  have i1 : ixN 5 (spX false x) < 5 := (ixN_lt (by omega) (by omega) p1).1
  have i2 : ixN 6 (spY false y) < 6 := (ixN_lt (by omega) (by omega) p2).1
  refine cs_a6 S _ WC hW x y (spX false x) (spY false y) (ixN 5 (spX false x)) (ixN 6 (spY false y)) (v1 rfl) (by rw [ds0 n2]; exact n2) rfl (by rw [ds0 n2]; rfl) (mn_ix (by omega) (by omega) p1) (mn_ix (by omega) (by omega) p2) ?_
  refine cs_b6 S _ WC hW x y (spX false x) (spY false y) (ixN 5 (spX false x)) (ixN 6 (spY false y)) (sfr 5 (spX false x)) (sfr 6 (spY false y)) _ _ rfl rfl v3 v4 rfl rfl ?_
  exact cs_c6 S _ WC hW x y (spX false x) (spY false y) (ixN 5 (spX false x)) (ixN 6 (spY false y)) (sfr 5 (spX false x)) (sfr 6 (spY false y)) _ _ (by omega) (by omega) rfl v5
end C15
