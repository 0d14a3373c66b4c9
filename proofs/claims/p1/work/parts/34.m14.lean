/-! the reference: sample -/
def sW (u : Bool) : Nat := if u then 6 else 5
def spX (u : Bool) (x : UInt64) : UInt64 := wiF (if u then x else FP.dsub x 4602678819172646912) (FP.i2d (nI (sW u)))
def spY (u : Bool) (y : UInt64) : UInt64 := wiF (if u then FP.dsub y 4602678819172646912 else y) (FP.i2d (nI (sW (!u))))
def ixN (w : Nat) (g : UInt64) : Nat := if nI w ≤ FP.d2i g then w - 1 else (FP.d2i g).toNatClampNeg
def sfr (w : Nat) (g : UInt64) : UInt64 := FP.dsub g (FP.i2d (nI (ixN w g)))
def sAt (u : Bool) (i j : Nat) : Nat := (if u then 0 else 42) + (sW u + 1) * j + i
/-- four numbers mixed by f and g -/
def mxX (f a b : UInt64) : UInt64 := FP.dadd (FP.dmul (FP.dsub FP.dconst1 f) a) (FP.dmul f b)
def mxF (f g a b c d : UInt64) : UInt64 := FP.dadd (FP.dmul (FP.dsub FP.dconst1 g) (mxX f a b)) (FP.dmul g (mxX f c d))
def mxO (f g a b c d : UInt64) : Prop := vf_n64 (FP.dsub FP.dconst1 g) ∧ vf_n64 (FP.dsub FP.dconst1 f) ∧ vf_n64 (FP.dmul (FP.dsub FP.dconst1 f) a) ∧ vf_n64 (FP.dmul f b) ∧ vf_n64 (mxX f a b) ∧ vf_n64 (FP.dmul (FP.dsub FP.dconst1 g) (mxX f a b)) ∧ vf_n64 (FP.dmul (FP.dsub FP.dconst1 f) c) ∧ vf_n64 (FP.dmul f d) ∧ vf_n64 (mxX f c d) ∧ vf_n64 (FP.dmul g (mxX f c d)) ∧ vf_n64 (mxF f g a b c d)
/-- a row of faces, sampled at (x, y) -/
def smF (A : Nat → UInt64) (u : Bool) (x y : UInt64) : UInt64 :=
  let a := sAt u (ixN (sW u) (spX u x)) (ixN (sW (!u)) (spY u y))
  mxF (sfr (sW u) (spX u x)) (sfr (sW (!u)) (spY u y)) (A a) (A (a + 1)) (A (a + sW u + 1)) (A (a + sW u + 1 + 1))
def smOk (A : Nat → UInt64) (u : Bool) (x y : UInt64) : Prop := (u = false → vf_n64 (FP.dsub x 4602678819172646912)) ∧ (u = true → vf_n64 (FP.dsub y 4602678819172646912)) ∧ vf_n64 (sfr (sW u) (spX u x)) ∧ vf_n64 (sfr (sW (!u)) (spY u y)) ∧
  mxO (sfr (sW u) (spX u x)) (sfr (sW (!u)) (spY u y)) (A (sAt u (ixN (sW u) (spX u x)) (ixN (sW (!u)) (spY u y)))) (A (sAt u (ixN (sW u) (spX u x)) (ixN (sW (!u)) (spY u y)) + 1)) (A (sAt u (ixN (sW u) (spX u x)) (ixN (sW (!u)) (spY u y)) + sW u + 1)) (A (sAt u (ixN (sW u) (spX u x)) (ixN (sW (!u)) (spY u y)) + sW u + 1 + 1))
theorem wi_pos (x : UInt64) {w : Nat} (hw : w < 100) : 0 ≤ (FP.d2i (wiF x (FP.i2d (nI w)))).toInt := by
  unfold wiF
  by_cases h1 : 0 ≤ cvd x FP.dconst0 .g
  · rw [if_pos h1]
    by_cases h2 : cvd x (FP.i2d (nI w)) .l ≤ 0
    · rw [if_pos h2]
      by_cases hn : FP.Core.val64 x = .nan
      · show 0 ≤ (Int32.ofInt (FP.Core.toInt (-2 ^ 31) (2 ^ 31 - 1) (FP.Core.val64 x))).toInt
        rw [hn]
        decide
      · have h3 : FP.dcmp x FP.dconst0 = some .gt ∨ FP.dcmp x FP.dconst0 = some .eq := by
          unfold cvd at h1
          cases ho : FP.dcmp x FP.dconst0 with
          | none =>
            rcases (FP.Core.dcmp_none x FP.dconst0).mp ho with h | h
            · exact absurd h hn
            · exact absurd h (by decide +kernel)
          | some o =>
            rw [ho] at h1
            cases o with
            | lt => exact absurd h1 (by decide)
            | eq => exact Or.inr rfl
            | gt => exact Or.inl rfl
        obtain ⟨-, -, z⟩ := FP.Core.dcmp_ge.mp h3
        have e1 : FP.Core.zval FP.Core.b64 (FP.Core.val64 FP.dconst0) = 0 := by decide +kernel
        rw [e1] at z
        rw [show FP.d2i x = FP.Core.d2i x from rfl, FP.Core.d2i_val hn]
        unfold FP.Core.zval at z
        generalize FP.Core.zmag FP.Core.b64 (FP.Core.val64 x) = m at z ⊢
        have hp : 0 < FP.Core.one64 := by decide +kernel
        generalize FP.Core.one64 = P at hp ⊢
        cases hs : FP.Core.sgn (FP.Core.val64 x) with
        | true =>
          rw [hs] at z
          have z : (0 : Int) ≤ -(m : Int) := z
          have hm : m = 0 := by omega
          subst hm
          rw [Nat.zero_div]
          decide
        | false =>
          show 0 ≤ max (-2 ^ 31) (min (2 ^ 31 - 1) ((m / P : Nat) : Int))
          generalize m / P = q
          omega
    · rw [if_neg h2, show FP.d2i (FP.i2d (nI w)) = nI w from FP.Core.d2i_i2d _, nI_toInt (by omega)]
      omega
  · rw [if_neg h1]
    decide +kernel
theorem ixN_lt {w : Nat} {g : UInt64} (hw : 0 < w) (hw2 : w < 100) (hg : 0 ≤ (FP.d2i g).toInt) : ixN w g < w ∧ (¬ nI w ≤ FP.d2i g → FP.d2i g = nI (ixN w g)) := by
  unfold ixN
  by_cases h : nI w ≤ FP.d2i g
  · rw [if_pos h]; exact ⟨by omega, fun z => absurd h z⟩
  · rw [if_neg h]
    have h2 : (FP.d2i g).toInt < w := by
      rw [Int32.le_iff_toInt_le, nI_toInt (by omega)] at h
      omega
    have e : (FP.d2i g).toNatClampNeg = (FP.d2i g).toInt.toNat := rfl
    refine ⟨by omega, fun _ => Int32.toInt.inj ?_⟩
    rw [nI_toInt (by omega)]
    omega
section M14
variable {l : Launch} {D : va_G} {ad : Nat → Nat} {cy : Nat → ClassId}
set_option maxRecDepth 100000 in
set_option maxHeartbeats 4000000 in
theorem sm_a (S : mS) (Q : UInt64) (WC : xC → xO → List Value → xA → Prop) (hW : xSys xL_X5_sample (xlk xfl5) (xlk xcl5) (xCt [(309, s_within)]) (xRt (some .double) (fun vs aw' => vs = [.double Q] ∧ aw' = mW S)) WC) (o u : Bool) (x y px py : UInt64) (hx : px = spX u x) (hy : py = spY u y) (v1 : u = false → vf_n64 (FP.dsub x 4602678819172646912)) (v2 : u = true → vf_n64 (FP.dsub y 4602678819172646912)) (next : WC (xL_X5_sample.drop 34) [some (.ref 0), some (.int (xb o)), some (.int (xb u)), some (.double x), none, some (.double y), none, some (.int (nI (sW u))), some (.int (nI (sW (!u)))), some (.double px), none, some (.double py), none, none, none, none, none, none, none, none, none, none, none, none, none, none, none, none, none] [] (mW S)) : WC (xL_X5_sample.drop 0) [some (.ref 0), some (.int (xb o)), some (.int (xb u)), some (.double x), none, some (.double y), none, none, none, none, none, none, none, none, none, none, none, none, none, none, none, none, none, none, none, none, none, none, none] [] (mW S) := by
  cases u with
  | true =>
    refine hW.1 (fun pc => Nat.beq pc 68) 300 0 _ _ _ ?_
    refine And.intro (fun h => absurd h (by decide)) (fun _ => ?_)
    refine And.intro (fun h => absurd h (by decide)) (fun _ => ?_)
    refine And.intro (fun h => absurd h (by decide)) (fun _ => ?_)
    refine And.intro (fun h => absurd h (by decide)) (fun _ => ?_)
    refine And.intro (v2 rfl) ?_
    rw [hx, hy] at next
    exact next
  | false =>
    refine hW.1 (fun pc => Nat.beq pc 68) 300 0 _ _ _ ?_
    refine And.intro (fun _ => ?_) (fun h => absurd (by decide) h)
    refine And.intro (fun _ => ?_) (fun h => absurd (by decide) h)
    refine And.intro (fun _ => ?_) (fun h => absurd (by decide) h)
    refine And.intro (v1 rfl) ?_
    refine And.intro (fun _ => ?_) (fun h => absurd (by decide) h)
    rw [hx, hy] at next
    exact next
set_option maxRecDepth 100000 in
set_option maxHeartbeats 4000000 in
theorem sm_b (S : mS) (Q : UInt64) (WC : xC → xO → List Value → xA → Prop) (hW : xSys xL_X5_sample (xlk xfl5) (xlk xcl5) (xCt [(309, s_within)]) (xRt (some .double) (fun vs aw' => vs = [.double Q] ∧ aw' = mW S)) WC) (o u : Bool) (x y px py : UInt64) (w h : Nat) (hw : 0 < w) (hw2 : w < 100) (hpx : 0 ≤ (FP.d2i px).toInt) (next : WC (xL_X5_sample.drop 45) [some (.ref 0), some (.int (xb o)), some (.int (xb u)), some (.double x), none, some (.double y), none, some (.int (nI w)), some (.int (nI h)), some (.double px), none, some (.double py), none, some (.int (nI (ixN w px))), none, none, none, none, none, none, none, none, none, none, none, none, none, none, none] [] (mW S)) : WC (xL_X5_sample.drop 34) [some (.ref 0), some (.int (xb o)), some (.int (xb u)), some (.double x), none, some (.double y), none, some (.int (nI w)), some (.int (nI h)), some (.double px), none, some (.double py), none, none, none, none, none, none, none, none, none, none, none, none, none, none, none, none, none] [] (mW S) := by
  obtain ⟨a1, a2⟩ := ixN_lt hw hw2 hpx
  refine hW.1 (fun pc => Nat.beq pc 88) 300 34 _ _ _ ?_
  refine And.intro (fun h1 => ?_) (fun h1 => ?_)
  · have e : nI w - nI 1 = nI (ixN w px) := by unfold ixN; rw [if_pos h1]; exact pk_sub (by omega)
    rw [← e] at next
    exact next
  · rw [← a2 h1] at next
    exact next
set_option maxRecDepth 100000 in
set_option maxHeartbeats 4000000 in
theorem sm_b2 (S : mS) (Q : UInt64) (WC : xC → xO → List Value → xA → Prop) (hW : xSys xL_X5_sample (xlk xfl5) (xlk xcl5) (xCt [(309, s_within)]) (xRt (some .double) (fun vs aw' => vs = [.double Q] ∧ aw' = mW S)) WC) (o u : Bool) (x y px py : UInt64) (w h : Nat) (hw : 0 < h) (hw2 : h < 100) (hpy : 0 ≤ (FP.d2i py).toInt) (next : WC (xL_X5_sample.drop 56) [some (.ref 0), some (.int (xb o)), some (.int (xb u)), some (.double x), none, some (.double y), none, some (.int (nI w)), some (.int (nI h)), some (.double px), none, some (.double py), none, some (.int (nI (ixN w px))), some (.int (nI (ixN h py))), none, none, none, none, none, none, none, none, none, none, none, none, none, none] [] (mW S)) : WC (xL_X5_sample.drop 45) [some (.ref 0), some (.int (xb o)), some (.int (xb u)), some (.double x), none, some (.double y), none, some (.int (nI w)), some (.int (nI h)), some (.double px), none, some (.double py), none, some (.int (nI (ixN w px))), none, none, none, none, none, none, none, none, none, none, none, none, none, none, none] [] (mW S) := by
  obtain ⟨a1, a2⟩ := ixN_lt hw hw2 hpy
  refine hW.1 (fun pc => Nat.beq pc 108) 300 45 _ _ _ ?_
  refine And.intro (fun h1 => ?_) (fun h1 => ?_)
  · have e : nI h - nI 1 = nI (ixN h py) := by unfold ixN; rw [if_pos h1]; exact pk_sub (by omega)
    rw [← e] at next
    exact next
  · rw [← a2 h1] at next
    exact next
set_option maxRecDepth 100000 in
set_option maxHeartbeats 4000000 in
theorem sm_c (S : mS) (Q : UInt64) (WC : xC → xO → List Value → xA → Prop) (hW : xSys xL_X5_sample (xlk xfl5) (xlk xcl5) (xCt [(309, s_within)]) (xRt (some .double) (fun vs aw' => vs = [.double Q] ∧ aw' = mW S)) WC) (o u : Bool) (x y px py : UInt64) (i j : Nat) (f g : UInt64) (hf : f = FP.dsub px (FP.i2d (nI i))) (hg : g = FP.dsub py (FP.i2d (nI j))) (v1 : vf_n64 f) (v2 : vf_n64 g) (a : Nat) (ha : a = sAt u i j) (next : WC (xL_X5_sample.drop 86) [some (.ref 0), some (.int (xb o)), some (.int (xb u)), some (.double x), none, some (.double y), none, some (.int (nI (sW u))), some (.int (nI (sW (!u)))), some (.double px), none, some (.double py), none, some (.int (nI i)), some (.int (nI j)), some (.double f), none, some (.double g), none, some (.int (nI a)), some (.int (nI (a + sW u + 1))), none, none, none, none, none, none, none, none] [] (mW S)) : WC (xL_X5_sample.drop 56) [some (.ref 0), some (.int (xb o)), some (.int (xb u)), some (.double x), none, some (.double y), none, some (.int (nI (sW u))), some (.int (nI (sW (!u)))), some (.double px), none, some (.double py), none, some (.int (nI i)), some (.int (nI j)), none, none, none, none, none, none, none, none, none, none, none, none, none, none] [] (mW S) := by
  subst hf hg
  cases u with
  | true =>
    refine hW.1 (fun pc => Nat.beq pc 156) 300 56 _ _ _ ?_
    refine And.intro v1 (And.intro v2 ?_)
    refine And.intro (fun h => absurd h (by decide)) (fun _ => ?_)
    have e1 : nI 0 + (nI 6 + nI 1) * nI j + nI i = nI a := by rw [ha, nI_add, pk_mul, nI_add, nI_add]; rfl
    have e2 : nI a + nI 6 + nI 1 = nI (a + sW true + 1) := by rw [nI_add, nI_add]; rfl
    rw [← e2, ← e1] at next
    exact next
  | false =>
    refine hW.1 (fun pc => Nat.beq pc 156) 300 56 _ _ _ ?_
    refine And.intro v1 (And.intro v2 ?_)
    refine And.intro (fun _ => ?_) (fun h => absurd (by decide) h)
    have e1 : nI 42 + (nI 5 + nI 1) * nI j + nI i = nI a := by rw [ha, nI_add, pk_mul, nI_add, nI_add]; rfl
    have e2 : nI a + nI 5 + nI 1 = nI (a + sW false + 1) := by rw [nI_add, nI_add]; rfl
    rw [← e2, ← e1] at next
    exact next
set_option maxRecDepth 100000 in
set_option maxHeartbeats 4000000 in
theorem sm_d (S : mS) (Q : UInt64) (WC : xC → xO → List Value → xA → Prop) (hW : xSys xL_X5_sample (xlk xfl5) (xlk xcl5) (xCt [(309, s_within)]) (xRt (some .double) (fun vs aw' => vs = [.double Q] ∧ aw' = mW S)) WC) (o u : Bool) (x y px py : UInt64) (i j : Nat) (f g : UInt64) (a : Nat) (b : Nat) (hb : b = a + sW u + 1) (h84 : b + 1 < 84) (w0 w1 w2 w3 : UInt64) (A : Nat → UInt64) (hA : A = if o then mD S 12 else mD S 13) (k0 : w0 = A a) (k1 : w1 = A (a + 1)) (k2 : w2 = A b) (k3 : w3 = A (b + 1)) (next : WC (xL_X5_sample.drop 142) [some (.ref 0), some (.int (xb o)), some (.int (xb u)), some (.double x), none, some (.double y), none, some (.int (nI (sW u))), some (.int (nI (sW (!u)))), some (.double px), none, some (.double py), none, some (.int (nI i)), some (.int (nI j)), some (.double f), none, some (.double g), none, some (.int (nI a)), some (.int (nI b)), some (.double w0), none, some (.double w1), none, some (.double w2), none, some (.double w3), none] [] (mW S)) : WC (xL_X5_sample.drop 86) [some (.ref 0), some (.int (xb o)), some (.int (xb u)), some (.double x), none, some (.double y), none, some (.int (nI (sW u))), some (.int (nI (sW (!u)))), some (.double px), none, some (.double py), none, some (.int (nI i)), some (.int (nI j)), some (.double f), none, some (.double g), none, some (.int (nI a)), some (.int (nI b)), none, none, none, none, none, none, none, none] [] (mW S) := by
  have ea : nI a + nI 1 = nI (a + 1) := nI_add a 1
  have eb : nI b + nI 1 = nI (b + 1) := nI_add b 1
  cases o with
  | true =>
    have hA : A = mD S 12 := hA
    subst hA k0 k1 k2 k3
    refine hW.1 (fun pc => Nat.beq pc 256) 300 86 _ _ _ ?_
    refine And.intro (fun h => absurd h (by decide)) (fun _ => ?_)
    refine ⟨a, rfl, by omega, by decide, ?_⟩
    refine And.intro (fun h => absurd h (by decide)) (fun _ => ?_)
    refine ⟨a + 1, ea, by omega, by decide, ?_⟩
    refine And.intro (fun h => absurd h (by decide)) (fun _ => ?_)
    refine ⟨b, rfl, by omega, by decide, ?_⟩
    refine And.intro (fun h => absurd h (by decide)) (fun _ => ?_)
    refine ⟨b + 1, eb, by omega, by decide, ?_⟩
    exact next
  | false =>
    have hA : A = mD S 13 := hA
    subst hA k0 k1 k2 k3
    refine hW.1 (fun pc => Nat.beq pc 256) 300 86 _ _ _ ?_
    refine And.intro (fun _ => ?_) (fun h => absurd (by decide) h)
    refine ⟨a, rfl, by omega, by decide, ?_⟩
    refine And.intro (fun _ => ?_) (fun h => absurd (by decide) h)
    refine ⟨a + 1, ea, by omega, by decide, ?_⟩
    refine And.intro (fun _ => ?_) (fun h => absurd (by decide) h)
    refine ⟨b, rfl, by omega, by decide, ?_⟩
    refine And.intro (fun _ => ?_) (fun h => absurd (by decide) h)
    refine ⟨b + 1, eb, by omega, by decide, ?_⟩
    exact next
set_option maxRecDepth 100000 in
set_option maxHeartbeats 4000000 in
theorem sm_e (S : mS) (Q : UInt64) (WC : xC → xO → List Value → xA → Prop) (hW : xSys xL_X5_sample (xlk xfl5) (xlk xcl5) (xCt [(309, s_within)]) (xRt (some .double) (fun vs aw' => vs = [.double Q] ∧ aw' = mW S)) WC) (o u : Bool) (x y px py : UInt64) (i j : Nat) (f g : UInt64) (a b : Nat) (w0 w1 w2 w3 : UInt64) (hQ : Q = mxF f g w0 w1 w2 w3) (v : mxO f g w0 w1 w2 w3) : WC (xL_X5_sample.drop 142) [some (.ref 0), some (.int (xb o)), some (.int (xb u)), some (.double x), none, some (.double y), none, some (.int (nI (sW u))), some (.int (nI (sW (!u)))), some (.double px), none, some (.double py), none, some (.int (nI i)), some (.int (nI j)), some (.double f), none, some (.double g), none, some (.int (nI a)), some (.int (nI b)), some (.double w0), none, some (.double w1), none, some (.double w2), none, some (.double w3), none] [] (mW S) := by
  obtain ⟨v1, v2, v3, v4, v5, v6, v7, v8, v9, va, vb⟩ := v
  refine hW.1 (fun _ => false) 300 142 _ _ _ ?_
  refine And.intro v1 (And.intro v2 (And.intro v3 (And.intro v4 (And.intro v5 (And.intro v6 (And.intro v2 (And.intro v7 (And.intro v8 (And.intro v9 (And.intro va (And.intro vb ?_)))))))))))
  exact And.intro (by rw [hQ]; rfl) rfl
theorem m_sample (S : mS) (o u : Bool) (x y : UInt64) (hok : smOk (if o then mD S 12 else mD S 13) u x y) : xMet l yX5_sample cX5_sample 29 (some .double) 1 D ad cy [.ref 0, .int (xb o), .int (xb u), .double x, .double y] (mW S) (fun vs aw' => vs = [.double (smF (if o then mD S 12 else mD S 13) u x y)] ∧ aw' = mW S) := by
  refine xmet (Fd := xlk xfl5) (Cn := xlk xcl5) (Cl := xCt [(309, s_within)]) (by decide) xk_X5_sample xt_X5_sample ⟨_, _, rfl, rfl⟩ xpl5 (xEnt_ok (List.forall_mem_cons.mpr ⟨e_within (by omega), fun q h => by cases h⟩)) (Nat.le_of_ble_eq_true rfl) (fun WC hW => ?_)
  generalize hA : (if o then mD S 12 else mD S 13) = A at hok hW
  obtain ⟨v1, v2, v3, v4, v5⟩ := hok
  have w1 : 0 < sW u := by unfold sW; split <;> omega
  have w2 : 0 < sW (!u) := by unfold sW; split <;> omega
  have w3 : sW u < 7 := by unfold sW; split <;> omega
  have w4 : sW (!u) < 7 := by unfold sW; split <;> omega
  have p1 := wi_pos (if u then x else FP.dsub x 4602678819172646912) (show sW u < 100 by omega)
  have p2 := wi_pos (if u then FP.dsub y 4602678819172646912 else y) (show sW (!u) < 100 by omega)
  have i1 := (ixN_lt w1 (by omega) p1).1
  have i2 := (ixN_lt w2 (by omega) p2).1
  refine sm_a S _ WC hW o u x y (spX u x) (spY u y) rfl rfl v1 v2 ?_
  refine sm_b S _ WC hW o u x y (spX u x) (spY u y) (sW u) (sW (!u)) w1 (by omega) p1 ?_
  refine sm_b2 S _ WC hW o u x y (spX u x) (spY u y) (sW u) (sW (!u)) w2 (by omega) p2 ?_
  refine sm_c S _ WC hW o u x y (spX u x) (spY u y) (ixN (sW u) (spX u x)) (ixN (sW (!u)) (spY u y)) (sfr (sW u) (spX u x)) (sfr (sW (!u)) (spY u y)) rfl rfl v3 v4 _ rfl ?_
  have h84 : sAt u (ixN (sW u) (spX u x)) (ixN (sW (!u)) (spY u y)) + sW u + 1 + 1 < 84 := by
    have i1 : ixN (sW u) (spX u x) < sW u := i1
    have i2 : ixN (sW (!u)) (spY u y) < sW (!u) := i2
    generalize ixN (sW u) (spX u x) = i at i1 ⊢
    generalize ixN (sW (!u)) (spY u y) = j at i2 ⊢
    cases u with
    | true =>
      have i1 : i < 6 := i1
      have i2 : j < 5 := i2
      show 0 + 7 * j + i + 6 + 1 + 1 < 84
      omega
    | false =>
      have i1 : i < 5 := i1
      have i2 : j < 6 := i2
      show 42 + 6 * j + i + 5 + 1 + 1 < 84
      omega
  refine sm_d S _ WC hW o u x y (spX u x) (spY u y) (ixN (sW u) (spX u x)) (ixN (sW (!u)) (spY u y)) (sfr (sW u) (spX u x)) (sfr (sW (!u)) (spY u y)) _ _ rfl h84 _ _ _ _ A hA.symm rfl rfl rfl rfl ?_
  exact sm_e S _ WC hW o u x y (spX u x) (spY u y) (ixN (sW u) (spX u x)) (ixN (sW (!u)) (spY u y)) (sfr (sW u) (spX u x)) (sfr (sW (!u)) (spY u y)) _ _ _ _ _ _ rfl v5
def s_sample (st : List Value) (aw : xA) (k : List Value → xA → Prop) : Prop := match st with
  | .double y :: .double x :: .int c :: .int b :: .ref 0 :: st => match xsm st with
    | true => ∃ (S : mS) (o u : Bool), aw = mW S ∧ b = xb o ∧ c = xb u ∧ smOk (if o then mD S 12 else mD S 13) u x y ∧ k (.double (smF (if o then mD S 12 else mD S 13) u x y) :: st) (mW S)
    | false => False
  | _ => False
theorem e_sample {d : Nat} (hd : 3 ≤ d) : xEnt l d D ad cy RX5 316 s_sample := xEnt_V (y' := yX5_sample) (cc' := cX5_sample) (n' := 29) (ret' := some .double) (d' := 1) (j := 158) 4 (by decide +kernel) (by decide +kernel) (by omega) (fun st aw k h => by
  match st, h with
  | .double y :: .double x :: .int c :: .int b :: .ref 0 :: st, h =>
    cases hs : xsm st with
    | false => simp only [s_sample, hs] at h
    | true =>
      simp only [s_sample, hs] at h
      obtain ⟨S, o, u, rfl, rfl, rfl, hok, h2⟩ := h
      exact ⟨[.int (xb o), .int (xb u), .double x, .double y], st, _, 0, 5, _, rfl, rfl, hs, rfl, ⟨_, rfl, rfl⟩, m_sample S o u x y hok, fun vs aw' h9 => by obtain ⟨rfl, rfl⟩ := h9; exact h2⟩)
end M14
