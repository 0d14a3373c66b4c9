/-! all rounds: no NaN, and how large p becomes -/
abbrev SvI (tk : Nat → Int32) (dg mk : Nat → UInt64) (dn : Nat → Nat) (r s : Nat → UInt64) (now : UInt64) (k : Nat) : Prop := (∀ c, c < 36 → fn (r c) ∧ (tk c = 0 → rv (r c) = 0)) ∧ (∀ c, c < 36 → fn (s c) ∧ (tk c = 0 → rv (s c) = 0)) ∧ fn now ∧ ∃ B H G V, Iv (eC tk) (fun c => (dn c : Rat)) (omC tk dg mk) (tC tk) (rR tk r) (rR tk s) (rv now) B H G V (k : Rat) ∧ 1 / 2 ^ 68 ≤ B ∧ Ph B H G k
theorem num_p {m x p p2 k : Rat} (h1 : ab (m - x) ≤ uu * ab x + tt) (hx : ab x ≤ 1025 * 2 ^ 90) (h2 : ab (p2 - (p + m)) ≤ uu * ab (p + m) + tt) (hp : ab p ≤ k * 2 ^ 101) (hk0 : 0 ≤ k) (hk : k ≤ 41) : ab p2 ≤ (k + 1) * 2 ^ 101 := by
  have w1 := ab_add (m - x) x
  rw [show m - x + x = m by grind] at w1
  have w2 := ab_add p m
  have w3 := ab_add (p2 - (p + m)) (p + m)
  rw [show p2 - (p + m) + (p + m) = p2 by grind] at w3
  have t1 := tt_u
  unfold uu at *
  grind
theorem num_px {al s : Rat} (h1 : ab al ≤ 1025) (h2 : ab s ≤ 2 ^ 90) : ab (al * s) ≤ 1025 * 2 ^ 90 := by
  rw [ab_mul]
  exact mul_le2 h1 h2 (ab_nn _) (by decide +kernel)
theorem num_pm {m x : Rat} (h : ab m ≤ 2 * ab x + 1) (hx : ab x ≤ 1025 * 2 ^ 90) : ab m ≤ 2 ^ 240 := by grind
theorem num_pk {p k : Rat} (h : ab p ≤ k * 2 ^ 101) (hk : k ≤ 41) : ab p ≤ 2 ^ 107 := by grind
theorem num_c2 {c2 Z : Rat} (h : ab (c2 - Z) ≤ 1 / 2 ^ 19 * Z) (h0 : 1 / 2 ^ 63 ≤ Z) : 0 ≤ c2 := by
  have := ab_le.mp h
  grind
theorem rnd_1 {S : mS} {dn : Nat → Nat} {now : UInt64} {k : Nat} (hD : DgH (mA S 11) (mD S 14) dn) (hM : MkH (mA S 11) (mD S 15)) (hS : Sys (eC (mA S 11)) (fun c => (dn c : Rat)) (omC (mA S 11) (mD S 14) (mD S 15)) (tC (mA S 11))) {er : Nat → Rat} {rk : Nat → Nat} (hK : Mak (eC (mA S 11)) (fun c => (dn c : Rat)) (omC (mA S 11) (mD S 14) (mD S 15)) (tC (mA S 11)) (dC (mA S 11) (mD S 15)) er rk) (hl : ∃ k, k ≤ 30 ∧ mD S 6 0 = hv k) (hk1 : 1 ≤ k) (hk : k ≤ 40) (hp : ∀ c, c < 36 → fn (mD S 16 c) ∧ ab (rv (mD S 16 c)) ≤ (k : Rat) * 2 ^ 101) (hI : SvI (mA S 11) (mD S 14) (mD S 15) dn (mD S 17) (mD S 19) now k) :
    tmOk (mD S 14) (mD S 19) (mA S 11) ∧ prOk (mD (tmS S) 18) (mD (tmS S) 19) ∧ vf_n64 (FP.dmul now 4562146422526312448) ∧
      (0 < cvd (dotZS (tmS S)) (FP.dmul now 4562146422526312448) .l → vf_n64 (FP.ddiv now (dotZS (tmS S))) ∧ avOk (tmS S) (FP.ddiv now (dotZS (tmS S))) ∧ rsOk (svA S now) ∧ (∀ c, c < 36 → fn (mD (svA S now) 16 c) ∧ ab (rv (mD (svA S now) 16 c)) ≤ ((k + 1 : Nat) : Rat) * 2 ^ 101 ∧ fn (mD (svA S now) 17 c)) ∧
        (0 < cvd (rsF (mD (svA S now) 17) 36) (mD S 6 0) .g →
          mzOk (svA S now) ∧ prOk (mD (svZ S now) 18) (mD (svZ S now) 17) ∧ vf_n64 (FP.ddiv (dotZR (svZ S now)) now) ∧
          tuOk (svZ S now) (FP.ddiv (dotZR (svZ S now)) now) ∧
          (k ≤ 39 → SvI (mA S 11) (mD S 14) (mD S 15) dn (mD (svT S now) 17) (mD (svT S now) 19) (dotZR (svZ S now)) (k + 1)))) := by
  obtain ⟨r0, s0, hn, B, H, G, V, hIv, hBl, hP⟩ := hI
  have hd4 : ∀ c, c < 36 → (fun c => (dn c : Rat)) c ≤ 4 := fun c hc => nat_rat (hD.1 c hc).2
  have hs : rowOk (mA S 11) (mD S 19) (2 ^ 90) := fun c hc => ⟨(s0 c hc).1, by
    rw [← rR_in (fun c hc => (s0 c hc).2) hc]
    exact iv_s hS hK hd4 hIv hk hBl hP hc, (s0 c hc).2⟩
  have hr : rowOk (mA S 11) (mD S 17) (2 ^ 10) := fun c hc => ⟨(r0 c hc).1, by
    rw [← rR_in (fun c hc => (r0 c hc).2) hc]
    exact iv_r hS hK hd4 hIv hk hBl hP hc, (r0 c hc).2⟩
  have n1 : 1 / 2 ^ 66 ≤ rv now := hIv.2.2.2.2.2.2.1
  have n2 : rv now ≤ 2 ^ 40 := hIv.2.2.2.2.2.2.2.1
  obtain ⟨t1, t2, -, -⟩ := tm_res hD hs
  have hq : ∀ c, c < 36 → mD (tmS S) 18 c = tmG (mD S 14) (mD S 19) (mA S 11) c := fun c hc => fil_in _ _ hc
  have q110 : ∀ c, c < 36 → fn (mD (tmS S) 18 c) ∧ ab (rv (mD (tmS S) 18 c)) ≤ 2 ^ 110 := fun c hc => by
    rw [hq c hc]
    exact ⟨(t2 c hc).1, Rat.le_trans (t2 c hc).2.1 (by decide +kernel)⟩
  have e19 : mD (tmS S) 19 = mD S 19 := rfl
  refine ⟨t1, by rw [e19]; exact pr_ok q110 (hs.m (by decide +kernel)), n64_fn (mul_m10 hn n1 (Rat.le_trans n2 (by decide +kernel))).1, fun g2 => ?_⟩
  have g2' : 0 < cvd (prd (mD (tmS S) 18) (mD S 19) 6) (FP.dmul now 4562146422526312448) .l := g2
  have hrp : ∀ c, c < 36 → mD (svA S now) 17 c = FP.dsub (mD S 17 c) (FP.dmul (FP.ddiv now (prd (mD (tmS S) 18) (mD S 19) 6)) (mD (tmS S) 18 c)) := fun c hc => fil_in _ _ hc
  have hpp : ∀ c, c < 36 → mD (svA S now) 16 c = FP.dadd (mD S 16 c) (FP.dmul (FP.ddiv now (prd (mD (tmS S) 18) (mD S 19) 6)) (mD S 19 c)) := fun c hc => fil_in _ _ hc
  obtain ⟨a1, a2, a3, hN⟩ := rn_of hD hs hr hn n1 hq g2' n2 hrp
  have rp10 : rowOk (mA S 11) (mD (svA S now) 17) (2 ^ 10) := fun c hc => ⟨(a3 c hc).2.1, by
    rw [← rR_in (fun c hc => (a3 c hc).2.2) hc]
    exact iv_rp hS hK hd4 hIv hk hBl hP hN hc, (a3 c hc).2.2⟩
  have ms : ∀ c, c < 36 → rd (FP.dmul (FP.ddiv now (prd (mD (tmS S) 18) (mD S 19) 6)) (mD S 19 c)) (rv (FP.ddiv now (prd (mD (tmS S) 18) (mD S 19) 6)) * rv (mD S 19 c)) := fun c hc => mul_small a1 (hs c hc).1 (Rat.le_trans a2 (by decide +kernel)) (Rat.le_trans (hs c hc).2.1 (by decide +kernel))
  have k41 : (k : Rat) ≤ 41 := nat_rat (show k ≤ 41 by omega)
  have ps : ∀ c, c < 36 → rd (mD (svA S now) 16 c) (rv (mD S 16 c) + rv (FP.dmul (FP.ddiv now (prd (mD (tmS S) 18) (mD S 19) 6)) (mD S 19 c))) := fun c hc => by
    rw [hpp c hc]
    exact add_small (hp c hc).1 (ms c hc).1 (Rat.le_trans (num_pk (hp c hc).2 k41) (by decide +kernel)) (num_pm (rd_le (ms c hc)) (num_px a2 (hs c hc).2.1))
  have ek : ((k + 1 : Nat) : Rat) = (k : Rat) + 1 := by rw [Rat.natCast_add]; rfl
  refine ⟨n64_fn a1, fun c hc => ⟨n64_fn (ms c hc).1, ?_, n64_fn (a3 c hc).1, ?_⟩, fun c hc => n64_fn (amt_v (rp10 c hc).1 (Rat.le_trans (rp10 c hc).2.1 (by decide +kernel))).1, fun c hc => ⟨(ps c hc).1, ?_, (rp10 c hc).1⟩, fun g3 => ?_⟩
  · have := (ps c hc).1
    rw [hpp c hc] at this
    exact n64_fn this
  · have := (rp10 c hc).1
    rw [hrp c hc] at this
    exact n64_fn this
  · rw [ek]
    exact num_p (ms c hc).2 (num_px a2 (hs c hc).2.1) (ps c hc).2 (hp c hc).2 Rat.natCast_nonneg k41
  have e11 : mA (svA S now) 11 = mA S 11 := rfl
  have e15 : mD (svA S now) 15 = mD S 15 := rfl
  have zn := zn_of (S := svA S now) (lim := mD S 6 0) (by rw [e11, e15]; exact hM) (by rw [e11]; exact rp10) hl g3
  rw [e11, e15] at zn
  obtain ⟨z1, z2, z3, z4, z5, f, R, hZ⟩ := zn
  have hc2 := num_c2 (nx_c hS hK hd4 (fun j hj => rR_F hj) hZ) (nx_l hS hK hd4 (fun j hj => rR_F hj) hZ)
  have ed : dotZR (svZ S now) = prd (mkZr (svA S now) 36) (mD (svA S now) 17) 6 := rfl
  have e18 : mD (svZ S now) 18 = mkZr (svA S now) 36 := rfl
  have e17 : mD (svZ S now) 17 = mD (svA S now) 17 := rfl
  have e192 : mD (svZ S now) 19 = mD S 19 := rfl
  have hsn : ∀ c, c < 36 → mD (svT S now) 19 c = FP.dadd (mkZr (svA S now) 36 c) (FP.dmul (FP.ddiv (prd (mkZr (svA S now) 36) (mD (svA S now) 17) 6) now) (mD S 19 c)) := fun c hc => fil_in _ _ hc
  obtain ⟨b1, b2, hT⟩ := tn_of hs z2 hn n1 z4 hc2 z5 hsn
  rw [ed, e18, e17]
  refine ⟨z1, z3, n64_fn b1, fun c hc => ?_, fun hk39 => ?_⟩
  · rw [e192]
    refine ⟨n64_fn (b2 c hc).1, ?_⟩
    have := (b2 c hc).2.1
    rw [hsn c hc] at this
    exact n64_fn this
  · obtain ⟨B2, H2, G2, V2, i1, i2, i3⟩ := round_step hS hK hd4 hIv hk1 hk39 hBl hP hN hZ hT
    exact ⟨fun c hc => ⟨(rp10 c hc).1, (rp10 c hc).2.2⟩, fun c hc => (b2 c hc).2, z4, B2, H2, G2, V2, i1, i2, i3⟩
theorem sv_ind {tk : Nat → Int32} {dg mk : Nat → UInt64} {lim : UInt64} {dn : Nat → Nat} (hD : DgH tk dg dn) (hM : MkH tk mk) (hS : Sys (eC tk) (fun c => (dn c : Rat)) (omC tk dg mk) (tC tk)) {er : Nat → Rat} {rk : Nat → Nat} (hK : Mak (eC tk) (fun c => (dn c : Rat)) (omC tk dg mk) (tC tk) (dC tk mk) er rk) (hl : ∃ k, k ≤ 30 ∧ lim = hv k) : ∀ (n k rd : Nat) (S : mS) (now : UInt64), mA S 11 = tk → mD S 14 = dg → mD S 15 = mk → mD S 6 0 = lim → 1 ≤ k → k + n ≤ 41 → (∀ c, c < 36 → fn (mD S 16 c) ∧ ab (rv (mD S 16 c)) ≤ (k : Rat) * 2 ^ 101 ∧ fn (mD S 17 c)) → (n ≠ 0 → SvI tk dg mk dn (mD S 17) (mD S 19) now k) → svOk n S now ∧ ∀ c, c < 36 → fn (mD (svL n rd S now).2 16 c) ∧ ab (rv (mD (svL n rd S now).2 16 c)) ≤ 2 ^ 107 ∧ fn (mD (svL n rd S now).2 17 c)
  | 0, k, rd, S, now, _, _, _, _, _, hkn, hp, _ => ⟨trivial, fun c hc => ⟨(hp c hc).1, num_pk (hp c hc).2.1 (nat_rat (show k ≤ 41 by omega)), (hp c hc).2.2⟩⟩
  | n + 1, k, rd, S, now, e1, e2, e3, e4, hk1, hkn, hp, hI => by
    subst e1 e2 e3 e4
    have fin0 : ∀ c, c < 36 → fn (mD S 16 c) ∧ ab (rv (mD S 16 c)) ≤ 2 ^ 107 ∧ fn (mD S 17 c) := fun c hc => ⟨(hp c hc).1, num_pk (hp c hc).2.1 (nat_rat (show k ≤ 41 by omega)), (hp c hc).2.2⟩
    obtain ⟨o1, o2, o3, o4⟩ := rnd_1 hD hM hS hK hl hk1 (by omega) (fun c hc => ⟨(hp c hc).1, (hp c hc).2.1⟩) (hI (by omega))
    rw [svL_e]
    by_cases g1 : 0 < cvd now FP.dconst0 .l
    · rw [if_pos g1]
      by_cases g2 : 0 < cvd (dotZS (tmS S)) (FP.dmul now 4562146422526312448) .l
      · rw [if_pos g2]
        obtain ⟨p1, p2, p3, p4, p5⟩ := o4 g2
        by_cases g3 : 0 < cvd (rsF (mD (svA S now) 17) 36) (mD S 6 0) .g
        · rw [if_pos g3]
          obtain ⟨q1, q2, q3, q4, q5⟩ := p5 g3
          obtain ⟨i1, i2⟩ := sv_ind hD hM hS hK hl n (k + 1) (rd + 1) (svT S now) (dotZR (svZ S now)) rfl rfl rfl rfl (by omega) (by omega) p4 (fun hn => q5 (by omega))
          exact ⟨fun _ => ⟨o1, o2, o3, fun _ => ⟨p1, p2, p3, fun _ => ⟨q1, q2, q3, q4, i1⟩⟩⟩, i2⟩
        · rw [if_neg g3]
          exact ⟨fun _ => ⟨o1, o2, o3, fun _ => ⟨p1, p2, p3, fun z => absurd z g3⟩⟩, fun c hc => ⟨(p4 c hc).1, num_pk (p4 c hc).2.1 (nat_rat (show k + 1 ≤ 41 by omega)), (p4 c hc).2.2⟩⟩
      · rw [if_neg g2]
        exact ⟨fun _ => ⟨o1, o2, o3, fun z => absurd z g2⟩, fin0⟩
    · rw [if_neg g1]
      exact ⟨fun z => absurd z g1, fin0⟩
