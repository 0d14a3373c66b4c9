/-! matrix and SOLVING: no NaN, and how large p becomes -/
theorem mx_all {X : mS} {np : Nat} {cell : Nat → Nat} (h24 : np ≤ 24) (hfs : ∀ c, c < 36 → mA X 10 c ≠ 0 → mA X 1 c = 0) (hce : ∀ c, c < 36 → mA X 10 c ≠ 0 → ∃ k, k < np ∧ cell k = c) (haf : ∀ f, f < 84 → fn (mD X 13 f) ∧ (f < 42 → ab (rv (mD X 13 f)) ≤ 8 + 2048 * uu) ∧ ab (rv (mD X 13 f)) ≤ 12 + 2100 * uu) (hcl : ∀ f, f < 84 → clB (mA X 1) f = true → rv (mD X 13 f) = 0) (hl : ∃ k, k ≤ 30 ∧ mD X 6 0 = hv k) : mxOk X ∧ ∀ R, R ≤ 40 → sfOk (mx2 X) R ∧ ∀ c, c < 36 → fn (mD (svF (mx2 X) R).2 16 c) ∧ ab (rv (mD (svF (mx2 X) R).2 16 c)) ≤ 2 ^ 107 ∧ fn (mD (svF (mx2 X) R).2 17 c) := by
  have htk : ∀ c, c < 36 → mA (mx2 X) 11 c = xb (tkB (mA X 1) (mA X 10) c) := fun c hc => m11 X hc
  have hD : DgH (mA (mx2 X) 11) (mD (mx2 X) 14) (opN (mA X 1)) := dgh htk (fun c hc => m14 X hc) hfs
  have hm : ∀ c, c < 36 → mD (mx2 X) 15 c = mkV (mD (mx2 X) 14) (mD (mx2 X) 15) (mA (mx2 X) 11) c := fun c hc => by
    rw [x15]
    exact (mkR_fix hc).1
  have hmx : mxOk X := by
    refine ⟨fun c hc => (out_v haf hc).1, fun c hc => ?_⟩
    have e14 : mD (mx1 X 36) 14 = mD (mx2 X) 14 := rfl
    have e11 : mA (mx1 X 36) 11 = mA (mx2 X) 11 := rfl
    rw [e14, e11]
    refine (mkR_fix hc).2 ?_
    rw [← x15]
    exact mk_ok hD hm hc
  refine ⟨hmx, fun R hR => ?_⟩
  have hM : MkH (mA (mx2 X) 11) (mD (mx2 X) 15) := fun c hc ht => by
    obtain ⟨a1, -, a3, a4, a5, a6, -⟩ := mk_T hD hm hc ht
    exact ⟨a1, a3, a4, Rat.le_trans a5 a6⟩
  have hS := sys hD hm (cnt_24 h24 (fun c t => hce c t.1 (tk_T htk t.1 t.2).1))
  have hK := mak hD hm
  have hd4 : ∀ c, c < 36 → (fun c => ((opN (mA X 1) c : Nat) : Rat)) c ≤ 4 := fun c _ => nat_rat (op_4 _ c)
  have e17 : ∀ c, c < 36 → mD (mx2 X) 17 c = rG (mA X 1) (mA X 10) (mD X 13) c := fun c hc => m17 X hc
  have hrT : ∀ c, c < 36 → mA (mx2 X) 11 c ≠ 0 → fn (mD (mx2 X) 17 c) ∧ rv (mD (mx2 X) 17 c) = -rv (outF (mD X 13) c) ∧ ab (rv (mD (mx2 X) 17 c)) ≤ 2 ^ 9 := fun c hc h => by
    obtain ⟨-, o2, o3, -⟩ := out_v haf (sol := mA X 1) (fl := mA X 10) hc
    obtain ⟨n1, n2⟩ := neg_ex o2 (Rat.le_trans o3 (by decide +kernel))
    have e : mD (mx2 X) 17 c = FP.dsub FP.dconst0 (outF (mD X 13) c) := by
      rw [e17 c hc]
      unfold rG
      rw [if_pos (tk_T htk hc h).2.2]
    rw [e]
    refine ⟨n1, n2, ?_⟩
    rw [n2, ab_neg]
    exact o3
  have hrF : ∀ c, c < 36 → mA (mx2 X) 11 c = 0 → mD (mx2 X) 17 c = FP.dconst0 := fun c hc h => by
    rw [htk c hc] at h
    rw [e17 c hc]
    unfold rG
    rw [xb_eq h, if_neg (by decide)]
  have hr : rowOk (mA (mx2 X) 11) (mD (mx2 X) 17) (2 ^ 10) := fun c hc => by
    rcases Classical.em (mA (mx2 X) 11 c = 0) with h | h
    · rw [hrF c hc h]
      exact ⟨fn_c0, by rw [rv_c0]; decide +kernel, fun _ => rv_c0⟩
    · obtain ⟨a, -, b⟩ := hrT c hc h
      exact ⟨a, Rat.le_trans b (by decide +kernel), fun z => absurd z h⟩
  have hF : faceH (mA (mx2 X) 11) (opN (mA X 1)) (gC (mD X 13)) (oS (mA X 1)) := face_h htk hfs hcl
  have gb : ∀ c w, c < 36 → w < 4 → ab (gC (mD X 13) c w) = ab (rv (mD X 13 (fF c w))) := fun c w hc hw => by
    unfold gC
    rw [ab_mul]
    have : ∀ w : Fin 4, ab (sW4 w.val) = 1 := by decide +kernel
    have h1 : ab (sW4 w) = 1 := this ⟨w, hw⟩
    rw [h1, Rat.one_mul]
  obtain ⟨hE, hH⟩ := first_r hF hS hK (fun c t => by
    have k : ∀ w, w < 4 → fF c w < 84 ∧ (fF c w < 42 ↔ w < 2) := fun w hw => ⟨(f_tab ⟨c, t.1⟩ ⟨w, hw⟩).1, (f_tab ⟨c, t.1⟩ ⟨w, hw⟩).2.1⟩
    rw [gb c 0 t.1 (by omega), gb c 1 t.1 (by omega), gb c 2 t.1 (by omega), gb c 3 t.1 (by omega)]
    exact ⟨(haf _ (k 0 (by omega)).1).2.1 ((k 0 (by omega)).2.mpr (by omega)), (haf _ (k 1 (by omega)).1).2.1 ((k 1 (by omega)).2.mpr (by omega)), (haf _ (k 2 (by omega)).1).2.2, (haf _ (k 3 (by omega)).1).2.2⟩) (r := rR (mA (mx2 X) 11) (mD (mx2 X) 17)) (fun c t => by
    rw [rR_T t, (hrT c t.1 t.2).2.1]
    exact (out_v haf (sol := mA X 1) (fl := mA X 10) t.1).2.2.2) (fun c t => rR_F t)
  have hp0 : ∀ c, c < 36 → fn (mD (mx2 X) 16 c) ∧ rv (mD (mx2 X) 16 c) = 0 := fun c hc => by
    rw [m16 X hc]
    exact ⟨fn_c0, rv_c0⟩
  have e6 : mD (mx2 X) 6 = mD X 6 := rfl
  have hl2 : ∃ k, k ≤ 30 ∧ mD (mx2 X) 6 0 = hv k := by rw [e6]; exact hl
  have hrs : rsOk (mx2 X) := fun c hc => n64_fn (amt_v (hr c hc).1 (Rat.le_trans (hr c hc).2.1 (by decide +kernel))).1
  generalize mx2 X = S at *
  by_cases g : 0 < cvd (rsF (mD S 17) 36) (mD S 6 0) .g
  · obtain ⟨z1, z2, z3, z4, z5, f, RR, hZ⟩ := zn_of hM hr hl2 g
    obtain ⟨B2, H2, G2, V2, i1, i2, i3⟩ := round_first hS hK hd4 (fun j hj => rR_F hj) hZ hE hH
    have e19 : rR (mA S 11) (mD (cpS (mzS S) 36) 19) = rR (mA S 11) (mkZr S 36) := funext (fun c => by
      unfold rR
      rcases Classical.em (tC (mA S 11) c) with t | t
      · have : mD (cpS (mzS S) 36) 19 c = mkZr S 36 c := fil_in _ _ t.1
        rw [this]
      · rw [ind_f t, Rat.zero_mul, Rat.zero_mul])
    have hs19 : ∀ c, c < 36 → mD (cpS (mzS S) 36) 19 c = mkZr S 36 c := fun c hc => fil_in _ _ hc
    have hI : SvI (mA S 11) (mD S 14) (mD S 15) (opN (mA X 1)) (mD (cpS (mzS S) 36) 17) (mD (cpS (mzS S) 36) 19) (dotZR (cpS (mzS S) 36)) 1 := by
      refine ⟨fun c hc => ⟨(hr c hc).1, (hr c hc).2.2⟩, fun c hc => ?_, z4, B2, H2, G2, V2, ?_, i2, i3⟩
      · rw [hs19 c hc]
        exact ⟨(z2 c hc).1, (z2 c hc).2.2⟩
      · rw [e19]
        exact i1
    have hp : ∀ c, c < 36 → fn (mD (cpS (mzS S) 36) 16 c) ∧ ab (rv (mD (cpS (mzS S) 36) 16 c)) ≤ ((1 : Nat) : Rat) * 2 ^ 101 ∧ fn (mD (cpS (mzS S) 36) 17 c) := fun c hc => by
      have e16 : mD (cpS (mzS S) 36) 16 = mD S 16 := rfl
      rw [e16, (hp0 c hc).2]
      exact ⟨(hp0 c hc).1, by decide +kernel, (hr c hc).1⟩
    have key := sv_ind hD hM hS hK hl2 R 1 1 (cpS (mzS S) 36) (dotZR (cpS (mzS S) 36)) rfl rfl rfl rfl (by omega) (by omega) hp (fun _ => hI)
    refine ⟨⟨hrs, fun _ => ⟨z1, z3, key.1⟩⟩, ?_⟩
    unfold svF
    rw [if_pos g]
    intro c hc
    obtain ⟨a, b, d⟩ := key.2 c hc
    exact ⟨a, b, d⟩
  · refine ⟨⟨hrs, fun z => absurd z g⟩, ?_⟩
    unfold svF
    rw [if_neg g]
    intro c hc
    have b : ab (rv (mD S 16 c)) ≤ 2 ^ 107 := by
      rw [(hp0 c hc).2]
      decide +kernel
    exact ⟨(hp0 c hc).1, b, (hr c hc).1⟩
