/-! step, tied: the solver's set-up -/
theorem near_eqw {tk tk' : Nat → Int32} {c w : Nat} (h : inB (nI (c % 6) + dxI w) (nI (c / 6) + dyI w) = true → tk (nI 6 * (nI (c / 6) + dyI w) + (nI (c % 6) + dxI w)).toNatClampNeg = tk' (nI 6 * (nI (c / 6) + dyI w) + (nI (c % 6) + dxI w)).toNatClampNeg) : nearI tk c w = nearI tk' c w := by
  unfold nearI nrI
  generalize nI (c % 6) + dxI w = x at h ⊢
  generalize nI (c / 6) + dyI w = y at h ⊢
  by_cases hin : inB x y = true
  · have h := h hin
    obtain ⟨i, j, hi, hj, rfl, rfl⟩ := inB_nI hin
    rw [pk_mul, nI_add, nI_clamp (by omega)] at h
    rw [if_pos hin, if_pos hin, nI_clamp (by omega), nI_clamp (by omega), h]
  · rw [if_neg hin, if_neg hin]
theorem near_e0 {tk tk' : Nat → Int32} {c : Nat} (hc : c < 36) (h : ∀ d, d < c → tk d = tk' d) : nearI tk c 0 = nearI tk' c 0 := near_eqw (fun hin => h _ ((near_dec ⟨c, hc⟩).1 hin))
theorem near_e2 {tk tk' : Nat → Int32} {c : Nat} (hc : c < 36) (h : ∀ d, d < c → tk d = tk' d) : nearI tk c 2 = nearI tk' c 2 := near_eqw (fun hin => h _ ((near_dec ⟨c, hc⟩).2.1 hin))
theorem mkV_eq {dg dg' mk mk' : Nat → UInt64} {tk tk' : Nat → Int32} {c : Nat} (hc : c < 36) (ht : ∀ d, d < c → tk d = tk' d) (hd : dg c = dg' c) (hm : ∀ d, d < c → tk' d ≠ 0 → mk d = mk' d) : mkV dg mk tk c = mkV dg' mk' tk' c ∧ (mkOk dg' mk' tk' c → mkOk dg mk tk c) := by
  have e1 : mk1 dg mk tk c = mk1 dg' mk' tk' c := by
    unfold mk1
    rw [near_e0 hc ht, hd]
    by_cases hn : nearI tk' c 0 < 0
    · rw [if_pos hn, if_pos hn]
    · rw [if_neg hn, if_neg hn, hm _ (near_lt0 hc hn) (near_d hn).2]
  have e2 : mk2 dg mk tk c = mk2 dg' mk' tk' c := by
    unfold mk2
    rw [near_e2 hc ht, e1]
    by_cases hn : nearI tk' c 2 < 0
    · rw [if_pos hn, if_pos hn]
    · rw [if_neg hn, if_neg hn, hm _ (near_lt2 hc hn) (near_d hn).2]
  refine ⟨by unfold mkV; rw [e2, hd], fun ok => ?_⟩
  unfold mkOk at ok ⊢
  rw [near_e0 hc ht, near_e2 hc ht, e1, e2, hd]
  refine ⟨fun hn => ?_, fun hn => ?_, ok.2.2⟩
  · rw [hm _ (near_lt0 hc hn) (near_d hn).2]
    exact ok.1 hn
  · rw [hm _ (near_lt2 hc hn) (near_d hn).2]
    exact ok.2.1 hn
theorem mkR_at (dg old : Nat → UInt64) (tk : Nat → Int32) {d : Nat} : ∀ n, d < n → mkR dg old tk n d = mkV dg (mkR dg old tk d) tk d
  | 0, h => absurd h (by omega)
  | n + 1, h => by
    rw [mkR, vu_at]
    by_cases e : d = n
    · rw [if_pos e, e]
    · rw [if_neg e, mkR_at dg old tk n (by omega)]
/-- the solver's rows while they are set up, c cells done, against the reference's X (its matrix made) -/
def suI (V : cS) (X : mS) (c : Nat) : Prop := (∀ d, d < c → cA V 27 d = mA (mx2 X) 11 d) ∧ (∀ d, d < c → mA (mx2 X) 11 d ≠ 0 → cD V 28 d = mD (mx2 X) 14 d ∧ cD V 29 d = mD (mx2 X) 15 d) ∧ (∀ d, d < c → cD V 31 d = mD (mx2 X) 17 d) ∧ (∀ d, d < 36 → c ≤ d → cA V 27 d = 0 ∧ cD V 31 d = FP.dconst0) ∧ (∀ d, d < 36 → cD V 30 d = FP.dconst0 ∧ cD V 33 d = FP.dconst0)
/-- what setting up leaves as it is -/
def suK (B V : cS) : Prop := cA V 11 = cA B 11 ∧ V.2.2.2.2.1 = B.2.2.2.2.1 ∧ (∀ p, p < 27 → cD V p = cD B p)
theorem m11 (X : mS) {d : Nat} (h : d < 36) : mA (mx2 X) 11 d = xb (tkB (mA X 1) (mA X 10) d) := fil_in (tkG (mA X 1) (mA X 10)) (mA X 11) h
theorem m14 (X : mS) {d : Nat} (h : d < 36) : mD (mx2 X) 14 d = dgG (mA X 1) d := fil_in _ _ h
theorem m17 (X : mS) {d : Nat} (h : d < 36) : mD (mx2 X) 17 d = rG (mA X 1) (mA X 10) (mD X 13) d := fil_in _ _ h
theorem m16 (X : mS) {d : Nat} (h : d < 36) : mD (mx2 X) 16 d = FP.dconst0 := fil_in (fun _ => FP.dconst0) (mD X 16) h
theorem x15 (X : mS) : mD (mx2 X) 15 = mkR (mD (mx2 X) 14) (mD X 15) (mA (mx2 X) 11) 36 := rfl
theorem su_B {B V : cS} {X : mS} {np c : Nat} (hK : suK B V) (hs : ∀ d, d < 36 → cA B 11 d = mA X 1 d) (hf : ∀ d, d < 36 → mA X 10 d = xb (flC B np d)) (hc : c < 36) : suB V np (c % 6) (c / 6) = tkB (mA X 1) (mA X 10) c ∧ opX (cA V 11) (nI (c % 6)) (nI (c / 6)) = opN (mA X 1) c := by
  obtain ⟨k1, k2, -⟩ := hK
  have e1 : opX (cA V 11) (nI (c % 6)) (nI (c / 6)) = opN (mA X 1) c := by
    rw [k1]
    unfold opX opN
    rw [sol_eq hs, sol_eq hs, sol_eq hs, sol_eq hs]
  refine ⟨?_, e1⟩
  have e2 : flB (cA V 11) (cF V 12) (cF V 13) np (nI (c % 6)) (nI (c / 6)) = flC B np c := by
    show flB (cA V 11) (V.2.2.2.2.1 12) (V.2.2.2.2.1 13) np _ _ = flB (cA B 11) (B.2.2.2.2.1 12) (B.2.2.2.2.1 13) np _ _
    rw [k1, k2]
  unfold suB tkB
  rw [e1, e2, hf c hc]
  cases flC B np c with
  | false => rw [if_pos (show xb false = 0 from rfl)]; split <;> rfl
  | true => rw [if_neg (show ¬ xb true = 0 by decide)]
theorem su_R {B : cS} {X : mS} (hg : grT B X) {c : Nat} (hc : c < 36) : sr1 (cD B 23) (c % 6) (c / 6) = ot1 (mD X 13) c ∧ sr2 (cD B 23) (cD B 24) (c % 6) (c / 6) = ot2 (mD X 13) c ∧ sr3 (cD B 23) (cD B 24) (c % 6) (c / 6) = outF (mD X 13) c := by
  have a1 := (hg.1 (c % 6 + 1) (c / 6) (by omega) (by omega)).2
  have a2 := (hg.1 (c % 6) (c / 6) (by omega) (by omega)).2
  have a3 := (hg.2 (c % 6) (c / 6 + 1) (by omega) (by omega)).2
  have a4 := (hg.2 (c % 6) (c / 6) (by omega) (by omega)).2
  have e1 : sr1 (cD B 23) (c % 6) (c / 6) = ot1 (mD X 13) c := by
    unfold sr1 ot1
    rw [a1, a2]
    rfl
  have e2 : sr2 (cD B 23) (cD B 24) (c % 6) (c / 6) = ot2 (mD X 13) c := by
    unfold sr2 ot2
    rw [e1, a3, show 42 + 6 * (c / 6 + 1) + c % 6 = 42 + 6 * (c / 6) + 6 + c % 6 by omega]
  refine ⟨e1, e2, ?_⟩
  unfold sr3 outF
  rw [e2, a4]
theorem ct6 (c : Nat) : 6 * (c / 6) + c % 6 = c := by omega
theorem su_step {B V : cS} {X : mS} {np c : Nat} (hK : suK B V) (hI : suI V X c) (hs : ∀ d, d < 36 → cA B 11 d = mA X 1 d) (hf : ∀ d, d < 36 → mA X 10 d = xb (flC B np d)) (hg : grT B X) (ok : mxOk X) (hc : c < 36) : suK B (suF V np (c % 6) (c / 6)) ∧ suI (suF V np (c % 6) (c / 6)) X (c + 1) ∧ suOk V np (c % 6) (c / 6) := by
  obtain ⟨e1, e2⟩ := su_B hK hs hf hc
  obtain ⟨i1, i2, i3, i4, i5⟩ := id hI
  obtain ⟨k1, k2, k3⟩ := id hK
  obtain ⟨r1, r2, r3⟩ := su_R hg hc
  have h23 : cD V 23 = cD B 23 := k3 23 (by omega)
  have h24 : cD V 24 = cD B 24 := k3 24 (by omega)
  have o1 := ok.1 c hc
  have o2 := ok.2 c hc
  unfold suF suOk
  rw [e1]
  cases hb : tkB (mA X 1) (mA X 10) c with
  | false =>
    rw [if_neg (by decide)]
    have t0 : mA (mx2 X) 11 c = 0 := by rw [m11 X hc, hb]; rfl
    refine ⟨hK, ⟨fun d hd => ?_, fun d hd h0 => ?_, fun d hd => ?_, fun d hd hl => i4 d hd (by omega), i5⟩, fun z => by cases z⟩
    · by_cases e : d = c
      · rw [e, t0]; exact (i4 c hc (Nat.le_refl c)).1
      · exact i1 d (by omega)
    · by_cases e : d = c
      · rw [e] at h0; exact absurd t0 h0
      · exact i2 d (by omega) h0
    · by_cases e : d = c
      · rw [e, (i4 c hc (Nat.le_refl c)).2, m17 X hc]
        unfold rG
        rw [hb]
        rfl
      · exact i3 d (by omega)
  | true =>
    rw [if_pos rfl]
    have t1 : mA (mx2 X) 11 c = xb true := by rw [m11 X hc, hb]
    have key := mkV_eq (dg := cD (su1 V (c % 6) (c / 6)) 28) (dg' := mD (mx2 X) 14) (mk := cD (su1 V (c % 6) (c / 6)) 29) (mk' := mkR (mD (mx2 X) 14) (mD X 15) (mA (mx2 X) 11) c) (tk := cA (su1 V (c % 6) (c / 6)) 27) (tk' := mA (mx2 X) 11) hc (fun d hd => ?_) ?_ (fun d hd h0 => ?_)
    · refine ⟨⟨k1, k2, fun p hp => ?_⟩, ⟨fun d hd => ?_, fun d hd h0 => ?_, fun d hd => ?_, fun d hd hl => ?_, i5⟩, fun _ => ?_⟩
      · show mu (mu (mu V.2.2.2.2.2 28 _) 29 _) 31 _ p = _
        rw [mu_ne _ _ (by omega), mu_ne _ _ (by omega), mu_ne _ _ (by omega)]
        exact k3 p hp
      · show upd (cA V 27) (6 * (c / 6) + c % 6) (xb true) d = _
        rw [ct6, ui_at]
        by_cases e : d = c
        · rw [if_pos e, e, t1]
        · rw [if_neg e]; exact i1 d (by omega)
      · show vf_upd (cD V 28) (6 * (c / 6) + c % 6) (FP.i2d (nI (opX (cA V 11) (nI (c % 6)) (nI (c / 6))))) d = _ ∧ vf_upd (cD V 29) (6 * (c / 6) + c % 6) (mkV (cD (su1 V (c % 6) (c / 6)) 28) (cD (su1 V (c % 6) (c / 6)) 29) (cA (su1 V (c % 6) (c / 6)) 27) (6 * (c / 6) + c % 6)) d = _
        rw [ct6, vu_at, vu_at, e2]
        by_cases e : d = c
        · rw [if_pos e, if_pos e, e, key.1, x15, mkR_at _ _ _ 36 hc, m14 X hc]
          exact ⟨rfl, rfl⟩
        · rw [if_neg e, if_neg e]; exact i2 d (by omega) h0
      · show vf_upd (cD V 31) (6 * (c / 6) + c % 6) (sr4 (cD V 23) (cD V 24) (c % 6) (c / 6)) d = _
        rw [ct6, vu_at]
        by_cases e : d = c
        · rw [if_pos e, e, m17 X hc]
          unfold rG sr4
          rw [hb, if_pos rfl, h23, h24, r3]
        · rw [if_neg e]; exact i3 d (by omega)
      · show upd (cA V 27) (6 * (c / 6) + c % 6) (xb true) d = 0 ∧ vf_upd (cD V 31) (6 * (c / 6) + c % 6) (sr4 (cD V 23) (cD V 24) (c % 6) (c / 6)) d = FP.dconst0
        rw [ct6, ui_at, vu_at, if_neg (by omega), if_neg (by omega)]
        exact i4 d hd (by omega)
      · refine ⟨?_, ?_⟩
        · rw [ct6]
          exact key.2 o2
        · show su3O V (c % 6) (c / 6)
          unfold su3O sr4
          rw [h23, h24, r1, r2, r3]
          exact ⟨o1.1, o1.2.1, o1.2.2.1, o1.2.2.2 hb⟩
    · show upd (cA V 27) (6 * (c / 6) + c % 6) (xb true) d = _
      rw [ct6, ui_at, if_neg (by omega)]
      exact i1 d hd
    · show vf_upd (cD V 28) (6 * (c / 6) + c % 6) (FP.i2d (nI (opX (cA V 11) (nI (c % 6)) (nI (c / 6))))) c = _
      rw [ct6, vu_at, if_pos rfl, e2, m14 X hc]
      rfl
    · show cD V 29 d = _
      rw [(i2 d hd h0).2, x15, mkR_at _ _ _ 36 (by omega), mkR_at _ _ _ c hd]
