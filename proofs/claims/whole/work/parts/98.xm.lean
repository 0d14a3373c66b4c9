/-! assembly -/
theorem num_B {B H G V al c alQ k W : Rat} (hk0 : 1 ≤ k) (hk : k ≤ 40) (hB0 : 0 ≤ B) (hH0 : 0 ≤ H) (hG0 : 0 ≤ G) (hV0 : 0 ≤ V) (haB : al * c ≤ 401 / 100 * B) (halQ : al * alQ ≤ 402 / 100 * B) (hBu : B ≤ 1 / 2 ^ 32) (hBG : B * G ≤ 2430 * (k + 1)) (hBV : B * (V * V) ≤ (k + 1) / 2 ^ 16 * ((k + 1) / 2 ^ 16)) (hHs : H ≤ 1 / 2 ^ 33) (hW : W = H * G + V) : u1 * (395 * (al * alQ / (1 / 2 ^ 15) + 1 / 2 ^ 15) + 145 * (al * c * W) + 1001 / 1000 * (139 / 20 * (B / (1 / 2 ^ 15) + 1 / 2 ^ 15) + H)) + 36 * tz ≤ uu * (1 / 2) := by
  have BV : B * V ≤ 1 / 10000 := by
    refine le_sq (by decide +kernel) ?_
    have g1 : (k + 1) / 2 ^ 16 * ((k + 1) / 2 ^ 16) ≤ 41 / 2 ^ 16 * (41 / 2 ^ 16) := mul_le2 (by grind) (by grind) (by grind) (by decide +kernel)
    have g2 := mul_le2 hBu (Rat.le_trans hBV g1) hB0 (by decide +kernel)
    have e1 : B * V * (B * V) = B * (B * (V * V)) := by grind
    rw [e1]
    refine Rat.le_trans g2 ?_
    decide +kernel
  have acW : al * c * W ≤ 401 / 100 * (2430 * 41 * H + 1 / 10000) := by
    have hWn : 0 ≤ W := by
      rw [hW]
      exact Rat.add_nonneg (Rat.mul_nonneg hH0 hG0) hV0
    have g1 := Rat.mul_le_mul_of_nonneg_right haB hWn
    have g2 : B * G * H ≤ 2430 * 41 * H := Rat.mul_le_mul_of_nonneg_right (by grind) hH0
    rw [hW] at g1 ⊢
    have e1 : 401 / 100 * B * (H * G + V) = 401 / 100 * (B * G * H + B * V) := by grind
    rw [e1] at g1
    grind
  generalize al * c * W = Y1 at *
  generalize al * alQ = Y2 at *
  generalize al * c = Y3 at *
  have e1 : Y2 / (1 / 2 ^ 15) = 2 ^ 15 * Y2 := by grind
  have e2 : B / (1 / 2 ^ 15) = 2 ^ 15 * B := by grind
  rw [e1, e2]
  have key : 395 * (2 ^ 15 * Y2 + 1 / 2 ^ 15) + 145 * Y1 + 1001 / 1000 * (139 / 20 * (2 ^ 15 * B + 1 / 2 ^ 15) + H) ≤ 1 / 4 := by
    clear hBG hBV BV hW
    grind
  have k2 := Rat.mul_le_mul_of_nonneg_left key (show 0 ≤ u1 by decide +kernel)
  refine Rat.le_trans (Rat.add_le_add_right.mpr k2) ?_
  decide +kernel
theorem hb_mono {e : Nat → Nat → Rat} {dg r : Nat → Rat} {H H' : Rat} (h : HB e dg r H) (hH : H ≤ H') : HB e dg r H' := fun g a b => Rat.le_trans (h g a b) hH
theorem b_sel {e : Nat → Nat → Rat} {dg : Nat → Rat} {P : (Nat → Rat) → Prop} {r : Nat → Rat} {B B1 Z : Rat} (h1 : EB e dg P r B1) (h2 : EB e dg P r (2420 * Z)) (hB : B1 ≤ (1 + 1 / 2 ^ 18) * B) (hBl : 1 / 2 ^ 68 ≤ B) (hZ : 1 / 2 ^ 63 ≤ Z) (h0 : 0 ≤ B1) : ∃ B2, EB e dg P r B2 ∧ 1 / 2 ^ 68 ≤ B2 ∧ B2 ≤ (1 + 1 / 2 ^ 18) * B ∧ B2 ≤ 2420 * Z ∧ B2 ≤ B1 + 1 / 2 ^ 68 := by
  by_cases ha : B1 ≤ 2420 * Z
  · by_cases hb : B1 ≤ 1 / 2 ^ 68
    · exact ⟨1 / 2 ^ 68, eb_mono h1 hb, Rat.le_refl, by grind, by grind, by grind⟩
    · exact ⟨B1, h1, by grind, hB, ha, by grind⟩
  · exact ⟨2420 * Z, h2, by grind, by grind, Rat.le_refl, by grind⟩
theorem inv_c {e : Nat → Nat → Rat} {dg om : Nat → Rat} {T : Nat → Prop} (hS : Sys e dg om T) {D er : Nat → Rat} {rk : Nat → Nat} (hM : Mak e dg om T D er rk) (hd4 : ∀ c, c < 36 → dg c ≤ 4) {rp z f : Nat → Rat} {R c2 : Rat} (hr : ∀ j, ¬ T j → rp j = 0) (hZ : Zn e T D rp z f R c2) : 1 / c2 ≤ 611 / 100 * 2 ^ 60 := by
  have h1 := nx_a hS hM hd4 hr hZ
  have h2 := nx_c hS hM hd4 hr hZ
  have h3 := hZ.2.2.2.2.2.1
  have h4 := mul_le2 h3 h3 (by decide +kernel) (by clear hS hM hd4 hr hZ; grind)
  rw [ab_le] at h2
  have h5 : 1 ≤ 611 / 100 * 2 ^ 60 * c2 := by
    clear hS hM hd4 hr hZ
    grind
  have h6 : 0 < c2 := by
    clear hS hM hd4 hr hZ
    grind
  refine Rat.le_of_mul_le_mul_right (c := c2) ?_ h6
  have e1 : 1 / c2 * c2 = 1 := by clear hS hM hd4 hr hZ; grind
  rw [e1]
  exact h5
theorem round_step {e : Nat → Nat → Rat} {dg om : Nat → Rat} {T : Nat → Prop} (hS : Sys e dg om T) {D er : Nat → Rat} {rk : Nat → Nat} (hM : Mak e dg om T D er rk) (hd4 : ∀ c, c < 36 → dg c ≤ 4) {r s : Nat → Rat} {c B H G V : Rat} {k : Nat} (hI : Iv e dg om T r s c B H G V (k : Rat)) (hk1 : 1 ≤ k) (hk : k ≤ 39) (hBl : 1 / 2 ^ 68 ≤ B) (hP : Ph B H G k) {q rp z f : Nat → Rat} {d al R c2 be : Rat} {sn : Nat → Rat} (hN : Rn e dg T r s c q d al rp) (hZ : Zn e T D rp z f R c2) (hT : Tn T s z c c2 be sn) : ∃ B2 H2 G2 V2, Iv e dg om T rp sn c2 B2 H2 G2 V2 ((k + 1 : Nat) : Rat) ∧ 1 / 2 ^ 68 ≤ B2 ∧ Ph B2 H2 G2 (k + 1) := by
  have kr1 : (1 : Rat) ≤ k := nat_rat hk1
  have kr2 : (k : Rat) ≤ 39 := nat_rat hk
  have kc : ((k + 1 : Nat) : Rat) = (k : Rat) + 1 := by rw [Rat.natCast_add]; rfl
  have hI' := hI
  obtain ⟨⟨e1, e2, e3, e4⟩, ⟨i1, i2, i3, i4⟩, i5, i6, i7, ⟨i8, i9⟩, i10, i11, i12, i13⟩ := hI'
  have hr : ∀ j, ¬ T j → rp j = 0 := hN.2.2.2.2.2.2.2.1
  have hB0 : 0 ≤ B := by clear hS hM hd4 hI hN hZ hT e1 e2 e3 e4 i5 i6 i7; grind
  have zl := nx_l hS hM hd4 hr hZ
  have zc := nx_c hS hM hd4 hr hZ
  have zb := nx_eb hS hM hd4 hr hZ
  have ic := inv_c hS hM hd4 hr hZ
  have hu := uu_0
  rcases hP with hA | ⟨N, hBph⟩
  · obtain ⟨f1, f2⟩ := phA_F (by omega) i4 hB0 i2 hA
    have hHB : H * H ≤ 4 * B := by clear hS hM hd4 hI hN hZ hT e1 e2 e3 e4 i5 i6 i7 zb; grind
    have hSt := iv_st hI (by clear hS hM hd4 hI hN hZ hT e1 e2 e3 e4 i5 i6 i7 zb; grind) (by clear hS hM hd4 hI hN hZ hT e1 e2 e3 e4 i5 i6 i7 zb; grind) (F0 := 1 / 2 ^ 16) (by decide +kernel) f1 hHB
    obtain ⟨a1, a2, a3⟩ := sc_al hS hM hd4 hSt hN
    obtain ⟨g1, g2, g3⟩ := sc_ac hS hM hd4 hSt hN
    have eb := sc_eb hS hM hd4 hSt hN
    have dr := sc_dr hS hM hd4 hSt hN (la := 21) (ta := 100) (by decide +kernel) (by decide +kernel)
    have sr := sc_sr hS hM hd4 hSt hN
    generalize hB1 : (1 + 1 / 2 ^ 20) * (B - (1 - 2 * ((k : Rat) / 2 ^ 14) - 2 * (1 / 2 ^ 16 + 1 / 500) - 1 / 2 ^ 16) * (al * c) + 1 / 2 ^ 32 * B) = B1 at eb
    have hB1n : 0 ≤ B1 := eb_nn (PS_lsp hS hM) (tld_ps hS hM e3) eb
    have hHs : H ≤ 1 / 2 ^ 33 := le_sq (by decide +kernel) (Rat.le_trans f2 (by decide +kernel))
    have hBu : B ≤ 10040 := by
      have := hA.2.2
      clear hS hM hd4 hI hN hZ hT e1 e2 e3 e4 i5 i6 i7 zb eb dr sr hSt
      grind
    have hQ2 : al * (al * qA e dg s) ≤ (1 + 1 / 2 ^ 17) * (al * c) := by
      have := Rat.mul_le_mul_of_nonneg_left ((ab_le.mp a1).1) (Rat.le_of_lt a2)
      clear hS hM hd4 hI hN hZ hT e1 e2 e3 e4 i5 i6 i7 zb eb dr sr hSt a1
      grind
    have nA := num_A (B1 := B1) kr1 (by clear hS hM hd4 hI hN hZ hT e1 e2 e3 e4 i5 i6 i7 zb eb dr sr hSt; grind) hB0 i4 i2 i3 g3 g1 hQ2 hB1.symm hB1n hBu i8 i9 hHs rfl
    have hL : 0 ≤ (1 - 2 * ((k : Rat) / 2 ^ 14) - 2 * (1 / 2 ^ 16 + 1 / 500) - 1 / 2 ^ 16) * (al * c) := Rat.mul_nonneg (by clear hS hM hd4 hI hN hZ hT e1 e2 e3 e4 i5 i6 i7 zb eb dr sr hSt nA hB1; grind) (Rat.le_of_lt g3)
    have hBB : B1 ≤ (1 + 1 / 2 ^ 19) * B := by
      rw [← hB1]
      generalize (1 - 2 * ((k : Rat) / 2 ^ 14) - 2 * (1 / 2 ^ 16 + 1 / 500) - 1 / 2 ^ 16) * (al * c) = L at *
      clear hS hM hd4 hI hN hZ hT e1 e2 e3 e4 i5 i6 i7 zb eb dr sr hSt nA hB1
      grind
    have hH2 := hb_mono dr (Rat.add_le_add_left.mpr nA)
    obtain ⟨B2, s1, s2, s3, s4, s5⟩ := b_sel eb zb (by clear hS hM hd4 hI hN hZ hT e1 e2 e3 e4 i5 i6 i7 zb eb dr sr hSt nA hB1; grind) hBl zl hB1n
    have hpos : 0 ≤ uu * (19 * (B - B1) + 9728) := Rat.mul_nonneg (Rat.le_of_lt hu) (by clear hS hM hd4 hI hN hZ hT e1 e2 e3 e4 i5 i6 i7 zb eb dr sr hSt nA hB1; grind)
    obtain ⟨p1, p2, p3⟩ := hA
    have hH2n : (H + uu * (19 * (B - B1) + 9728)) * (H + uu * (19 * (B - B1) + 9728)) ≤ 4 * B2 := by
      have q1 : H + uu * (19 * (B - B1) + 9728) ≤ uu * 582300 := by
        have q2 : uu * (193000 + 9730 * ((k : Rat) - 1)) ≤ uu * (193000 + 9730 * 38) := Rat.mul_le_mul_of_nonneg_left (by clear hS hM hd4 hI hN hZ hT e1 e2 e3 e4 i5 i6 i7 zb eb dr sr hSt nA hB1 s1; grind) (Rat.le_of_lt hu)
        have q3 := Rat.mul_nonneg (Rat.le_of_lt hu) hB1n
        clear hS hM hd4 hI hN hZ hT e1 e2 e3 e4 i5 i6 i7 zb eb dr sr hSt nA hB1 s1 hH2
        grind
      have q4 := mul_le2 q1 q1 (Rat.add_nonneg i4 hpos) (by decide +kernel)
      refine Rat.le_trans q4 (Rat.le_trans (b := 4 * (1 / 2 ^ 68)) (by decide +kernel) ?_)
      exact Rat.mul_le_mul_of_nonneg_left s2 (by decide +kernel)
    obtain ⟨V2, hIv⟩ := iv_next hS hM hd4 hI (by clear hS hM hd4 hI hN hZ hT e1 e2 e3 e4 i5 i6 i7 zb eb dr sr hSt nA hB1 s1 hH2; grind) kr2 hr hZ hT s1 hH2 (by clear hS hM hd4 hI hN hZ hT e1 e2 e3 e4 i5 i6 i7 zb eb dr sr hSt nA hB1 s1 hH2; grind) (by clear hS hM hd4 hI hN hZ hT e1 e2 e3 e4 i5 i6 i7 zb eb dr sr hSt nA hB1 s1 hH2; grind) (by clear hS hM hd4 hI hN hZ hT e1 e2 e3 e4 i5 i6 i7 zb eb dr sr hSt nA hB1 s1 hH2; grind) s3 s4 hH2n sr
    refine ⟨B2, _, _, V2, by rw [kc]; exact hIv, s2, ?_⟩
    have hG40 : G ≤ 40 * 2 ^ 46 := by clear hS hM hd4 hI hN hZ hT e1 e2 e3 e4 i5 i6 i7 zb eb dr sr hSt nA hB1 s1 hH2 hIv; grind
    have hq3 := Rat.mul_nonneg (Rat.le_of_lt hu) hB1n
    by_cases hc2 : 1 / 2 ^ 45 ≤ c2
    · left
      have c1 : 1 / c2 ≤ 2 ^ 45 := by
        have c0 : 0 < c2 := hIv.2.1.1
        refine Rat.le_of_mul_le_mul_right (c := c2) ?_ c0
        have e9 : 1 / c2 * c2 = 1 := by clear hS hM hd4 hI hN hZ hT e1 e2 e3 e4 i5 i6 i7 zb eb dr sr hSt nA hB1 s1 hH2 hIv; grind
        rw [e9]
        clear hS hM hd4 hI hN hZ hT e1 e2 e3 e4 i5 i6 i7 zb eb dr sr hSt nA hB1 s1 hH2 hIv
        grind
      refine ⟨?_, ?_, ?_⟩
      · rw [kc]
        generalize 1 / c2 = y at *
        clear hS hM hd4 hI hN hZ hT e1 e2 e3 e4 i5 i6 i7 zb eb dr sr hSt nA hB1 s1 hH2 hIv hu
        unfold uu
        grind
      · rw [kc]
        have := Rat.mul_le_mul_of_nonneg_left s5 (Rat.le_of_lt hu)
        clear hS hM hd4 hI hN hZ hT e1 e2 e3 e4 i5 i6 i7 zb eb dr sr hSt nA hB1 s1 hH2 hIv
        unfold uu at *
        grind
      · rw [kc]
        clear hS hM hd4 hI hN hZ hT e1 e2 e3 e4 i5 i6 i7 zb eb dr sr hSt nA hB1 s1 hH2 hIv
        grind
    · right
      refine ⟨k, by omega, ?_, ?_, ?_⟩
      · rw [kc]
        generalize 1 / c2 = y at *
        clear hS hM hd4 hI hN hZ hT e1 e2 e3 e4 i5 i6 i7 zb eb dr sr hSt nA hB1 s1 hH2 hIv hu
        unfold uu
        grind
      · rw [kc]
        clear hS hM hd4 hI hN hZ hT e1 e2 e3 e4 i5 i6 i7 zb eb dr sr hSt nA hB1 s1 hH2 hIv
        unfold uu at *
        grind
      · rw [kc]
        rw [ab_le] at zc
        clear hS hM hd4 hI hN hZ hT e1 e2 e3 e4 i5 i6 i7 zb eb dr sr hSt nA hB1 s1 hH2 hIv
        grind
  · obtain ⟨f1, f2⟩ := phB_F (by omega) i4 i2 hBph
    have hHB : H * H ≤ 4 * B := by clear hS hM hd4 hI hN hZ hT e1 e2 e3 e4 i5 i6 i7 zb; grind
    have hSt := iv_st hI (by clear hS hM hd4 hI hN hZ hT e1 e2 e3 e4 i5 i6 i7 zb; grind) (by clear hS hM hd4 hI hN hZ hT e1 e2 e3 e4 i5 i6 i7 zb; grind) (F0 := 8 / 25) (by decide +kernel) f1 hHB
    obtain ⟨g1, g2, g3⟩ := sc_ac hS hM hd4 hSt hN
    have eb := sc_eb hS hM hd4 hSt hN
    have dr := sc_dr hS hM hd4 hSt hN (la := 1 / 2 ^ 15) (ta := 1 / 2 ^ 15) (by decide +kernel) (by decide +kernel)
    have sr := sc_sr hS hM hd4 hSt hN
    generalize hB1 : (1 + 1 / 2 ^ 20) * (B - (1 - 2 * ((k : Rat) / 2 ^ 14) - 2 * (8 / 25 + 1 / 500) - 1 / 2 ^ 16) * (al * c) + 1 / 2 ^ 32 * B) = B1 at eb
    have hB1n : 0 ≤ B1 := eb_nn (PS_lsp hS hM) (tld_ps hS hM e3) eb
    have hHs : H ≤ 1 / 2 ^ 33 := le_sq (by decide +kernel) (Rat.le_trans f2 (by decide +kernel))
    obtain ⟨p0, p1, p2, p3⟩ := hBph
    have hNr : (N : Rat) ≤ k := nat_rat p0
    have hN0 : (0 : Rat) ≤ N := Rat.natCast_nonneg
    have hBu : B ≤ 1 / 2 ^ 32 := by
      clear hS hM hd4 hI hN hZ hT e1 e2 e3 e4 i5 i6 i7 zb eb dr sr hSt
      grind
    have nB := num_B kr1 (by clear hS hM hd4 hI hN hZ hT e1 e2 e3 e4 i5 i6 i7 zb eb dr sr hSt; grind) hB0 i4 i2 i3 g1 g2 hBu i8 i9 hHs rfl
    have hL : 0 ≤ (1 - 2 * ((k : Rat) / 2 ^ 14) - 2 * (8 / 25 + 1 / 500) - 1 / 2 ^ 16) * (al * c) := Rat.mul_nonneg (by clear hS hM hd4 hI hN hZ hT e1 e2 e3 e4 i5 i6 i7 zb eb dr sr hSt nB hB1; grind) (Rat.le_of_lt g3)
    have hBB : B1 ≤ (1 + 1 / 2 ^ 20) * (B + 1 / 2 ^ 32 * B) := by
      rw [← hB1]
      generalize (1 - 2 * ((k : Rat) / 2 ^ 14) - 2 * (8 / 25 + 1 / 500) - 1 / 2 ^ 16) * (al * c) = L at *
      clear hS hM hd4 hI hN hZ hT e1 e2 e3 e4 i5 i6 i7 zb eb dr sr hSt nB hB1
      grind
    have hH2 := hb_mono dr (Rat.add_le_add_left.mpr nB)
    obtain ⟨B2, s1, s2, s3, s4, s5⟩ := b_sel eb zb (by clear hS hM hd4 hI hN hZ hT e1 e2 e3 e4 i5 i6 i7 zb eb dr sr hSt nB hB1; grind) hBl zl hB1n
    have hpos : 0 ≤ uu * (1 / 2) := by decide +kernel
    have hH2n : (H + uu * (1 / 2)) * (H + uu * (1 / 2)) ≤ 4 * B2 := by
      have q1 : H + uu * (1 / 2) ≤ uu * 582400 := by
        have q2 : uu * (193000 + 9730 * (N : Rat) + ((k : Rat) - N)) ≤ uu * (193000 + 9730 * 39 + 39) := Rat.mul_le_mul_of_nonneg_left (by clear hS hM hd4 hI hN hZ hT e1 e2 e3 e4 i5 i6 i7 zb eb dr sr hSt nB hB1 s1; grind) (Rat.le_of_lt hu)
        clear hS hM hd4 hI hN hZ hT e1 e2 e3 e4 i5 i6 i7 zb eb dr sr hSt nB hB1 s1 hH2
        grind
      have q4 := mul_le2 q1 q1 (Rat.add_nonneg i4 hpos) (by decide +kernel)
      refine Rat.le_trans q4 (Rat.le_trans (b := 4 * (1 / 2 ^ 68)) (by decide +kernel) ?_)
      exact Rat.mul_le_mul_of_nonneg_left s2 (by decide +kernel)
    obtain ⟨V2, hIv⟩ := iv_next hS hM hd4 hI (by clear hS hM hd4 hI hN hZ hT e1 e2 e3 e4 i5 i6 i7 zb eb dr sr hSt nB hB1 s1 hH2; grind) kr2 hr hZ hT s1 hH2 (by clear hS hM hd4 hI hN hZ hT e1 e2 e3 e4 i5 i6 i7 zb eb dr sr hSt nB hB1 s1 hH2; grind) (by clear hS hM hd4 hI hN hZ hT e1 e2 e3 e4 i5 i6 i7 zb eb dr sr hSt nB hB1 s1 hH2; grind) (by clear hS hM hd4 hI hN hZ hT e1 e2 e3 e4 i5 i6 i7 zb eb dr sr hSt nB hB1 s1 hH2; grind) s3 s4 hH2n sr
    refine ⟨B2, _, _, V2, by rw [kc]; exact hIv, s2, Or.inr ⟨N, by omega, ?_, ?_, ?_⟩⟩
    · rw [kc]
      generalize 1 / c2 = y at *
      have hG : G ≤ 40 * 2 ^ 46 + 40 * (62 / 10 * 2 ^ 60) := by clear hS hM hd4 hI hN hZ hT e1 e2 e3 e4 i5 i6 i7 zb eb dr sr hSt nB hB1 s1 hH2 hIv; grind
      clear hS hM hd4 hI hN hZ hT e1 e2 e3 e4 i5 i6 i7 zb eb dr sr hSt nB hB1 s1 hH2 hIv hu
      unfold uu
      grind
    · rw [kc]
      clear hS hM hd4 hI hN hZ hT e1 e2 e3 e4 i5 i6 i7 zb eb dr sr hSt nB hB1 s1 hH2 hIv
      unfold uu at *
      grind
    · rw [kc]
      clear hS hM hd4 hI hN hZ hT e1 e2 e3 e4 i5 i6 i7 zb eb dr sr hSt nB hB1 s1 hH2 hIv
      grind
theorem round_first {e : Nat → Nat → Rat} {dg om : Nat → Rat} {T : Nat → Prop} (hS : Sys e dg om T) {D er : Nat → Rat} {rk : Nat → Nat} (hM : Mak e dg om T D er rk) (hd4 : ∀ c, c < 36 → dg c ≤ 4) {rp z f : Nat → Rat} {R c2 : Rat} (hr : ∀ j, ¬ T j → rp j = 0) (hZ : Zn e T D rp z f R c2) (hE : EB e dg (PS e dg om T) rp 9999) (hH : HB e dg rp (3000 * uu)) : ∃ B2 H2 G2 V2, Iv e dg om T rp z c2 B2 H2 G2 V2 ((1 : Nat) : Rat) ∧ 1 / 2 ^ 68 ≤ B2 ∧ Ph B2 H2 G2 1 := by
  have zl := nx_l hS hM hd4 hr hZ
  have zc := nx_c hS hM hd4 hr hZ
  have zb := nx_eb hS hM hd4 hr hZ
  have ic := inv_c hS hM hd4 hr hZ
  obtain ⟨B2, s1, s2, s3, s4, s5⟩ := b_sel (B := 9999) hE zb (by decide +kernel) (by decide +kernel) zl (by decide +kernel)
  obtain ⟨V2, hIv⟩ := iv_first hS hM hd4 hr hZ s1 hH (by decide +kernel) (by clear hS hM hd4 hr hZ hE hH zb s1; grind) (by clear hS hM hd4 hr hZ hE hH zb s1; grind) s4 (by
    refine Rat.le_trans (b := 4 * (1 / 2 ^ 68)) (by decide +kernel) ?_
    exact Rat.mul_le_mul_of_nonneg_left s2 (by decide +kernel))
  refine ⟨B2, _, _, V2, hIv, s2, ?_⟩
  by_cases hc2 : 1 / 2 ^ 45 ≤ c2
  · left
    have c1 : 1 / c2 ≤ 2 ^ 45 := by
      have c0 : 0 < c2 := hIv.2.1.1
      refine Rat.le_of_mul_le_mul_right (c := c2) ?_ c0
      have e9 : 1 / c2 * c2 = 1 := by clear hS hM hd4 hr hZ hE hH zb s1 hIv; grind
      rw [e9]
      clear hS hM hd4 hr hZ hE hH zb s1 hIv
      grind
    have k1 : ((1 : Nat) : Rat) = 1 := rfl
    refine ⟨?_, ?_, ?_⟩
    · rw [k1]
      clear hS hM hd4 hr hZ hE hH zb s1 hIv
      grind
    · rw [k1]
      clear hS hM hd4 hr hZ hE hH zb s1 hIv
      unfold uu
      grind
    · rw [k1]
      clear hS hM hd4 hr hZ hE hH zb s1 hIv
      grind
  · right
    have k1 : ((1 : Nat) : Rat) = 1 := rfl
    have k0 : ((0 : Nat) : Rat) = 0 := rfl
    refine ⟨0, by omega, ?_, ?_, ?_⟩
    · rw [k1, k0]
      clear hS hM hd4 hr hZ hE hH zb s1 hIv
      grind
    · rw [k1, k0]
      decide +kernel
    · rw [k1]
      rw [ab_le] at zc
      clear hS hM hd4 hr hZ hE hH zb s1 hIv
      grind
