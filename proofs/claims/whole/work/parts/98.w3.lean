/-! step, tied: a step that succeeds -/
theorem bad_mk {x y a b : UInt32} (h1 : offB x 1031798784 1086193664 = false) (h2 : offB y 1031798784 1086193664 = false) (h3 : offB a 3238002688 1090519040 = false) (h4 : offB b 3238002688 1090519040 = false) : badA x y a b = false := by
  unfold badA
  rw [h1, h2, h3, h4]
  rfl
theorem bad_un {x y a b : UInt32} (h : badA x y a b = false) : offB x 1031798784 1086193664 = false ∧ offB y 1031798784 1086193664 = false ∧ offB a 3238002688 1090519040 = false ∧ offB b 3238002688 1090519040 = false := by
  unfold badA at h
  rw [Bool.or_eq_false_iff, Bool.or_eq_false_iff, Bool.or_eq_false_iff] at h
  exact ⟨h.1, h.2.1, h.2.2.1, h.2.2.2⟩
theorem off_0 : offB FP.fconst0 3238002688 1090519040 = false := by decide +kernel
theorem mv_inv {A : Nat → UInt64} {N : Nat → UInt32} {sol : Nat → Int32} {t : UInt64} {x y : UInt32} {k : Nat} (ok : mvOk A N t x y k) (hx : offB x 1031798784 1086193664 = false) (hy : offB y 1031798784 1086193664 = false) (ha : offB (N (4 * k + 2)) 3238002688 1090519040 = false) (hb : offB (N (4 * k + 3)) 3238002688 1090519040 = false) (hc : sol (cellI x y).toNatClampNeg = 0) : badA (mvF A N sol t x y k (4 * k)) (mvF A N sol t x y k (4 * k + 1)) (mvF A N sol t x y k (4 * k + 2)) (mvF A N sol t x y k (4 * k + 3)) = false ∧ sol (cellI (mvF A N sol t x y k (4 * k)) (mvF A N sol t x y k (4 * k + 1))).toNatClampNeg = 0 := by
  obtain ⟨-, -, o3, o4, -, -⟩ := ok
  have nX := o3.2.2.2.2
  have nY := o4.2.2.2.2
  have F := mvF_0 (A := A) (N := N) (sol := sol) (t := t) (x := x) (y := y) (k := k) rfl rfl
  by_cases h0 : sol (cellI (edV (mv3 A t x true (mv2 A t x y true x) (mv2 A t x y false y))) (edV (mv3 A t y false (mv2 A t x y true x) (mv2 A t x y false y)))).toNatClampNeg = 0
  · obtain ⟨f1, f2, f3, f4⟩ := F.1 h0
    rw [f1, f2, f3, f4]
    exact ⟨bad_mk (edV_off nX) (edV_off nY) (flp_off ha) (flp_off hb), h0⟩
  · obtain ⟨f1, f2, f3, f4⟩ := F.2.1 h0
    rw [f1, f2, f3, f4]
    exact ⟨bad_mk hx hy off_0 off_0, hc⟩
theorem z_F3 (W : mS) (np : Nat) (t : UInt64) : mF (stZ W np t) 3 = filR (movR (stM (stP W) np) t (mixR (stP W) (mF W 21) np) np) (mF W 3) (4 * np) := rfl
theorem z_D8 (W : mS) (np : Nat) (t : UInt64) : mD (stZ W np t) 8 = filR (mD (stP W) 13) (mD W 8) 84 := rfl
theorem z_D9 (W : mS) (np : Nat) (t : UInt64) : mD (stZ W np t) 9 = filR (mD W 16) (mD W 9) 36 := rfl
theorem z_G (W : mS) (np : Nat) (t : UInt64) : mG (stZ W np t) = rsF (mD W 17) 36 := rfl
theorem fa_n {T W : mS} {np R : Nat} {t : UInt64} (ok1 : stOk1 T np R t) (hm : frM (stX T np t) W) (k1 : pjOkS W) {f : Nat} (hf : f < 84) : vf_n64 (mD (stP W) 13 f) := by
  obtain ⟨o1, o2, o3, o4⟩ := ok1
  have e : mD (stP W) 13 f = pjG (mD W 13) (mD W 16) (mA W 1) (mA W 10) f := fil_in _ _ hf
  rw [e]
  refine pj_n ?_ (k1 f hf)
  have e2 : mD W 13 f = frcG (mD (stC (stB (stA (mI' T 0 (nI 0)) np) np) t) 12) (mA T 1) t (mD T 4 0) f := by
    rw [hm.2.2.2.2 13 (by omega)]
    exact st_13 T np t hf
  rw [e2]
  have o2' := o2 f hf
  refine fr_n ?_ o2'
  rw [st_12 T np t hf]
  exact (o1 f hf).2
theorem tie_Z {S V : cS} {T W : mS} {np nq R : Nat} {t : UInt64} (h : Tie S T np nq) (hc : frC (spA S np t) V) (hm : frM (stX T np t) W) (sl : slT V W) (hg0 : grT (spA S np t) (stX T np t)) (ok1 : stOk1 T np R t) (ok2 : stOk2 W np t) (h16 : ∀ c, c < 36 → vf_n64 (mD W 16 c)) : Tie (spD (kpS (pmS (spV (spU V)) np t))) (stZ W np t) np nq ∧ (uOk V ∧ vOk (spU V)) ∧ pmOk (spV (spU V)) np t := by
  have hg : grT V W := gr_cg hg0 (fun p h1 h2 => hc.2.2.2.2.2 p (by omega)) (hm.2.2.2.2 12 (by omega)) (hm.2.2.2.2 13 (by omega))
  obtain ⟨c1, c2, c3, c4, c5, c6⟩ := c_frame hc
  obtain ⟨m1, m2, m3, m4, m5⟩ := m_frame hm
  have w1 : mA W 1 = mA T 1 := m3 1 (by omega) (by omega)
  have v11 : cA V 11 = cA S 11 := c4 11 (by omega)
  have hs : ∀ c, c < 36 → cA V 11 c = mA W 1 c := fun c hc => by rw [v11, w1]; exact h.now.s1 c hc
  have htk : ∀ c, c < 36 → cA V 27 c = xb (tkB (mA W 1) (mA W 10) c) := fun c hc => by
    rw [sl.1 c hc]
    show W.2.2.1 11 c = xb (tkB (W.2.2.1 1) (W.2.2.1 10) c)
    rw [hm.2.2.1]
    exact m11 _ hc
  obtain ⟨p1, p2⟩ := pj_tie hg hs htk sl.2.2.2.1
  obtain ⟨k1, k2, k3, k4⟩ := ok2
  have vF : V.2.2.2.2.1 = S.2.2.2.2.1 := c5
  have wF : W.2.2.2.1 = T.2.2.2.1 := m4
  have hh : cH (spV (spU V)) 0 = mF (stP W) 5 0 := by
    show V.2.2.1 0 = W.2.2.2.1 5 0
    rw [c3, wF]
    exact h.now.e2
  have hp : ∀ k, k < np → cF (spV (spU V)) 12 k = mF (stP W) 3 (4 * k) ∧ cF (spV (spU V)) 13 k = mF (stP W) 3 (4 * k + 1) ∧ cF (spV (spU V)) 14 k = mF (stP W) 3 (4 * k + 2) ∧ cF (spV (spU V)) 15 k = mF (stP W) 3 (4 * k + 3) := fun k hk => by
    show V.2.2.2.2.1 12 k = W.2.2.2.1 3 (4 * k) ∧ V.2.2.2.2.1 13 k = W.2.2.2.1 3 (4 * k + 1) ∧ V.2.2.2.2.1 14 k = W.2.2.2.1 3 (4 * k + 2) ∧ V.2.2.2.2.1 15 k = W.2.2.2.1 3 (4 * k + 3)
    rw [vF, wF]
    exact h.now.p1 k hk
  obtain ⟨r1, r2⟩ := rv_tie p1 hh hp
  obtain ⟨d1, d2, d3, d4, d5, d6⟩ := rv_D (spV (spU V)) np
  have gU : grT (rvL (spV (spU V)) np) (stM (stP W) np) := gr_cg p1 (fun p _ _ => by show (rvL (spV (spU V)) np).2.2.2.2.2 p = _; rw [d1]) rfl rfl
  have sU : ∀ c, c < 36 → cA (rvL (spV (spU V)) np) 11 c = mA (stM (stP W) np) 1 c := fun c hc => by
    show (rvL (spV (spU V)) np).2.2.2.1 11 c = _
    rw [d3]
    exact hs c hc
  have pU : ∀ k, k < np → cF (rvL (spV (spU V)) np) 12 k = mF (stM (stP W) np) 3 (4 * k) ∧ cF (rvL (spV (spU V)) np) 13 k = mF (stM (stP W) np) 3 (4 * k + 1) ∧ cF (rvL (spV (spU V)) np) 14 k = mixR (stP W) (mF W 21) np (4 * k + 2) ∧ cF (rvL (spV (spU V)) np) 15 k = mixR (stP W) (mF W 21) np (4 * k + 3) := fun k hk => by
    obtain ⟨a1, a2, a3, a4⟩ := r1 k hk
    rw [(mix_at (stP W) (mF W 21) np hk).1, (mix_at (stP W) (mF W 21) np hk).2]
    exact ⟨a1, a2, a3, a4⟩
  obtain ⟨q1, q2⟩ := mp_tie gU sU pU k3
  refine ⟨?_, p2 k1, r2 k2, q1⟩
  have fP := frP_L (rvL (spV (spU V)) np) t np
  have eM : pmS (spV (spU V)) np t = mpL (rvL (spV (spU V)) np) t np := rfl
  rw [eM]
  have hpos : ∀ k, k < np → badA (movR (stM (stP W) np) t (mixR (stP W) (mF W 21) np) np (4 * k)) (movR (stM (stP W) np) t (mixR (stP W) (mF W 21) np) np (4 * k + 1)) (movR (stM (stP W) np) t (mixR (stP W) (mF W 21) np) np (4 * k + 2)) (movR (stM (stP W) np) t (mixR (stP W) (mF W 21) np) np (4 * k + 3)) = false ∧ mA W 1 (cellI (movR (stM (stP W) np) t (mixR (stP W) (mF W 21) np) np (4 * k)) (movR (stM (stP W) np) t (mixR (stP W) (mF W 21) np) np (4 * k + 1))).toNatClampNeg = 0 := fun k hk => by
    rw [mov_lo _ t _ (d := k) (by omega) np hk, mov_lo _ t _ (d := k) (by omega) np hk, mov_lo _ t _ (d := k) (by omega) np hk, mov_lo _ t _ (d := k) (by omega) np hk]
    obtain ⟨b1, b2, -, -⟩ := bad_un (h.now.p2 k hk)
    have b3 := h.now.p3 k hk
    have e0 : mF W 3 = mF T 3 := by show W.2.2.2.1 3 = _; rw [wF]
    refine mv_inv (k3 k hk) (by show offB (mF W 3 (4 * k)) _ _ = false; rw [e0]; exact b1) (by show offB (mF W 3 (4 * k + 1)) _ _ = false; rw [e0]; exact b2) ?_ ?_ (by show mA W 1 (cellI (mF W 3 (4 * k)) (mF W 3 (4 * k + 1))).toNatClampNeg = 0; rw [w1, e0]; exact b3)
    · rw [mov_hi _ t _ k (by omega)]
      show offB (mixR (stP W) (mF W 21) np (4 * k + 2)) _ _ = false
      rw [(mix_at (stP W) (mF W 21) np hk).1]
      exact mix_off (k2 k hk).1
    · rw [mov_hi _ t _ k (by omega)]
      show offB (mixR (stP W) (mF W 21) np (4 * k + 3)) _ _ = false
      rw [(mix_at (stP W) (mF W 21) np hk).2]
      exact mix_off (k2 k hk).2
  obtain ⟨f1, f2, f3, f4, f5, f6⟩ := fP
  generalize mpL (rvL (spV (spU V)) np) t np = M at q2 f1 f2 f3 f4 f5 f6 ⊢
  have e1 : M.1 = S.1 := f1.trans (d5.trans c1)
  have e2 : M.2.1 = S.2.1 := f2.trans (d4.trans c2)
  have e3 : M.2.2.1 = S.2.2.1 := f3.trans (d2.trans c3)
  have e4 : M.2.2.2.1 = V.2.2.2.1 := f4.trans d3
  have e5 : M.2.2.2.2.2 = (spV (spU V)).2.2.2.2.2 := f5.trans d1
  have e6 : ∀ q, 15 < q → cF M q = cF S q := fun q hq => by
    rw [f6 q (Or.inr hq), d6 q (by omega) (by omega)]
    show V.2.2.2.2.1 q = _
    rw [vF]
  have a11 : cA M 11 = cA S 11 := by show M.2.2.2.1 11 = _; rw [e4]; exact v11
  have a16 : cA M 16 = cA S 16 := by show M.2.2.2.1 16 = _; rw [e4]; exact c4 16 (by omega)
  have w2 : mA W 2 = mA T 2 := m3 2 (by omega) (by omega)
  have w7 : mA W 7 = mA T 7 := m3 7 (by omega) (by omega)
  have w4 : mD W 4 = mD T 4 := m5 4 (by omega)
  have w6 : mD W 6 = mD T 6 := m5 6 (by omega)
  have wf5 : mF W 5 = mF T 5 := by show W.2.2.2.1 5 = _; rw [wF]
  have wf3 : mF W 3 = mF T 3 := by show W.2.2.2.1 3 = _; rw [wF]
  have i_ : ∀ n, cI M n = cI S n := fun n => by show M.1 n = _; rw [e1]
  have g_ : ∀ n, cG M n = cG S n := fun n => by show M.2.1 n = _; rw [e2]
  have h_ : ∀ n, cH M n = cH S n := fun n => by show M.2.2.1 n = _; rw [e3]
  have D_ : ∀ q, cD M q = cD (spV (spU V)) q := fun q => by show M.2.2.2.2.2 q = _; rw [e5]
  have n24 := h.now.n24
  have z3 : ∀ k m, k < np → m < 4 → mF (stZ W np t) 3 (4 * k + m) = movR (stM (stP W) np) t (mixR (stP W) (mF W 21) np) np (4 * k + m) := fun k m hk hm => by
    rw [z_F3, fil_in _ _ (by omega)]
  have z30 : ∀ k, k < np → mF (stZ W np t) 3 (4 * k) = movR (stM (stP W) np) t (mixR (stP W) (mF W 21) np) np (4 * k) := fun k hk => z3 k 0 hk (by omega)
  refine ⟨now_cg h.now (i_ 0) (i_ 1) (g_ 0) (g_ 1) (h_ 0) a11 (congrFun w2 0) w1 (congrFun w4 0) (congrFun w6 0) (congrFun wf5 0) (congrFun w7 0) (fun k hk => ?_) (fun k hk => ?_) (fun k hk => ?_), mrk_cg h.mrk (i_ 3) (i_ 2) (g_ 2) (g_ 3) (h_ 1) a16 (e6 17 (by omega)) (e6 18 (by omega)) (e6 19 (by omega)) (e6 20 (by omega)) (congrFun w2 1) w1 (congrFun w4 1) (congrFun w6 1) (congrFun wf5 1) (congrFun w7 1) (fun m hm => ?_), ?_, ?_, ?_, ?_⟩
  · rw [z30 k hk, z3 k 1 hk (by omega), z3 k 2 hk (by omega), z3 k 3 hk (by omega)]
    exact q2 k hk
  · rw [z30 k hk, z3 k 1 hk (by omega), z3 k 2 hk (by omega), z3 k 3 hk (by omega)]
    exact (hpos k hk).1
  · rw [z30 k hk, z3 k 1 hk (by omega), ← w1]
    exact (hpos k hk).2
  · rw [z_F3]
    unfold filR
    rw [if_neg (by omega), wf3]
  · refine ⟨fun i j hi hj => ?_, fun i j hi hj => ?_, fun c hc => ?_, ?_, ?_, ?_, ?_⟩
    · show va_cpy (cD M 23) (cD M 25) 0 0 49 (7 * j + i) = _ ∧ _
      rw [z_D8, fil_in _ _ (by omega), cpy_49 _ _ (by omega), D_ 23]
      exact ⟨(p1.1 i j hi hj).2, fa_n ok1 hm k1 (by omega)⟩
    · show va_cpy (cD M 24) (cD M 26) 0 0 49 (7 * j + i) = _ ∧ _
      rw [z_D8, fil_in _ _ (by omega), cpy_49 _ _ (by omega), D_ 24]
      exact ⟨(p1.2 i j hi hj).2, fa_n ok1 hm k1 (by omega)⟩
    · show va_cpy (cD M 30) (cD M 35) 0 0 36 c = _ ∧ _
      rw [z_D9, fil_in _ _ hc, cpy_in _ _ (by omega) (by omega), D_ 30]
      have e9 : 0 + (c - 0) = c := by omega
      rw [e9]
      exact ⟨sl.2.2.2.1 c hc, h16 c hc⟩
    · show rsC (cD M 31) 36 = rsF (mD W 17) 36
      rw [D_ 31]
      exact rs_tie sl
    · rw [z_G]
      exact rs_n 36 k4
    · show cI M 4 + nI 1 = W.1 1 + nI 1
      rw [i_ 4, m1, h.lat.d1]
      rfl
    · show cI M 5 = W.1 2
      rw [i_ 5, m1, h.lat.f1]
      rfl
  · show isB (mA W 1)
    rw [w1]
    exact h.b1
  · show isB (cA M 11)
    rw [a11]
    exact h.b2
  · show isB (cA M 16)
    rw [a16]
    exact h.b3
