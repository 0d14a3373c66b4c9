/-! a step: no NaN, whole -/
theorem gat_v {S : cS} {T : mS} {np nq : Nat} (h : Tie S T np nq) {f : Nat} (hf : f < 84) : fn (gatG (mF T 3) np f) ∧ ab (rv (gatG (mF T 3) np f)) ≤ 8 + 2048 * uu := by
  obtain ⟨m1, m2⟩ := fc_m ⟨f, hf⟩
  have v1 := mag_val (K := 1026) (by omega) m1
  have v2 := mag_val (K := 1026) (by omega) m2
  have e : (2 : Rat) ^ (((1026 : Nat) : Int) - 1023) = 8 := by decide +kernel
  rw [e] at v1 v2
  unfold gatG
  refine gF_v h.now.n24 (fun k hk => ?_) v1 v2
  obtain ⟨a, b, c, d⟩ := bad_v (h.now.p2 k hk)
  refine ⟨a, b, ?_⟩
  unfold fcA
  split
  · exact c
  · exact d
theorem stX_ok {S : cS} {T : mS} {np nq R : Nat} {t : UInt64} (h : Tie S T np nq) (h40 : R ≤ 40) (ht : fn t ∧ 0 ≤ rv t ∧ rv t ≤ 1) : stOk1 T np R t ∧ (∀ c, c < 36 → fn (mD (svF (stX T np t) R).2 16 c) ∧ ab (rv (mD (svF (stX T np t) R).2 16 c)) ≤ 2 ^ 107 ∧ fn (mD (svF (stX T np t) R).2 17 c)) ∧ ∀ f, f < 84 → fn (mD (stX T np t) 13 f) ∧ ab (rv (mD (stX T np t) 13 f)) ≤ 12 + 2100 * uu := by
  have hp := pull_v h.now.o1
  have e12 : ∀ f, f < 84 → mD (stB (stA (mI' T 0 (nI 0)) np) np) 12 f = gatG (mF T 3) np f := fun f hf => fil_in _ _ hf
  have hb : ∀ f, f < 84 → fn (mD (stB (stA (mI' T 0 (nI 0)) np) np) 12 f) ∧ ab (rv (mD (stB (stA (mI' T 0 (nI 0)) np) np) 12 f)) ≤ 8 + 2048 * uu := fun f hf => by
    rw [e12 f hf]
    exact gat_v h hf
  have hfr : ∀ f, f < 84 → _ := fun f hf => frc_v (sol := mA T 1) (t := t) (pull := mD T 4 0) (hb f hf) ht hp
  have e13 : ∀ f, f < 84 → mD (stC (stB (stA (mI' T 0 (nI 0)) np) np) t) 13 f = frcG (mD (stB (stA (mI' T 0 (nI 0)) np) np) 12) (mA T 1) t (mD T 4 0) f := fun f hf => fil_in _ _ hf
  have e10 : mA (stC (stB (stA (mI' T 0 (nI 0)) np) np) t) 10 = fluR (mF T 3) (mA T 10) np := rfl
  have e1 : mA (stC (stB (stA (mI' T 0 (nI 0)) np) np) t) 1 = mA T 1 := rfl
  have e6 : mD (stC (stB (stA (mI' T 0 (nI 0)) np) np) t) 6 = mD T 6 := rfl
  have key := mx_all (X := stC (stB (stA (mI' T 0 (nI 0)) np) np) t) (cell := fun k => (cellI (mF T 3 (4 * k)) (mF T 3 (4 * k + 1))).toNatClampNeg) h.now.n24 (fun c hc hz => by
      rw [e10] at hz
      rw [e1]
      obtain ⟨k, hk, hk2⟩ := flu_1 hc np hz
      rw [← hk2]
      exact h.now.p3 k hk) (fun c hc hz => by
      rw [e10] at hz
      exact flu_1 hc np hz) (fun f hf => by
      rw [e13 f hf]
      obtain ⟨-, a, b, c, -⟩ := hfr f hf
      exact ⟨a, b, c⟩) (fun f hf hcl => by
      rw [e13 f hf]
      rw [e1] at hcl
      exact (hfr f hf).2.2.2.2 hcl) (by rw [e6]; exact h.now.o3)
  obtain ⟨k1, k2⟩ := key
  obtain ⟨k3, k4⟩ := k2 R h40
  refine ⟨⟨nn_ga h, fun f hf => (hfr f hf).1, k1, k3⟩, k4, fun f hf => ?_⟩
  have e13x : mD (stX T np t) 13 f = mD (stC (stB (stA (mI' T 0 (nI 0)) np) np) t) 13 f := rfl
  rw [e13x, e13 f hf]
  obtain ⟨-, a, -, c, -⟩ := hfr f hf
  exact ⟨a, c⟩
theorem stP_ok {S : cS} {T W : mS} {np nq : Nat} {t : UInt64} (h : Tie S T np nq) (ht : fn t ∧ 0 ≤ rv t ∧ rv t ≤ 1) (hm : frM (stX T np t) W) (hp : ∀ c, c < 36 → fn (mD W 16 c) ∧ ab (rv (mD W 16 c)) ≤ 2 ^ 107 ∧ fn (mD W 17 c)) (ha : ∀ f, f < 84 → fn (mD (stX T np t) 13 f) ∧ ab (rv (mD (stX T np t) 13 f)) ≤ 12 + 2100 * uu) : stOk2 W np t := by
  obtain ⟨m1, m2, m3, m4, m5⟩ := m_frame hm
  have e13 : mD W 13 = mD (stX T np t) 13 := hm.2.2.2.2 13 (by omega)
  have e12 : ∀ f, f < 84 → mD W 12 f = gatG (mF T 3) np f := fun f hf => by
    rw [hm.2.2.2.2 12 (by omega)]
    exact fil_in _ _ hf
  have e3 : mF W 3 = mF T 3 := by show W.2.2.2.1 3 = _; rw [m4]
  have e5 : mF W 5 = mF T 5 := by show W.2.2.2.1 5 = _; rw [m4]
  have pj : ∀ f, f < 84 → _ := fun f hf => pj_v (af := mD W 13) (p := mD W 16) (sol := mA W 1) (fl := mA W 10) (f := f) (by rw [e13]; exact ha f hf) (fun c hc => ⟨(hp c hc).1, (hp c hc).2.1⟩)
  have hA : ∀ f, f < 84 → fn (mD (stP W) 13 f) ∧ ab (rv (mD (stP W) 13 f)) ≤ 2 ^ 109 := fun f hf => by
    have e : mD (stP W) 13 f = pjG (mD W 13) (mD W 16) (mA W 1) (mA W 10) f := fil_in _ _ hf
    rw [e]
    exact (pj f hf).2
  have p12 : mD (stP W) 12 = mD W 12 := rfl
  have p3 : mF (stP W) 3 = mF W 3 := rfl
  have p5 : mF (stP W) 5 = mF W 5 := rfl
  have hB : ∀ f, f < 84 → fn (mD (stP W) 12 f) ∧ ab (rv (mD (stP W) 12 f)) ≤ 16 := fun f hf => by
    rw [p12, e12 f hf]
    exact ⟨(gat_v h hf).1, Rat.le_trans (gat_v h hf).2 (by decide +kernel)⟩
  have hx : ∀ k, k < np → _ := fun k hk => bad_v (h.now.p2 k hk)
  have hv : ∀ k, k < np → _ := fun k hk => bad_m (h.now.p2 k hk)
  have hmi : miOkS (stP W) np := fun k hk => by
    obtain ⟨x1, x2, -, -⟩ := hx k hk
    obtain ⟨-, -, v1, v2⟩ := hv k hk
    have x200 : fn (FP.f2d (mF T 3 (4 * k))) ∧ ab (rv (FP.f2d (mF T 3 (4 * k)))) ≤ 2 ^ 200 := ⟨x1.1, Rat.le_trans x1.2 (by decide +kernel)⟩
    have y200 : fn (FP.f2d (mF T 3 (4 * k + 1))) ∧ ab (rv (FP.f2d (mF T 3 (4 * k + 1)))) ≤ 2 ^ 200 := ⟨x2.1, Rat.le_trans x2.2 (by decide +kernel)⟩
    have one : ∀ u, mixOk (stP W) u k := fun u => by
      have s1 := sm_v hA (by decide +kernel) Rat.le_refl u x200 y200
      have s2 := sm_v hB (by decide) (by decide +kernel) u x200 y200
      unfold mixOk
      rw [p3, p5, e3, e5]
      refine ⟨n64_fn x1.1, n64_fn x2.1, s1.1, s2.1, mi_v (share_m h.now.o2) ?_ s1.2 s2.2⟩
      unfold miV
      split
      · exact v1
      · exact v2
    exact ⟨one true, one false⟩
  refine ⟨fun f hf => (pj f hf).1, hmi, fun k hk => ?_, fun c hc => amt_n (hp c hc).2.2⟩
  obtain ⟨x1, x2, -, -⟩ := hx k hk
  have q13 : mD (stM (stP W) np) 13 = mD (stP W) 13 := rfl
  have q3 : mF (stM (stP W) np) 3 = mF W 3 := rfl
  have q21 : mF (stM (stP W) np) 21 = mixR (stP W) (mF W 21) np := rfl
  rw [q13, q3, q21, e3]
  obtain ⟨mx1, mx2⟩ := mix_at (stP W) (mF W 21) (d := k) np hk
  obtain ⟨o1, o2⟩ := hmi k hk
  refine mv_v hA ht x1 x2 ?_ ?_
  · rw [mov_hi (stM (stP W) np) t (mixR (stP W) (mF W 21) np) k (by omega), mx1]
    exact mix_off o1
  · rw [mov_hi (stM (stP W) np) t (mixR (stP W) (mF W 21) np) k (by omega), mx2]
    exact mix_off o2
theorem no_nan : noNaN := fun S T np nq R t h hR h40 ht hok => by
  have tv := t_v ht hok
  obtain ⟨o1, o2, o3⟩ := stX_ok (R := R) h h40 tv
  obtain ⟨-, -, -, -, -, -, r4⟩ := pre_tie h o1
  exact ⟨o1, fun _ => stP_ok h tv r4 o2 o3⟩
