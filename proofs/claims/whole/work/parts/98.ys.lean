/-! a step: no NaN -/
theorem amt_n {x : UInt64} (hx : fn x) : vf_n64 (amtF x) := by
  unfold amtF
  split
  · exact n64_fn hx
  · exact n64_of ((FP.Core.notNaN_iff _).mp (FP.Core.dsub_out ((FP.Core.notNaN_iff _).mpr fn_c0.ne_nan) hx))
theorem cl_sd {sol : Nat → Int32} {f : Nat} (h : clB sol f = false) : sdN f false < 36 ∧ sdN f true < 36 := by
  have k : ∀ b, ¬ sideI f b < 0 := fun b z => by
    rw [cl_of (Or.inl z)] at h
    cases h
  have g : ∀ b, sdN f b < 36 := fun b => by
    obtain ⟨c, hc, e⟩ := sideI_in (k b)
    unfold sdN
    rw [e, nI_clamp (by omega)]
    exact hc
  exact ⟨g false, g true⟩
theorem num_l1 {x p q : Rat} (h : ab x ≤ 17 / 16 * ab (p - q) + 1 / 16) (hp : ab p ≤ 2 ^ 107) (hq : ab q ≤ 2 ^ 107) : ab x ≤ 17 / 16 * 2 ^ 108 + 1 / 16 := by
  have := ab_sub p q
  generalize ab (p - q) = X at *
  grind
theorem num_l2 {y a x : Rat} (h : ab y ≤ 17 / 16 * ab (a - x) + 1 / 16) (ha : ab a ≤ 12 + 2100 * uu) (hx : ab x ≤ 17 / 16 * 2 ^ 108 + 1 / 16) : ab y ≤ 2 ^ 109 := by
  have := ab_sub a x
  generalize ab (a - x) = X at *
  unfold uu at *
  grind
/-- the pressure applied -/
theorem pj_v {af p : Nat → UInt64} {sol fl : Nat → Int32} {f : Nat} (ha : fn (af f) ∧ ab (rv (af f)) ≤ 12 + 2100 * uu) (hp : ∀ c, c < 36 → fn (p c) ∧ ab (rv (p c)) ≤ 2 ^ 107) : pjOk af p sol fl f ∧ fn (pjG af p sol fl f) ∧ ab (rv (pjG af p sol fl f)) ≤ 2 ^ 109 := by
  have k : clB sol f = false → fn (pjD p f) ∧ fn (FP.dsub (af f) (pjD p f)) ∧ ab (rv (FP.dsub (af f) (pjD p f))) ≤ 2 ^ 109 := fun h => by
    obtain ⟨h1, h2⟩ := cl_sd h
    have s := sub_small (hp _ h2).1 (hp _ h1).1 (Rat.le_trans (hp _ h2).2 (by decide +kernel)) (Rat.le_trans (hp _ h1).2 (by decide +kernel))
    have sb := num_l1 (rd_l s) (hp _ h2).2 (hp _ h1).2
    have s2 := sub_small ha.1 s.1 (Rat.le_trans ha.2 (by decide +kernel)) (Rat.le_trans sb (by decide +kernel))
    exact ⟨s.1, s2.1, num_l2 (rd_l s2) ha.2 sb⟩
  have a0 : fn (af f) ∧ ab (rv (af f)) ≤ 2 ^ 109 := ⟨ha.1, Rat.le_trans ha.2 (by decide +kernel)⟩
  refine ⟨fun h _ => ⟨n64_fn (k h).1, n64_fn (k h).2.1⟩, ?_⟩
  unfold pjG
  by_cases h : clB sol f = true
  · rw [if_pos h]
    exact a0
  · rw [if_neg h]
    have h := eq_false_of_ne_true h
    split
    · exact (k h).2
    · split
      · exact a0
      · exact (k h).2
theorem share_m {g : UInt32} (h : okShare g = true) : mgf 128 g := by
  have ho : offB g FP.fconst0 FP.fconst1 = false := by
    unfold okShare at h
    unfold offB
    split
    · rename_i h1
      rw [if_pos h1] at h
      cases h
    · rename_i h1
      rw [if_neg h1] at h
      split
      · rfl
      · rename_i h2
        rw [if_neg h2] at h
        cases h
  obtain ⟨-, h1, h2⟩ := off_key ho (by unfold vf_n32; decide) (by unfold vf_n32; decide)
  have e1 : FP.Core.fkey FP.fconst0 = 0 := by decide +kernel
  have e2 : FP.Core.fkey FP.fconst1 = 1065353216 := by decide +kernel
  rw [e1] at h1
  rw [e2] at h2
  exact key_m (by omega) (by omega)
theorem num_l3 {x a b : Rat} (h : ab x ≤ 17 / 16 * ab (a - b) + 1 / 16) (ha : ab a ≤ 1024 * 2 ^ 109) (hb : ab b ≤ 1024 * 16) : ab x ≤ ((2 ^ 120 : Nat) : Rat) := by
  have := ab_sub a b
  have e : ((2 ^ 120 : Nat) : Rat) = 2 ^ 120 := by decide +kernel
  rw [e]
  generalize ab (a - b) = X at *
  grind
theorem num_l7 {x : Rat} (h : ab x ≤ 1024 * 2 ^ 109) : ab x ≤ ((2 ^ 119 : Nat) : Rat) := by
  refine Rat.le_trans h ?_
  decide +kernel
theorem mi_v {sh v : UInt32} {now was : UInt64} (hs : mgf 128 sh) (hv : mgf 131 v) (hn : fn now ∧ ab (rv now) ≤ 1024 * 2 ^ 109) (hw : fn was ∧ ab (rv was) ≤ 1024 * 16) : miO sh v now was := by
  have s := sub_small hn.1 hw.1 (Rat.le_trans hn.2 (by decide +kernel)) (Rat.le_trans hw.2 (by decide +kernel))
  have sb := num_l3 (rd_l s) hn.2 hw.2
  have d1 := d2f_m (j := 120) s.1 (by omega) sb
  have d1 : mgf 248 (FP.d2f (FP.dsub now was)) := d1
  have nb := num_l7 hn.2
  have d2 := d2f_m (j := 119) hn.1 (by omega) nb
  have d2 : mgf 248 (FP.d2f now) := mgf_up d2 (by omega)
  have a1 : mgf 250 (FP.fadd v (FP.d2f (FP.dsub now was))) := mgf_add (K := 248) (by omega) (mgf_up hv (by omega)) d1
  have m1 : mgf 252 (FP.fmul sh (FP.fadd v (FP.d2f (FP.dsub now was)))) := mgf_mul (K := 128) (M := 250) (by omega) (by omega) hs a1
  have one : mgf 128 FP.fconst1 := by unfold mgf; decide +kernel
  have s1 : mgf 130 (FP.fsub FP.fconst1 sh) := mgf_sub (K := 128) (by omega) one hs
  have m2 : mgf 252 (FP.fmul (FP.fsub FP.fconst1 sh) (FP.d2f now)) := mgf_mul (K := 130) (M := 248) (by omega) (by omega) s1 d2
  have a2 := mgf_add (K := 252) (by omega) m1 m2
  exact ⟨n64_fn s.1, mgf_n (by omega) d1, mgf_n (by omega) a1, mgf_n (by omega) m1, mgf_n (by omega) s1, mgf_n (by omega) d2, mgf_n (by omega) m2, mgf_n (by omega) a2⟩
theorem num_l4 {x a b : Rat} (h : ab x ≤ 17 / 16 * ab (a * b) + 1 / 16) (ha : ab a ≤ 2) (hb : ab b ≤ 1024 * 2 ^ 109) : ab x ≤ 2 ^ 121 := by
  rw [ab_mul] at h
  have := mul_le2 ha hb (ab_nn _) (by decide +kernel)
  generalize ab a * ab b = X at *
  grind
theorem num_l5 {x a b : Rat} (h : ab x ≤ 17 / 16 * ab (a + b) + 1 / 16) (ha : ab a ≤ 8) (hb : ab b ≤ 2 ^ 121) : ab x ≤ ((2 ^ 122 : Nat) : Rat) := by
  have := ab_add a b
  have e : ((2 ^ 122 : Nat) : Rat) = 2 ^ 122 := by decide +kernel
  rw [e]
  generalize ab (a + b) = X at *
  grind
theorem num_l6 {x t : Rat} (h : ab x ≤ 17 / 16 * ab (1 / 2 * t) + 1 / 16) (h0 : 0 ≤ t) (h1 : t ≤ 1) : ab x ≤ 2 := by
  rw [ab_mul, ab_of h0, show ab (1 / 2 : Rat) = 1 / 2 from by decide +kernel] at h
  grind
theorem mv_v {A : Nat → UInt64} {N : Nat → UInt32} {t : UInt64} {x y : UInt32} {k : Nat} (hA : ∀ f, f < 84 → fn (A f) ∧ ab (rv (A f)) ≤ 2 ^ 109) (ht : fn t ∧ 0 ≤ rv t ∧ rv t ≤ 1) (hx : fn (FP.f2d x) ∧ ab (rv (FP.f2d x)) ≤ 8) (hy : fn (FP.f2d y) ∧ ab (rv (FP.f2d y)) ≤ 8) (ha : offB (N (4 * k + 2)) 3238002688 1090519040 = false) (hb : offB (N (4 * k + 3)) 3238002688 1090519040 = false) : mvOk A N t x y k := by
  have F1 : (1 : Rat) ≤ 2 ^ 109 := by decide +kernel
  have x200 : fn (FP.f2d x) ∧ ab (rv (FP.f2d x)) ≤ 2 ^ 200 := ⟨hx.1, Rat.le_trans hx.2 (by decide +kernel)⟩
  have y200 : fn (FP.f2d y) ∧ ab (rv (FP.f2d y)) ≤ 2 ^ 200 := ⟨hy.1, Rat.le_trans hy.2 (by decide +kernel)⟩
  have h5 : fn 4602678819172646912 := (FP.Core.fin_bits _).mpr (by decide +kernel)
  have v5 : rv 4602678819172646912 = 1 / 2 := by decide +kernel
  have ht1 : ab (rv t) ≤ 2 := by rw [ab_of ht.2.1]; exact Rat.le_trans ht.2.2 (by decide)
  have hm := mul_small h5 ht.1 (by rw [v5]; decide +kernel) (Rat.le_trans ht1 (by decide +kernel))
  rw [v5] at hm
  have hmb := num_l6 (rd_l hm) ht.2.1 ht.2.2
  have step : ∀ (c : UInt64) (z : UInt32) (w : UInt64), fn c → ab (rv c) ≤ 2 → (fn (FP.f2d z) ∧ ab (rv (FP.f2d z)) ≤ 8) → (fn w ∧ ab (rv w) ≤ 1024 * 2 ^ 109) → fn (FP.dmul c w) ∧ fn (FP.dadd (FP.f2d z) (FP.dmul c w)) ∧ ab (rv (FP.dadd (FP.f2d z) (FP.dmul c w))) ≤ ((2 ^ 122 : Nat) : Rat) := fun c z w c1 c2 hz hw => by
    have m := mul_small c1 hw.1 (Rat.le_trans c2 (by decide +kernel)) (Rat.le_trans hw.2 (by decide +kernel))
    have mb := num_l4 (rd_l m) c2 hw.2
    have a := add_small hz.1 m.1 (Rat.le_trans hz.2 (by decide +kernel)) (Rat.le_trans mb (by decide +kernel))
    exact ⟨m.1, a.1, num_l5 (rd_l a) hz.2 mb⟩
  have sxy : ∀ u, _ := fun u => sm_v hA F1 Rat.le_refl u x200 y200
  have m2 : ∀ (u : Bool) (z : UInt32), (fn (FP.f2d z) ∧ ab (rv (FP.f2d z)) ≤ 8) → mv2O A t x y u z ∧ fn (mv2 A t x y u z) ∧ ab (rv (mv2 A t x y u z)) ≤ 2 ^ 200 := fun u z hz => by
    obtain ⟨s1, s2, s3⟩ := step _ z _ hm.1 hmb hz (sxy u).2
    exact ⟨⟨n64_fn hx.1, n64_fn hy.1, n64_fn hm.1, (sxy u).1, n64_fn s1, n64_fn s2⟩, s2, Rat.le_trans s3 (by decide +kernel)⟩
  obtain ⟨a1, a2⟩ := m2 true x hx
  obtain ⟨b1, b2⟩ := m2 false y hy
  have m3 : ∀ (u : Bool) (z : UInt32), (fn (FP.f2d z) ∧ ab (rv (FP.f2d z)) ≤ 8) → mv3O A t z u (mv2 A t x y true x) (mv2 A t x y false y) := fun u z hz => by
    have s := sm_v hA F1 Rat.le_refl u a2 b2
    obtain ⟨s1, s2, s3⟩ := step t z _ ht.1 ht1 hz s.2
    exact ⟨n64_fn hz.1, s.1, n64_fn s1, n64_fn s2, mgf_n (by omega) (d2f_m (j := 122) s2 (by omega) s3)⟩
  have ed : ∀ a : UInt32, offB a 3238002688 1090519040 = false → vf_n32 (FP.fmul (FP.fneg a) 1056964608) := fun a h => by
    obtain ⟨h0, h1⟩ := off_b h
    have := half_m (a := FP.fneg a) (m := 1090519040) (by rw [fneg_m h0]; exact h1) (by decide)
    rw [n32_iff]
    omega
  have n2 := (mvA_0 A N t x y k).2.2 (4 * k + 2) (by omega)
  have n3 := (mvA_0 A N t x y k).2.2 (4 * k + 3) (by omega)
  refine ⟨a1, b1, m3 true x hx, m3 false y hy, fun _ => ?_, fun _ => ?_⟩
  · rw [n2]
    exact ed _ ha
  · have e : edS (mvA A N t x y k) (4 * k) (4 * k + 2) (4 * k + 3) = N (4 * k + 3) := by
      unfold edS
      rw [vu_at, if_neg (by omega), vu_at, if_neg (by omega)]
      exact n3
    rw [e]
    exact ed _ hb
