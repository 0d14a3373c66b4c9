/-! the tie: particle, pressure, face, energy, drift -/
theorem part_in {np : Nat} (h24 : np ≤ 24) {k w : Int32} (h : okPart np k w = true) : ∃ a c : Nat, a < np ∧ c < 4 ∧ k = nI a ∧ w = nI c := by
  unfold okPart at h
  split at h
  · cases h
  rename_i h1
  split at h
  · cases h
  rename_i h2
  split at h
  · cases h
  rename_i h3
  split at h
  · rename_i h4
    obtain ⟨a, ha, rfl⟩ := nI_of h1
    obtain ⟨b, hb, rfl⟩ := nI_of h3
    refine ⟨a, b, ?_, ?_, rfl, rfl⟩
    · rw [Int32.le_iff_toInt_le, nI_toInt (by omega), nI_toInt (by omega)] at h2
      omega
    · rw [Int32.le_iff_toInt_le, nI_toInt (by omega), nI_toInt (by omega)] at h4
      omega
  · cases h
theorem tie_part {S : cS} {T : mS} {np nq : Nat} (h : Tie S T np nq) (k w : Int32) : cOk (qPart S np k w) (.float (rPart T np k w).1) (rPart T np k w).2 np nq ∧ ((qPart S np k w).1 ≠ 0 → (qPart S np k w).1 = 1) ∧ ((qPart S np k w).1 = 0 → mgf 131 (rPart T np k w).1) := by
  unfold qPart rPart
  by_cases hok : okPart np k w = true
  · rw [if_pos hok, if_pos hok]
    obtain ⟨a, c, ha, hc, rfl, rfl⟩ := part_in h.now.n24 hok
    have n24 := h.now.n24
    rw [nI_clamp (by omega), nI_clamp (by omega)]
    obtain ⟨p1, p2, p3, p4⟩ := h.now.p1 a ha
    obtain ⟨m1, m2, m3, m4⟩ := bad_m (h.now.p2 a ha)
    have key : cF S (12 + c) a = mF T 3 (4 * a + c) ∧ mgf 131 (mF T 3 (4 * a + c)) := by
      match c, hc with
      | 0, _ => exact ⟨p1, mgf_up m1 (by omega)⟩
      | 1, _ => exact ⟨p2, mgf_up m2 (by omega)⟩
      | 2, _ => exact ⟨p3, m3⟩
      | 3, _ => exact ⟨p4, m4⟩
    exact ⟨⟨rfl, Nat.le_of_ble_eq_true rfl, fun _ => by rw [key.1], fun z => absurd rfl z, tie_S0 h _⟩, fun z => absurd rfl z, fun _ => key.2⟩
  · rw [if_neg hok, if_neg hok]
    exact ⟨⟨rfl, Nat.le_of_ble_eq_true rfl, fun (z : 1 = 0) => absurd z (by decide), fun _ => rfl, tie_S00 h _ _⟩, fun _ => rfl, fun (z : 1 = 0) => absurd z (by decide)⟩
theorem tie_pres {S : cS} {T : mS} {np nq : Nat} (h : Tie S T np nq) (x y : Int32) : cOk (qPres S x y) (.double (rPres T x y).1) (rPres T x y).2 np nq ∧ ((qPres S x y).1 ≠ 0 → (qPres S x y).1 = 1) ∧ ((qPres S x y).1 = 0 → vf_n64 (rPres T x y).1) := by
  unfold qPres rPres
  by_cases hin : inB x y = true
  · rw [if_pos hin, if_pos hin]
    obtain ⟨i, j, hi, hj, rfl, rfl⟩ := inB_nI hin
    rw [nI_clamp (by omega), nI_clamp (by omega)]
    have key := h.lat.p1 (6 * j + i) (by omega)
    exact ⟨⟨rfl, Nat.le_of_ble_eq_true rfl, fun _ => by rw [key.1], fun z => absurd rfl z, tie_S0 h _⟩, fun z => absurd rfl z, fun _ => key.2⟩
  · rw [if_neg hin, if_neg hin]
    exact ⟨⟨rfl, Nat.le_of_ble_eq_true rfl, fun (z : 1 = 0) => absurd z (by decide), fun _ => rfl, tie_S00 h _ _⟩, fun _ => rfl, fun (z : 1 = 0) => absurd z (by decide)⟩
theorem face_in {a b : Nat} (ha : a < 100) (hb : b < 100) {i j : Int32} (h : fcB a b i j = true) : ∃ m n : Nat, m ≤ a ∧ n ≤ b ∧ i = nI m ∧ j = nI n := by
  unfold fcB at h
  split at h
  · cases h
  rename_i h1
  split at h
  · cases h
  rename_i h2
  split at h
  · cases h
  rename_i h3
  split at h
  · cases h
  rename_i h4
  obtain ⟨m, hm, rfl⟩ := nI_of h1
  obtain ⟨n, hn, rfl⟩ := nI_of h3
  refine ⟨m, n, ?_, ?_, rfl, rfl⟩
  · rw [Int32.lt_iff_toInt_lt, nI_toInt (by omega), nI_toInt (by omega)] at h2
    omega
  · rw [Int32.lt_iff_toInt_lt, nI_toInt (by omega), nI_toInt (by omega)] at h4
    omega
theorem tie_face {S : cS} {T : mS} {np nq : Nat} (h : Tie S T np nq) (a i j : Int32) : cOk (qFace S a i j) (.double (rFace T a i j).1) (rFace T a i j).2 np nq ∧ ((qFace S a i j).1 ≠ 0 → (qFace S a i j).1 = 1) ∧ ((qFace S a i j).1 = 0 → vf_n64 (rFace T a i j).1) := by
  have no : cOk (1, [], S) (.double (FP.i2d (nI 0))) (mI' (mS0 T) 0 (nI 1)) np nq ∧ (((1, [], S) : cR).1 ≠ 0 → ((1, [], S) : cR).1 = 1) ∧ (((1, [], S) : cR).1 = 0 → vf_n64 (FP.i2d (nI 0))) := ⟨⟨rfl, Nat.le_of_ble_eq_true rfl, fun (z : 1 = 0) => absurd z (by decide), fun _ => rfl, tie_S00 h _ _⟩, fun _ => rfl, fun (z : 1 = 0) => absurd z (by decide)⟩
  unfold qFace rFace
  rw [fc_there]
  by_cases h0 : a = 0
  · rw [if_pos h0, if_pos h0, if_pos h0]
    by_cases hf : fcB 6 5 i j = true
    · rw [if_pos hf, if_pos hf]
      obtain ⟨m, n, hm, hn, rfl, rfl⟩ := face_in (by omega) (by omega) hf
      rw [nI_clamp (by omega), nI_clamp (by omega)]
      have key := h.lat.u1 m n hm hn
      exact ⟨⟨rfl, Nat.le_of_ble_eq_true rfl, fun _ => by rw [key.1], fun z => absurd rfl z, tie_S0 h _⟩, fun z => absurd rfl z, fun _ => key.2⟩
    · rw [if_neg hf, if_neg hf]
      exact no
  · rw [if_neg h0, if_neg h0, if_neg h0]
    by_cases h1 : a = nI 1
    · rw [if_pos h1, if_pos h1]
      by_cases hf : fcB 5 6 i j = true
      · rw [if_pos hf, if_pos hf]
        obtain ⟨m, n, hm, hn, rfl, rfl⟩ := face_in (by omega) (by omega) hf
        rw [nI_clamp (by omega), nI_clamp (by omega)]
        have key := h.lat.v1 m n hm hn
        exact ⟨⟨rfl, Nat.le_of_ble_eq_true rfl, fun _ => by rw [key.1], fun z => absurd rfl z, tie_S0 h _⟩, fun z => absurd rfl z, fun _ => key.2⟩
      · rw [if_neg hf, if_neg hf]
        exact no
    · rw [if_neg h1, if_neg h1, if_neg (by decide)]
      exact no
theorem enF_eq {A B C D : Nat → UInt32} {n : Nat} (h : ∀ k, k < n → A k = C k ∧ B k = D k) : ∀ m, m ≤ n → enF A B m = enF C D m
  | 0, _ => rfl
  | m + 1, hm => by
    rw [enF, enF, enF_eq h m (by omega), (h m (by omega)).1, (h m (by omega)).2]
theorem drF_eq {A C : Nat → UInt32} {n : Nat} (h : ∀ k, k < n → A k = C k) : ∀ m, m ≤ n → drF A m = drF C m
  | 0, _ => rfl
  | m + 1, hm => by
    rw [drF, drF, drF_eq h m (by omega), h m (by omega)]
theorem mgd_c {K : Nat} {x : UInt64} (h : x.toNat % 2 ^ 63 < K * 2 ^ 52) : mgd K x := h
theorem en_m {A B : Nat → UInt32} {n : Nat} (h : ∀ k, k < n → mgf 131 (A k) ∧ mgf 131 (B k)) : ∀ m, m ≤ n → m ≤ 24 → mgd (1045 + 2 * m) (enF A B m)
  | 0, _, _ => m_d0 _ (by omega)
  | m + 1, hm, h24 => by
    rw [enF]
    have ih := en_m h m (by omega) (by omega)
    obtain ⟨a1, b1⟩ := h m (by omega)
    have a2 := f2d_m (by omega) a1
    have b2 := f2d_m (by omega) b1
    have a3 := mgd_mul (by omega) (by omega) a2 a2
    have b3 := mgd_mul (by omega) (by omega) b2 b2
    have c1 := mgd_add (by omega) a3 b3
    have c2 := mgd_mul (K := 1023) (x := 4602678819172646912) (by omega) (by omega) (mgd_c (by decide)) c1
    have c3 := mgd_add (K := 1045 + 2 * m) (by omega) ih (mgd_up c2 (by omega))
    exact mgd_up c3 (by omega)
theorem en_ok {A B : Nat → UInt32} {n : Nat} (h24 : n ≤ 24) (h : ∀ k, k < n → mgf 131 (A k) ∧ mgf 131 (B k)) : ∀ k, k < n → enOk A B k := by
  intro k hk
  obtain ⟨a1, b1⟩ := h k hk
  have a2 := f2d_m (by omega) a1
  have b2 := f2d_m (by omega) b1
  have a3 := mgd_mul (by omega) (by omega) a2 a2
  have b3 := mgd_mul (by omega) (by omega) b2 b2
  have c1 := mgd_add (by omega) a3 b3
  have c2 := mgd_mul (K := 1023) (x := 4602678819172646912) (by omega) (by omega) (mgd_c (by decide)) c1
  exact ⟨mgd_n (by omega) a2, mgd_n (by omega) b2, mgd_n (by omega) a3, mgd_n (by omega) b3, mgd_n (by omega) c1, mgd_n (by omega) c2, mgd_n (by omega) (en_m h (k + 1) (by omega) (by omega))⟩
theorem dr_m {A : Nat → UInt32} {n : Nat} (h : ∀ k, k < n → mgf 131 (A k)) : ∀ m, m ≤ n → m ≤ 24 → mgf (131 + 2 * m) (drF A m)
  | 0, _, _ => by unfold mgf drF; decide
  | m + 1, hm, h24 => by
    rw [drF]
    have ih := dr_m h m (by omega) (by omega)
    exact mgf_up (mgf_add (K := 131 + 2 * m) (by omega) ih (mgf_up (h m (by omega)) (by omega))) (by omega)
theorem i2f_big : ∀ n : Fin 25, n.val ≠ 0 → 127 * 2 ^ 23 ≤ (FP.i2f (nI n.val)).toNat % 2 ^ 31 ∧ (FP.i2f (nI n.val)).toNat % 2 ^ 31 < 255 * 2 ^ 23 := by decide +kernel
theorem dr_ok {A : Nat → UInt32} {n : Nat} (h24 : n ≤ 24) (h : ∀ k, k < n → mgf 131 (A k)) : (∀ k, k < n → vf_n32 (drF A (k + 1))) ∧ vf_n32 (drR A n) := by
  refine ⟨fun k hk => mgf_n (by omega) (dr_m h (k + 1) (by omega) (by omega)), ?_⟩
  unfold drR
  by_cases h0 : n = 0
  · rw [if_pos h0]
    unfold vf_n32
    decide
  · rw [if_neg h0]
    obtain ⟨b1, b2⟩ := i2f_big ⟨n, by omega⟩ h0
    have := FP.Core.fdiv_mag (dr_m h n (by omega) h24) b1 b2 (by omega) (by omega)
    exact mgf_n (K := 131 + 2 * n + (149 - 23 - 1) - 127 + 3) (by omega) this
