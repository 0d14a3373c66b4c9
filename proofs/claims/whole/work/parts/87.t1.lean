/-! class and reference tied: settings and particles, the marked ones, the latest result -/
abbrev setT (np : Nat) (cn : Int32) (so : Nat → Int32) (X Y A B : Nat → UInt32) (pl lm : UInt64) (sh : UInt32) (rd : Int32) (cm : Int32) (sp : Nat → Int32) (P : Nat → UInt32) (ql qm : UInt64) (qh : UInt32) (qd : Int32) : Prop := (np ≤ 24) ∧ (cn = nI np) ∧ (cm = nI np) ∧ (∀ c, c < 36 → so c = sp c) ∧ (∀ k, k < np → X k = P (4 * k) ∧ Y k = P (4 * k + 1) ∧ A k = P (4 * k + 2) ∧ B k = P (4 * k + 3)) ∧ (∀ k, k < np → badA (P (4 * k)) (P (4 * k + 1)) (P (4 * k + 2)) (P (4 * k + 3)) = false) ∧ (∀ k, k < np → sp (cellI (P (4 * k)) (P (4 * k + 1))).toNatClampNeg = 0) ∧ (pl = ql) ∧ (okPull ql = true) ∧ (sh = qh) ∧ (okShare qh = true) ∧ (lm = qm) ∧ (∃ k, k ≤ 30 ∧ qm = hv k) ∧ (rd = qd) ∧ (∃ R, R ≤ 40 ∧ qd = nI R)
theorem setT.n24 {np : Nat} {cn : Int32} {so : Nat → Int32} {X Y A B : Nat → UInt32} {pl lm : UInt64} {sh : UInt32} {rd : Int32} {cm : Int32} {sp : Nat → Int32} {P : Nat → UInt32} {ql qm : UInt64} {qh : UInt32} {qd : Int32} (h : setT np cn so X Y A B pl lm sh rd cm sp P ql qm qh qd) : np ≤ 24 := h.1
theorem setT.c1 {np : Nat} {cn : Int32} {so : Nat → Int32} {X Y A B : Nat → UInt32} {pl lm : UInt64} {sh : UInt32} {rd : Int32} {cm : Int32} {sp : Nat → Int32} {P : Nat → UInt32} {ql qm : UInt64} {qh : UInt32} {qd : Int32} (h : setT np cn so X Y A B pl lm sh rd cm sp P ql qm qh qd) : cn = nI np := h.2.1
theorem setT.c2 {np : Nat} {cn : Int32} {so : Nat → Int32} {X Y A B : Nat → UInt32} {pl lm : UInt64} {sh : UInt32} {rd : Int32} {cm : Int32} {sp : Nat → Int32} {P : Nat → UInt32} {ql qm : UInt64} {qh : UInt32} {qd : Int32} (h : setT np cn so X Y A B pl lm sh rd cm sp P ql qm qh qd) : cm = nI np := h.2.2.1
theorem setT.s1 {np : Nat} {cn : Int32} {so : Nat → Int32} {X Y A B : Nat → UInt32} {pl lm : UInt64} {sh : UInt32} {rd : Int32} {cm : Int32} {sp : Nat → Int32} {P : Nat → UInt32} {ql qm : UInt64} {qh : UInt32} {qd : Int32} (h : setT np cn so X Y A B pl lm sh rd cm sp P ql qm qh qd) : ∀ c, c < 36 → so c = sp c := h.2.2.2.1
theorem setT.p1 {np : Nat} {cn : Int32} {so : Nat → Int32} {X Y A B : Nat → UInt32} {pl lm : UInt64} {sh : UInt32} {rd : Int32} {cm : Int32} {sp : Nat → Int32} {P : Nat → UInt32} {ql qm : UInt64} {qh : UInt32} {qd : Int32} (h : setT np cn so X Y A B pl lm sh rd cm sp P ql qm qh qd) : ∀ k, k < np → X k = P (4 * k) ∧ Y k = P (4 * k + 1) ∧ A k = P (4 * k + 2) ∧ B k = P (4 * k + 3) := h.2.2.2.2.1
theorem setT.p2 {np : Nat} {cn : Int32} {so : Nat → Int32} {X Y A B : Nat → UInt32} {pl lm : UInt64} {sh : UInt32} {rd : Int32} {cm : Int32} {sp : Nat → Int32} {P : Nat → UInt32} {ql qm : UInt64} {qh : UInt32} {qd : Int32} (h : setT np cn so X Y A B pl lm sh rd cm sp P ql qm qh qd) : ∀ k, k < np → badA (P (4 * k)) (P (4 * k + 1)) (P (4 * k + 2)) (P (4 * k + 3)) = false := h.2.2.2.2.2.1
theorem setT.p3 {np : Nat} {cn : Int32} {so : Nat → Int32} {X Y A B : Nat → UInt32} {pl lm : UInt64} {sh : UInt32} {rd : Int32} {cm : Int32} {sp : Nat → Int32} {P : Nat → UInt32} {ql qm : UInt64} {qh : UInt32} {qd : Int32} (h : setT np cn so X Y A B pl lm sh rd cm sp P ql qm qh qd) : ∀ k, k < np → sp (cellI (P (4 * k)) (P (4 * k + 1))).toNatClampNeg = 0 := h.2.2.2.2.2.2.1
theorem setT.e1 {np : Nat} {cn : Int32} {so : Nat → Int32} {X Y A B : Nat → UInt32} {pl lm : UInt64} {sh : UInt32} {rd : Int32} {cm : Int32} {sp : Nat → Int32} {P : Nat → UInt32} {ql qm : UInt64} {qh : UInt32} {qd : Int32} (h : setT np cn so X Y A B pl lm sh rd cm sp P ql qm qh qd) : pl = ql := h.2.2.2.2.2.2.2.1
theorem setT.o1 {np : Nat} {cn : Int32} {so : Nat → Int32} {X Y A B : Nat → UInt32} {pl lm : UInt64} {sh : UInt32} {rd : Int32} {cm : Int32} {sp : Nat → Int32} {P : Nat → UInt32} {ql qm : UInt64} {qh : UInt32} {qd : Int32} (h : setT np cn so X Y A B pl lm sh rd cm sp P ql qm qh qd) : okPull ql = true := h.2.2.2.2.2.2.2.2.1
theorem setT.e2 {np : Nat} {cn : Int32} {so : Nat → Int32} {X Y A B : Nat → UInt32} {pl lm : UInt64} {sh : UInt32} {rd : Int32} {cm : Int32} {sp : Nat → Int32} {P : Nat → UInt32} {ql qm : UInt64} {qh : UInt32} {qd : Int32} (h : setT np cn so X Y A B pl lm sh rd cm sp P ql qm qh qd) : sh = qh := h.2.2.2.2.2.2.2.2.2.1
theorem setT.o2 {np : Nat} {cn : Int32} {so : Nat → Int32} {X Y A B : Nat → UInt32} {pl lm : UInt64} {sh : UInt32} {rd : Int32} {cm : Int32} {sp : Nat → Int32} {P : Nat → UInt32} {ql qm : UInt64} {qh : UInt32} {qd : Int32} (h : setT np cn so X Y A B pl lm sh rd cm sp P ql qm qh qd) : okShare qh = true := h.2.2.2.2.2.2.2.2.2.2.1
theorem setT.e3 {np : Nat} {cn : Int32} {so : Nat → Int32} {X Y A B : Nat → UInt32} {pl lm : UInt64} {sh : UInt32} {rd : Int32} {cm : Int32} {sp : Nat → Int32} {P : Nat → UInt32} {ql qm : UInt64} {qh : UInt32} {qd : Int32} (h : setT np cn so X Y A B pl lm sh rd cm sp P ql qm qh qd) : lm = qm := h.2.2.2.2.2.2.2.2.2.2.2.1
theorem setT.o3 {np : Nat} {cn : Int32} {so : Nat → Int32} {X Y A B : Nat → UInt32} {pl lm : UInt64} {sh : UInt32} {rd : Int32} {cm : Int32} {sp : Nat → Int32} {P : Nat → UInt32} {ql qm : UInt64} {qh : UInt32} {qd : Int32} (h : setT np cn so X Y A B pl lm sh rd cm sp P ql qm qh qd) : ∃ k, k ≤ 30 ∧ qm = hv k := h.2.2.2.2.2.2.2.2.2.2.2.2.1
theorem setT.e4 {np : Nat} {cn : Int32} {so : Nat → Int32} {X Y A B : Nat → UInt32} {pl lm : UInt64} {sh : UInt32} {rd : Int32} {cm : Int32} {sp : Nat → Int32} {P : Nat → UInt32} {ql qm : UInt64} {qh : UInt32} {qd : Int32} (h : setT np cn so X Y A B pl lm sh rd cm sp P ql qm qh qd) : rd = qd := h.2.2.2.2.2.2.2.2.2.2.2.2.2.1
theorem setT.o4 {np : Nat} {cn : Int32} {so : Nat → Int32} {X Y A B : Nat → UInt32} {pl lm : UInt64} {sh : UInt32} {rd : Int32} {cm : Int32} {sp : Nat → Int32} {P : Nat → UInt32} {ql qm : UInt64} {qh : UInt32} {qd : Int32} (h : setT np cn so X Y A B pl lm sh rd cm sp P ql qm qh qd) : ∃ R, R ≤ 40 ∧ qd = nI R := h.2.2.2.2.2.2.2.2.2.2.2.2.2.2
abbrev resT (U V : Nat → UInt64) (p : Nat → UInt64) (g : UInt64) (d f : Int32) (F : Nat → UInt64) (q : Nat → UInt64) (h : UInt64) (d' f' : Int32) : Prop := (∀ i j, i ≤ 6 → j ≤ 5 → U (7 * j + i) = F (7 * j + i) ∧ vf_n64 (F (7 * j + i))) ∧ (∀ i j, i ≤ 5 → j ≤ 6 → V (7 * j + i) = F (42 + 6 * j + i) ∧ vf_n64 (F (42 + 6 * j + i))) ∧ (∀ c, c < 36 → p c = q c ∧ vf_n64 (q c)) ∧ (g = h) ∧ (vf_n64 h) ∧ (d = d') ∧ (f = f')
theorem resT.u1 {U V : Nat → UInt64} {p : Nat → UInt64} {g : UInt64} {d f : Int32} {F : Nat → UInt64} {q : Nat → UInt64} {h0 : UInt64} {d' f' : Int32} (h : resT U V p g d f F q h0 d' f') : ∀ i j, i ≤ 6 → j ≤ 5 → U (7 * j + i) = F (7 * j + i) ∧ vf_n64 (F (7 * j + i)) := h.1
theorem resT.v1 {U V : Nat → UInt64} {p : Nat → UInt64} {g : UInt64} {d f : Int32} {F : Nat → UInt64} {q : Nat → UInt64} {h0 : UInt64} {d' f' : Int32} (h : resT U V p g d f F q h0 d' f') : ∀ i j, i ≤ 5 → j ≤ 6 → V (7 * j + i) = F (42 + 6 * j + i) ∧ vf_n64 (F (42 + 6 * j + i)) := h.2.1
theorem resT.p1 {U V : Nat → UInt64} {p : Nat → UInt64} {g : UInt64} {d f : Int32} {F : Nat → UInt64} {q : Nat → UInt64} {h0 : UInt64} {d' f' : Int32} (h : resT U V p g d f F q h0 d' f') : ∀ c, c < 36 → p c = q c ∧ vf_n64 (q c) := h.2.2.1
theorem resT.g1 {U V : Nat → UInt64} {p : Nat → UInt64} {g : UInt64} {d f : Int32} {F : Nat → UInt64} {q : Nat → UInt64} {h0 : UInt64} {d' f' : Int32} (h : resT U V p g d f F q h0 d' f') : g = h0 := h.2.2.2.1
theorem resT.g2 {U V : Nat → UInt64} {p : Nat → UInt64} {g : UInt64} {d f : Int32} {F : Nat → UInt64} {q : Nat → UInt64} {h0 : UInt64} {d' f' : Int32} (h : resT U V p g d f F q h0 d' f') : vf_n64 h0 := h.2.2.2.2.1
theorem resT.d1 {U V : Nat → UInt64} {p : Nat → UInt64} {g : UInt64} {d f : Int32} {F : Nat → UInt64} {q : Nat → UInt64} {h0 : UInt64} {d' f' : Int32} (h : resT U V p g d f F q h0 d' f') : d = d' := h.2.2.2.2.2.1
theorem resT.f1 {U V : Nat → UInt64} {p : Nat → UInt64} {g : UInt64} {d f : Int32} {F : Nat → UInt64} {q : Nat → UInt64} {h0 : UInt64} {d' f' : Int32} (h : resT U V p g d f F q h0 d' f') : f = f' := h.2.2.2.2.2.2
abbrev nowT (np : Nat) (S : cS) (T : mS) : Prop := setT np (cI S 1) (cA S 11) (cF S 12) (cF S 13) (cF S 14) (cF S 15) (cG S 0) (cG S 1) (cH S 0) (cI S 0) (mA T 2 0) (mA T 1) (mF T 3) (mD T 4 0) (mD T 6 0) (mF T 5 0) (mA T 7 0)
abbrev mrkT (nq : Nat) (S : cS) (T : mS) : Prop := setT nq (cI S 3) (cA S 16) (cF S 17) (cF S 18) (cF S 19) (cF S 20) (cG S 2) (cG S 3) (cH S 1) (cI S 2) (mA T 2 1) (fun c => mA T 1 (36 + c)) (fun c => mF T 3 (96 + c)) (mD T 4 1) (mD T 6 1) (mF T 5 1) (mA T 7 1)
abbrev latT (S : cS) (T : mS) : Prop := resT (cD S 25) (cD S 26) (cD S 35) (cG S 4) (cI S 4) (cI S 5) (mD T 8) (mD T 9) (mG T) (mI T 1) (mI T 2)
abbrev Tie (S : cS) (T : mS) (np nq : Nat) : Prop := (nowT np S T) ∧ (mrkT nq S T) ∧ (latT S T) ∧ (isB (mA T 1)) ∧ (isB (cA S 11)) ∧ (isB (cA S 16))
theorem Tie.now {S : cS} {T : mS} {np nq : Nat} (h : Tie S T np nq) : nowT np S T := h.1
theorem Tie.mrk {S : cS} {T : mS} {np nq : Nat} (h : Tie S T np nq) : mrkT nq S T := h.2.1
theorem Tie.lat {S : cS} {T : mS} {np nq : Nat} (h : Tie S T np nq) : latT S T := h.2.2.1
theorem Tie.b1 {S : cS} {T : mS} {np nq : Nat} (h : Tie S T np nq) : isB (mA T 1) := h.2.2.2.1
theorem Tie.b2 {S : cS} {T : mS} {np nq : Nat} (h : Tie S T np nq) : isB (cA S 11) := h.2.2.2.2.1
theorem Tie.b3 {S : cS} {T : mS} {np nq : Nat} (h : Tie S T np nq) : isB (cA S 16) := h.2.2.2.2.2
theorem pull_n {g : UInt64} (h : okPull g = true) : vf_n64 g := by
  refine n64_of (fun hn => ?_)
  unfold okPull at h
  rw [show FP.dcmp g 13839561654909534208 = none from (FP.Core.dcmp_none g 13839561654909534208).mpr (Or.inl hn), if_pos (by decide)] at h
  cases h
theorem share_n {g : UInt32} (h : okShare g = true) : vf_n32 g := by
  refine n32_of (fun hn => ?_)
  unfold okShare at h
  rw [show FP.fcmp g FP.fconst0 = none from (FP.Core.fcmp_none g FP.fconst0).mpr (Or.inl hn), if_pos (by decide)] at h
  cases h
theorem hv_n0 {k : Nat} (hk : k ≤ 30) : vf_n64 (hv k) := by
  cases k with
  | zero => unfold vf_n64; decide +kernel
  | succ k => exact hv_n ⟨k, by omega⟩
theorem tie_S0 {S : cS} {T : mS} {np nq : Nat} (h : Tie S T np nq) (x : Int32) : Tie S (mI' T 0 x) np nq := ⟨h.now, h.mrk, h.lat, h.b1, h.b2, h.b3⟩
theorem tie_S00 {S : cS} {T : mS} {np nq : Nat} (h : Tie S T np nq) (x y : Int32) : Tie S (mI' (mI' T 0 x) 0 y) np nq := tie_S0 (tie_S0 h x) y
/-- what a call leaves: whether it was refused, the answer, and the tie -/
def cOk (r : cR) (a : Value) (T' : mS) (np nq : Nat) : Prop := mI T' 0 = nI r.1 ∧ r.1 ≤ 2 ∧ (r.1 = 0 → r.2.1 = [a]) ∧ (r.1 ≠ 0 → r.2.1 = []) ∧ Tie r.2.2 T' np nq
theorem tie_pull {S : cS} {T : mS} {np nq : Nat} (h : Tie S T np nq) (g : UInt64) : cOk (qPull S g) (.double (rPull T g).1) (rPull T g).2 np nq ∧ ((qPull S g).1 ≠ 0 → (qPull S g).1 = 1) ∧ ((qPull S g).1 = 0 → vf_n64 (rPull T g).1) := by
  unfold qPull rPull
  by_cases hok : okPull g = true
  · rw [if_pos hok, if_pos hok]
    obtain ⟨h1, h2, h3, h4, h5, h6⟩ := h
    exact ⟨⟨rfl, Nat.le_of_ble_eq_true rfl, fun _ => by rw [h1.e1], fun z => absurd rfl z, ⟨h1.n24, h1.c1, h1.c2, h1.s1, h1.p1, h1.p2, h1.p3, rfl, hok, h1.e2, h1.o2, h1.e3, h1.o3, h1.e4, h1.o4⟩, h2, h3, h4, h5, h6⟩, fun z => absurd rfl z, fun _ => pull_n h1.o1⟩
  · rw [if_neg hok, if_neg hok]
    exact ⟨⟨rfl, Nat.le_of_ble_eq_true rfl, fun (z : 1 = 0) => absurd z (by decide), fun _ => rfl, tie_S00 h _ _⟩, fun _ => rfl, fun (z : 1 = 0) => absurd z (by decide)⟩
theorem tie_share {S : cS} {T : mS} {np nq : Nat} (h : Tie S T np nq) (g : UInt32) : cOk (qShare S g) (.float (rShare T g).1) (rShare T g).2 np nq ∧ ((qShare S g).1 ≠ 0 → (qShare S g).1 = 1) ∧ ((qShare S g).1 = 0 → vf_n32 (rShare T g).1) := by
  unfold qShare rShare
  by_cases hok : okShare g = true
  · rw [if_pos hok, if_pos hok]
    obtain ⟨h1, h2, h3, h4, h5, h6⟩ := h
    exact ⟨⟨rfl, Nat.le_of_ble_eq_true rfl, fun _ => by rw [h1.e2], fun z => absurd rfl z, ⟨h1.n24, h1.c1, h1.c2, h1.s1, h1.p1, h1.p2, h1.p3, h1.e1, h1.o1, rfl, hok, h1.e3, h1.o3, h1.e4, h1.o4⟩, h2, h3, h4, h5, h6⟩, fun z => absurd rfl z, fun _ => share_n h1.o2⟩
  · rw [if_neg hok, if_neg hok]
    exact ⟨⟨rfl, Nat.le_of_ble_eq_true rfl, fun (z : 1 = 0) => absurd z (by decide), fun _ => rfl, tie_S00 h _ _⟩, fun _ => rfl, fun (z : 1 = 0) => absurd z (by decide)⟩
theorem solver_in {k r : Int32} (h : okSolver k r = true) : ∃ a b : Nat, a ≤ 30 ∧ b ≤ 40 ∧ k = nI a ∧ r = nI b := by
  unfold okSolver at h
  split at h
  · cases h
  rename_i h1
  split at h
  · cases h
  rename_i h2
  split at h
  · cases h
  rename_i h3
  split at h
  · rename_i h4
    obtain ⟨a, ha, rfl⟩ := nI_of h1
    obtain ⟨b, hb, rfl⟩ := nI_of h3
    refine ⟨a, b, ?_, ?_, rfl, rfl⟩
    · rw [Int32.lt_iff_toInt_lt, nI_toInt (by omega), nI_toInt (by omega)] at h2
      omega
    · rw [Int32.le_iff_toInt_le, nI_toInt (by omega), nI_toInt (by omega)] at h4
      omega
  · cases h
theorem tie_solver {S : cS} {T : mS} {np nq : Nat} (h : Tie S T np nq) (k r : Int32) : cOk (qSolver S k r) (.double (rSolver T k r).1) (rSolver T k r).2 np nq ∧ ((qSolver S k r).1 ≠ 0 → (qSolver S k r).1 = 1) ∧ ((qSolver S k r).1 = 0 → vf_n64 (rSolver T k r).1) := by
  unfold qSolver rSolver
  by_cases hok : okSolver k r = true
  · rw [if_pos hok, if_pos hok]
    obtain ⟨a, b, ha, hb, rfl, rfl⟩ := solver_in hok
    have e : lmC (nI a) = hv a := lm_hv ⟨a, by omega⟩
    have e2 : (nI a).toNatClampNeg = a := nI_clamp (by omega)
    rw [e, e2]
    obtain ⟨h1, h2, h3, h4, h5, h6⟩ := h
    exact ⟨⟨rfl, Nat.le_of_ble_eq_true rfl, fun _ => rfl, fun z => absurd rfl z, ⟨h1.n24, h1.c1, h1.c2, h1.s1, h1.p1, h1.p2, h1.p3, h1.e1, h1.o1, h1.e2, h1.o2, rfl, ⟨a, ha, rfl⟩, rfl, ⟨b, hb, rfl⟩⟩, h2, h3, h4, h5, h6⟩, fun z => absurd rfl z, fun _ => hv_n0 ha⟩
  · rw [if_neg hok, if_neg hok]
    exact ⟨⟨rfl, Nat.le_of_ble_eq_true rfl, fun (z : 1 = 0) => absurd z (by decide), fun _ => rfl, tie_S00 h _ _⟩, fun _ => rfl, fun (z : 1 = 0) => absurd z (by decide)⟩
