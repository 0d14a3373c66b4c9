/-! the law's cases -/
theorem i32_sm {a : Nat} (h : a ≤ 2) (h0 : nI a = 0) : a = 0 := (nI_eq (by omega) (by decide)).mp (h0.trans nI_0.symm)
section LA
variable {l : Launch} {D : va_G} {ad : Nat → Nat} {cy : Nat → ClassId} {Ln : Nat} {xs : Nat → Int32} {N : Nat} {WC : Nat → xC → xO → List Value → xA → Prop}
set_option maxRecDepth 100000 in
set_option maxHeartbeats 4000000 in
theorem la_solid (hs : lwSys l D ad cy (some (Ln, xs)) N WC) (n : Nat) (hn : n < N) (i : Nat) (hi : i + 5 ≤ Ln) (S : cS) (T : mS) (o : Nat → Int64) (od : Nat → UInt64) (r : cR) (hr2 : r.1 ≤ 2) (v : Int32) (T' : mS) (b : Bool) (hb : b = decide (xs (i + 3) ≠ 0))
    (hM1 : wMet l yL_solid cL_solid 6 [(0, 19, 22, 13), (0, 19, 26, 15)] D ad cy [.ref 0, .int (xs (i + 1)), .int (xs (i + 2)), .int (xb b), .ref 36] (cW S ++ [aL 1 o, aD 1 od]) (wPo r (oB r.2.1 o) od))
    (hM2 : xMet l yX5_solid cX5_solid 6 (some .boolean) 1 D (ad38 ad) cy [.ref 0, .int (xs (i + 1)), .int (xs (i + 2)), .int (xb b)] (mW T) (fun vs aw' => vs = [.int v] ∧ aw' = mW T'))
    (h1 : mI T' 0 = nI r.1) (h2 : r.1 = 0 → (oB r.2.1 o) 0 = if v = 0 then Int64.ofNat 0 else Int64.ofNat 1) (next : WC (n + 1) (xL_L_law.drop 681) [some (.ref 1000), some (.ref 0), some (.ref 38), some (.ref 36), some (.ref 37), some (.int (nI i)), none, none, none, none] [] (lwW r.2.2 T' (oB r.2.1 o) od)) : WC n (xL_L_law.drop 28) [some (.ref 1000), some (.ref 0), some (.ref 38), some (.ref 36), some (.ref 37), some (.int (nI i)), none, none, none, none] [] (lwW S T o od) := by
  have hb0 : xs (i + 3) = 0 → b = false := fun h => by rw [hb]; simp [h]
  have hb1 : ¬ xs (i + 3) = 0 → b = true := fun h => by rw [hb]; simp [h]
  have hs1 := hs.1 n (by omega)
  have hs2 := hs.1 (n + 1) (by omega)
  have fin : WC (n + 1) (xL_L_law.drop 681) [some (.ref 1000), some (.ref 0), some (.ref 38), some (.ref 36), some (.ref 37), some (.int (nI i)), some (.int (nI r.1)), some (.int v), none, none] [] (lwW r.2.2 T' (oB r.2.1 o) od) := by
    refine hs2.2 681 _ _ _ _ ?_ ?_ next
    · exact And.intro rfl (And.intro rfl (And.intro rfl (And.intro rfl (And.intro rfl (And.intro rfl (trivial))))))
    · rfl
  have p4 : WC (n + 1) (xL_L_law.drop 75) [some (.ref 1000), some (.ref 0), some (.ref 38), some (.ref 36), some (.ref 37), some (.int (nI i)), some (.int (nI r.1)), some (.int v), none, none] [.int (mI T' 0)] (lwW r.2.2 T' (oB r.2.1 o) od) := by
    generalize (oB r.2.1 o) = oo at h2 next fin ⊢
    generalize r.2.2 = V at h2 next fin ⊢
    refine hs2.1 (fun pc => Nat.beq pc 1154) 80 75 _ _ _ ?_
    refine And.intro (fun _ => ?_) (fun h => absurd h1 h)
    refine And.intro (fun h => fin) (fun h => ?_)
    have h0 := h2 (i32_sm hr2 h)
    refine ⟨0, rfl, by decide, by decide, ?_⟩
    refine And.intro (fun h3 => ?_) (fun h3 => ?_)
    · rw [if_pos h3] at h0
      exact And.intro (fun _ => fin) (fun h4 => absurd ((lg_cmp_eq _ _).mpr h0) h4)
    · rw [if_neg h3] at h0
      exact And.intro (fun _ => fin) (fun h4 => absurd ((lg_cmp_eq _ _).mpr h0) h4)
  have p3 : WC (n + 1) (xL_L_law.drop 72) [some (.ref 1000), some (.ref 0), some (.ref 38), some (.ref 36), some (.ref 37), some (.int (nI i)), some (.int (nI r.1)), none, none, none] [.int v] (lwW r.2.2 T' (oB r.2.1 o) od) := by
    refine hs2.1 (fun pc => Nat.beq pc 182) 80 72 _ _ _ ?_
    exact hs.2.2.1 (n + 1) 74 182 60 0 0 0 1 yX5_thrown cX5_thrown (some .int) [] [] [.int (mI T' 0)] r.2.2 T' T' (oB r.2.1 o) od _ (by omega) rfl (m_thrown T') (by decide +kernel) rfl (by decide +kernel) rfl (by decide) rfl rfl rfl p4
  have p2 : WC (n + 1) (xL_L_law.drop 50) [some (.ref 1000), some (.ref 0), some (.ref 38), some (.ref 36), some (.ref 37), some (.int (nI i)), none, none, none, none] [.int (nI r.1)] (lwW r.2.2 T (oB r.2.1 o) od) := by
    refine hs2.1 (fun pc => Nat.beq pc 176) 80 50 _ _ _ ?_
    refine ⟨i + 1, nI_add i 1, by omega, ?_⟩
    refine ⟨i + 2, nI_add i 2, by omega, ?_⟩
    refine ⟨i + 3, nI_add i 3, by omega, ?_⟩
    refine And.intro (fun h => ?_) (fun h => ?_)
    · have hbz := hb0 h
      rw [hbz] at hM2
      exact hs.2.2.1 (n + 1) 71 176 59 0 3 1 6 yX5_solid cX5_solid (some .boolean) [.int (xs (i + 1)), .int (xs (i + 2)), .int (xb false)] [] [.int v] r.2.2 T T' (oB r.2.1 o) od _ (by omega) rfl hM2 (by decide +kernel) rfl (by decide +kernel) rfl (by decide) rfl rfl rfl p3
    · have hbz := hb1 h
      rw [hbz] at hM2
      exact hs.2.2.1 (n + 1) 71 176 59 0 3 1 6 yX5_solid cX5_solid (some .boolean) [.int (xs (i + 1)), .int (xs (i + 2)), .int (xb true)] [] [.int v] r.2.2 T T' (oB r.2.1 o) od _ (by omega) rfl hM2 (by decide +kernel) rfl (by decide +kernel) rfl (by decide) rfl rfl rfl p3
  refine hs1.1 (fun pc => Nat.beq pc 144) 80 28 _ _ _ ?_
  refine ⟨i + 1, nI_add i 1, by omega, ?_⟩
  refine ⟨i + 2, nI_add i 2, by omega, ?_⟩
  refine ⟨i + 3, nI_add i 3, by omega, ?_⟩
  refine And.intro (fun h => ?_) (fun h => ?_)
  · have hbz := hb0 h
    rw [hbz] at hM1
    exact hs.2.2.2.2 n 49 144 54 0 5 6 yL_solid cL_solid [(0, 19, 22, 13), (0, 19, 26, 15)] [.ref 0, .int (xs (i + 1)), .int (xs (i + 2)), .int (xb false), .ref 36] [] r S T o (oB r.2.1 o) od od _ hn rfl hM1 (by decide +kernel) (by decide +kernel) rfl (by decide) rfl p2
  · have hbz := hb1 h
    rw [hbz] at hM1
    exact hs.2.2.2.2 n 49 144 54 0 5 6 yL_solid cL_solid [(0, 19, 22, 13), (0, 19, 26, 15)] [.ref 0, .int (xs (i + 1)), .int (xs (i + 2)), .int (xb true), .ref 36] [] r S T o (oB r.2.1 o) od od _ hn rfl hM1 (by decide +kernel) (by decide +kernel) rfl (by decide) rfl p2
set_option maxRecDepth 100000 in
set_option maxHeartbeats 4000000 in
theorem la_add (hs : lwSys l D ad cy (some (Ln, xs)) N WC) (n : Nat) (hn : n < N) (i : Nat) (hi : i + 5 ≤ Ln) (S : cS) (T : mS) (o : Nat → Int64) (od : Nat → UInt64) (r : cR) (hr2 : r.1 ≤ 2) (v : Int32) (T' : mS) (q1 : vf_n32 (FP.fmul (FP.i2f (xs (i + 1))) 1040187392)) (q2 : vf_n32 (FP.fmul (FP.i2f (xs (i + 2))) 1040187392)) (q3 : vf_n32 (FP.fmul (FP.i2f (xs (i + 3))) 1040187392)) (q4 : vf_n32 (FP.fmul (FP.i2f (xs (i + 4))) 1040187392))
    (hM1 : wMet l yL_add cL_add 7 [(0, 14, 17, 21), (0, 14, 21, 15)] D ad cy [.ref 0, .float (FP.fmul (FP.i2f (xs (i + 1))) 1040187392), .float (FP.fmul (FP.i2f (xs (i + 2))) 1040187392), .float (FP.fmul (FP.i2f (xs (i + 3))) 1040187392), .float (FP.fmul (FP.i2f (xs (i + 4))) 1040187392), .ref 36] (cW S ++ [aL 1 o, aD 1 od]) (wPo r (oI r.2.1 o) od))
    (hM2 : xMet l yX5_add cX5_add 6 (some .int) 1 D (ad38 ad) cy [.ref 0, .float (FP.fmul (FP.i2f (xs (i + 1))) 1040187392), .float (FP.fmul (FP.i2f (xs (i + 2))) 1040187392), .float (FP.fmul (FP.i2f (xs (i + 3))) 1040187392), .float (FP.fmul (FP.i2f (xs (i + 4))) 1040187392)] (mW T) (fun vs aw' => vs = [.int v] ∧ aw' = mW T'))
    (h1 : mI T' 0 = nI r.1) (h2 : r.1 = 0 → (oI r.2.1 o) 0 = v.toInt64) (next : WC (n + 1) (xL_L_law.drop 681) [some (.ref 1000), some (.ref 0), some (.ref 38), some (.ref 36), some (.ref 37), some (.int (nI i)), none, none, none, none] [] (lwW r.2.2 T' (oI r.2.1 o) od)) : WC n (xL_L_law.drop 94) [some (.ref 1000), some (.ref 0), some (.ref 38), some (.ref 36), some (.ref 37), some (.int (nI i)), none, none, none, none] [] (lwW S T o od) := by
  have hs1 := hs.1 n (by omega)
  have hs2 := hs.1 (n + 1) (by omega)
  have fin : WC (n + 1) (xL_L_law.drop 681) [some (.ref 1000), some (.ref 0), some (.ref 38), some (.ref 36), some (.ref 37), some (.int (nI i)), some (.int (nI r.1)), some (.int v), none, none] [] (lwW r.2.2 T' (oI r.2.1 o) od) := by
    refine hs2.2 681 _ _ _ _ ?_ ?_ next
    · exact And.intro rfl (And.intro rfl (And.intro rfl (And.intro rfl (And.intro rfl (And.intro rfl (trivial))))))
    · rfl
  have p4 : WC (n + 1) (xL_L_law.drop 167) [some (.ref 1000), some (.ref 0), some (.ref 38), some (.ref 36), some (.ref 37), some (.int (nI i)), some (.int (nI r.1)), some (.int v), none, none] [.int (mI T' 0)] (lwW r.2.2 T' (oI r.2.1 o) od) := by
    generalize (oI r.2.1 o) = oo at h2 next fin ⊢
    generalize r.2.2 = V at h2 next fin ⊢
    refine hs2.1 (fun pc => Nat.beq pc 1154) 80 167 _ _ _ ?_
    refine And.intro (fun _ => ?_) (fun h => absurd h1 h)
    refine And.intro (fun h => fin) (fun h => ?_)
    have h0 := h2 (i32_sm hr2 h)
    refine ⟨0, rfl, by decide, by decide, ?_⟩
    exact And.intro (fun _ => fin) (fun h4 => absurd ((lg_cmp_eq _ _).mpr h0) h4)
  have p3 : WC (n + 1) (xL_L_law.drop 164) [some (.ref 1000), some (.ref 0), some (.ref 38), some (.ref 36), some (.ref 37), some (.int (nI i)), some (.int (nI r.1)), none, none, none] [.int v] (lwW r.2.2 T' (oI r.2.1 o) od) := by
    refine hs2.1 (fun pc => Nat.beq pc 313) 80 164 _ _ _ ?_
    exact hs.2.2.1 (n + 1) 166 313 60 0 0 0 1 yX5_thrown cX5_thrown (some .int) [] [] [.int (mI T' 0)] r.2.2 T' T' (oI r.2.1 o) od _ (by omega) rfl (m_thrown T') (by decide +kernel) rfl (by decide +kernel) rfl (by decide) rfl rfl rfl p4
  have p2 : WC (n + 1) (xL_L_law.drop 129) [some (.ref 1000), some (.ref 0), some (.ref 38), some (.ref 36), some (.ref 37), some (.int (nI i)), none, none, none, none] [.int (nI r.1)] (lwW r.2.2 T (oI r.2.1 o) od) := by
    refine hs2.1 (fun pc => Nat.beq pc 307) 80 129 _ _ _ ?_
    refine ⟨i + 1, nI_add i 1, by omega, ?_⟩
    refine And.intro q1 ?_
    refine ⟨i + 2, nI_add i 2, by omega, ?_⟩
    refine And.intro q2 ?_
    refine ⟨i + 3, nI_add i 3, by omega, ?_⟩
    refine And.intro q3 ?_
    refine ⟨i + 4, nI_add i 4, by omega, ?_⟩
    refine And.intro q4 ?_
    exact hs.2.2.1 (n + 1) 163 307 68 0 4 1 6 yX5_add cX5_add (some .int) [.float (FP.fmul (FP.i2f (xs (i + 1))) 1040187392), .float (FP.fmul (FP.i2f (xs (i + 2))) 1040187392), .float (FP.fmul (FP.i2f (xs (i + 3))) 1040187392), .float (FP.fmul (FP.i2f (xs (i + 4))) 1040187392)] [] [.int v] r.2.2 T T' (oI r.2.1 o) od _ (by omega) rfl hM2 (by decide +kernel) rfl (by decide +kernel) rfl (by decide) rfl rfl rfl p3
  refine hs1.1 (fun pc => Nat.beq pc 261) 80 94 _ _ _ ?_
  refine ⟨i + 1, nI_add i 1, by omega, ?_⟩
  refine And.intro q1 ?_
  refine ⟨i + 2, nI_add i 2, by omega, ?_⟩
  refine And.intro q2 ?_
  refine ⟨i + 3, nI_add i 3, by omega, ?_⟩
  refine And.intro q3 ?_
  refine ⟨i + 4, nI_add i 4, by omega, ?_⟩
  refine And.intro q4 ?_
  exact hs.2.2.2.2 n 128 261 65 0 6 7 yL_add cL_add [(0, 14, 17, 21), (0, 14, 21, 15)] [.ref 0, .float (FP.fmul (FP.i2f (xs (i + 1))) 1040187392), .float (FP.fmul (FP.i2f (xs (i + 2))) 1040187392), .float (FP.fmul (FP.i2f (xs (i + 3))) 1040187392), .float (FP.fmul (FP.i2f (xs (i + 4))) 1040187392), .ref 36] [] r S T o (oI r.2.1 o) od od _ hn rfl hM1 (by decide +kernel) (by decide +kernel) rfl (by decide) rfl p2
set_option maxRecDepth 100000 in
set_option maxHeartbeats 4000000 in
theorem la_pull (hs : lwSys l D ad cy (some (Ln, xs)) N WC) (n : Nat) (hn : n < N) (i : Nat) (hi : i + 5 ≤ Ln) (S : cS) (T : mS) (o : Nat → Int64) (od : Nat → UInt64) (r : cR) (hr2 : r.1 ≤ 2) (v : UInt64) (T' : mS) (q1 : vf_n64 (FP.dmul (FP.i2d (xs (i + 1))) 4593671619917905920))
    (hM1 : wMet l yL_pull cL_pull 5 [(0, 8, 11, 21)] D ad cy [.ref 0, .double (FP.dmul (FP.i2d (xs (i + 1))) 4593671619917905920), .ref 37] (cW S ++ [aL 1 o, aD 1 od]) (wPo r o (oD r.2.1 od)))
    (hM2 : xMet l yX5_pull cX5_pull 5 (some .double) 1 D (ad38 ad) cy [.ref 0, .double (FP.dmul (FP.i2d (xs (i + 1))) 4593671619917905920)] (mW T) (fun vs aw' => vs = [.double v] ∧ aw' = mW T'))
    (h1 : mI T' 0 = nI r.1) (h2 : r.1 = 0 → cvd ((oD r.2.1 od) 0) v .l = 0) (next : WC (n + 1) (xL_L_law.drop 681) [some (.ref 1000), some (.ref 0), some (.ref 38), some (.ref 36), some (.ref 37), some (.int (nI i)), none, none, none, none] [] (lwW r.2.2 T' o (oD r.2.1 od))) : WC n (xL_L_law.drop 183) [some (.ref 1000), some (.ref 0), some (.ref 38), some (.ref 36), some (.ref 37), some (.int (nI i)), none, none, none, none] [] (lwW S T o od) := by
  have hs1 := hs.1 n (by omega)
  have hs2 := hs.1 (n + 1) (by omega)
  have fin : WC (n + 1) (xL_L_law.drop 681) [some (.ref 1000), some (.ref 0), some (.ref 38), some (.ref 36), some (.ref 37), some (.int (nI i)), some (.int (nI r.1)), some (.double v), none, none] [] (lwW r.2.2 T' o (oD r.2.1 od)) := by
    refine hs2.2 681 _ _ _ _ ?_ ?_ next
    · exact And.intro rfl (And.intro rfl (And.intro rfl (And.intro rfl (And.intro rfl (And.intro rfl (trivial))))))
    · rfl
  have p4 : WC (n + 1) (xL_L_law.drop 208) [some (.ref 1000), some (.ref 0), some (.ref 38), some (.ref 36), some (.ref 37), some (.int (nI i)), some (.int (nI r.1)), some (.double v), none, none] [.int (mI T' 0)] (lwW r.2.2 T' o (oD r.2.1 od)) := by
    generalize (oD r.2.1 od) = oo at h2 next fin ⊢
    generalize r.2.2 = V at h2 next fin ⊢
    refine hs2.1 (fun pc => Nat.beq pc 1154) 80 208 _ _ _ ?_
    refine And.intro (fun _ => ?_) (fun h => absurd h1 h)
    refine And.intro (fun h => fin) (fun h => ?_)
    have h0 := h2 (i32_sm hr2 h)
    refine ⟨0, rfl, by decide, by decide, ?_⟩
    exact And.intro (fun _ => fin) (fun h4 => absurd h0 h4)
  have p3 : WC (n + 1) (xL_L_law.drop 205) [some (.ref 1000), some (.ref 0), some (.ref 38), some (.ref 36), some (.ref 37), some (.int (nI i)), some (.int (nI r.1)), none, none, none] [.double v] (lwW r.2.2 T' o (oD r.2.1 od)) := by
    refine hs2.1 (fun pc => Nat.beq pc 380) 80 205 _ _ _ ?_
    exact hs.2.2.1 (n + 1) 207 380 60 0 0 0 1 yX5_thrown cX5_thrown (some .int) [] [] [.int (mI T' 0)] r.2.2 T' T' o (oD r.2.1 od) _ (by omega) rfl (m_thrown T') (by decide +kernel) rfl (by decide +kernel) rfl (by decide) rfl rfl rfl p4
  have p2 : WC (n + 1) (xL_L_law.drop 194) [some (.ref 1000), some (.ref 0), some (.ref 38), some (.ref 36), some (.ref 37), some (.int (nI i)), none, none, none, none] [.int (nI r.1)] (lwW r.2.2 T o (oD r.2.1 od)) := by
    refine hs2.1 (fun pc => Nat.beq pc 374) 80 194 _ _ _ ?_
    refine ⟨i + 1, nI_add i 1, by omega, ?_⟩
    refine And.intro q1 ?_
    exact hs.2.2.1 (n + 1) 204 374 74 0 1 1 5 yX5_pull cX5_pull (some .double) [.double (FP.dmul (FP.i2d (xs (i + 1))) 4593671619917905920)] [] [.double v] r.2.2 T T' o (oD r.2.1 od) _ (by omega) rfl hM2 (by decide +kernel) rfl (by decide +kernel) rfl (by decide) rfl rfl rfl p3
  refine hs1.1 (fun pc => Nat.beq pc 357) 80 183 _ _ _ ?_
  refine ⟨i + 1, nI_add i 1, by omega, ?_⟩
  refine And.intro q1 ?_
  exact hs.2.2.2.2 n 193 357 71 0 3 5 yL_pull cL_pull [(0, 8, 11, 21)] [.ref 0, .double (FP.dmul (FP.i2d (xs (i + 1))) 4593671619917905920), .ref 37] [] r S T o o od (oD r.2.1 od) _ hn rfl hM1 (by decide +kernel) (by decide +kernel) rfl (by decide) rfl p2
set_option maxRecDepth 100000 in
set_option maxHeartbeats 4000000 in
theorem la_share (hs : lwSys l D ad cy (some (Ln, xs)) N WC) (n : Nat) (hn : n < N) (i : Nat) (hi : i + 5 ≤ Ln) (S : cS) (T : mS) (o : Nat → Int64) (od : Nat → UInt64) (r : cR) (hr2 : r.1 ≤ 2) (v : UInt32) (T' : mS) (q1 : vf_n32 (FP.fmul (FP.i2f (xs (i + 1))) 1040187392))
    (hM1 : wMet l yL_share cL_share 4 [(0, 9, 12, 21)] D ad cy [.ref 0, .float (FP.fmul (FP.i2f (xs (i + 1))) 1040187392), .ref 37] (cW S ++ [aL 1 o, aD 1 od]) (wPo r o (oF r.2.1 od)))
    (hM2 : xMet l yX5_share cX5_share 3 (some .float) 1 D (ad38 ad) cy [.ref 0, .float (FP.fmul (FP.i2f (xs (i + 1))) 1040187392)] (mW T) (fun vs aw' => vs = [.float v] ∧ aw' = mW T'))
    (h1 : mI T' 0 = nI r.1) (h2 : r.1 = 0 → vf_n64 (FP.f2d v) ∧ cvd ((oF r.2.1 od) 0) (FP.f2d v) .l = 0) (next : WC (n + 1) (xL_L_law.drop 681) [some (.ref 1000), some (.ref 0), some (.ref 38), some (.ref 36), some (.ref 37), some (.int (nI i)), none, none, none, none] [] (lwW r.2.2 T' o (oF r.2.1 od))) : WC n (xL_L_law.drop 235) [some (.ref 1000), some (.ref 0), some (.ref 38), some (.ref 36), some (.ref 37), some (.int (nI i)), none, none, none, none] [] (lwW S T o od) := by
  have hs1 := hs.1 n (by omega)
  have hs2 := hs.1 (n + 1) (by omega)
  have fin : WC (n + 1) (xL_L_law.drop 681) [some (.ref 1000), some (.ref 0), some (.ref 38), some (.ref 36), some (.ref 37), some (.int (nI i)), some (.int (nI r.1)), some (.float v), none, none] [] (lwW r.2.2 T' o (oF r.2.1 od)) := by
    refine hs2.2 681 _ _ _ _ ?_ ?_ next
    · exact And.intro rfl (And.intro rfl (And.intro rfl (And.intro rfl (And.intro rfl (And.intro rfl (trivial))))))
    · rfl
  have p4 : WC (n + 1) (xL_L_law.drop 260) [some (.ref 1000), some (.ref 0), some (.ref 38), some (.ref 36), some (.ref 37), some (.int (nI i)), some (.int (nI r.1)), some (.float v), none, none] [.int (mI T' 0)] (lwW r.2.2 T' o (oF r.2.1 od)) := by
    generalize (oF r.2.1 od) = oo at h2 next fin ⊢
    generalize r.2.2 = V at h2 next fin ⊢
    refine hs2.1 (fun pc => Nat.beq pc 1154) 80 260 _ _ _ ?_
    refine And.intro (fun _ => ?_) (fun h => absurd h1 h)
    refine And.intro (fun h => fin) (fun h => ?_)
    have h0 := h2 (i32_sm hr2 h)
    refine ⟨0, rfl, by decide, by decide, ?_⟩
    refine And.intro h0.1 ?_
    exact And.intro (fun _ => fin) (fun h4 => absurd h0.2 h4)
  have p3 : WC (n + 1) (xL_L_law.drop 257) [some (.ref 1000), some (.ref 0), some (.ref 38), some (.ref 36), some (.ref 37), some (.int (nI i)), some (.int (nI r.1)), none, none, none] [.float v] (lwW r.2.2 T' o (oF r.2.1 od)) := by
    refine hs2.1 (fun pc => Nat.beq pc 465) 80 257 _ _ _ ?_
    exact hs.2.2.1 (n + 1) 259 465 60 0 0 0 1 yX5_thrown cX5_thrown (some .int) [] [] [.int (mI T' 0)] r.2.2 T' T' o (oF r.2.1 od) _ (by omega) rfl (m_thrown T') (by decide +kernel) rfl (by decide +kernel) rfl (by decide) rfl rfl rfl p4
  have p2 : WC (n + 1) (xL_L_law.drop 246) [some (.ref 1000), some (.ref 0), some (.ref 38), some (.ref 36), some (.ref 37), some (.int (nI i)), none, none, none, none] [.int (nI r.1)] (lwW r.2.2 T o (oF r.2.1 od)) := by
    refine hs2.1 (fun pc => Nat.beq pc 459) 80 246 _ _ _ ?_
    refine ⟨i + 1, nI_add i 1, by omega, ?_⟩
    refine And.intro q1 ?_
    exact hs.2.2.1 (n + 1) 256 459 78 0 1 1 3 yX5_share cX5_share (some .float) [.float (FP.fmul (FP.i2f (xs (i + 1))) 1040187392)] [] [.float v] r.2.2 T T' o (oF r.2.1 od) _ (by omega) rfl hM2 (by decide +kernel) rfl (by decide +kernel) rfl (by decide) rfl rfl rfl p3
  refine hs1.1 (fun pc => Nat.beq pc 443) 80 235 _ _ _ ?_
  refine ⟨i + 1, nI_add i 1, by omega, ?_⟩
  refine And.intro q1 ?_
  exact hs.2.2.2.2 n 245 443 75 0 3 4 yL_share cL_share [(0, 9, 12, 21)] [.ref 0, .float (FP.fmul (FP.i2f (xs (i + 1))) 1040187392), .ref 37] [] r S T o o od (oF r.2.1 od) _ hn rfl hM1 (by decide +kernel) (by decide +kernel) rfl (by decide) rfl p2
set_option maxRecDepth 100000 in
set_option maxHeartbeats 4000000 in
theorem la_solver (hs : lwSys l D ad cy (some (Ln, xs)) N WC) (n : Nat) (hn : n < N) (i : Nat) (hi : i + 5 ≤ Ln) (S : cS) (T : mS) (o : Nat → Int64) (od : Nat → UInt64) (r : cR) (hr2 : r.1 ≤ 2) (v : UInt64) (T' : mS)
    (hM1 : wMet l yL_solver cL_solver 5 [(0, 9, 12, 21)] D ad cy [.ref 0, .int (xs (i + 1)), .int (xs (i + 2)), .ref 37] (cW S ++ [aL 1 o, aD 1 od]) (wPo r o (oD r.2.1 od)))
    (hM2 : xMet l yX5_solver cX5_solver 6 (some .double) 1 D (ad38 ad) cy [.ref 0, .int (xs (i + 1)), .int (xs (i + 2))] (mW T) (fun vs aw' => vs = [.double v] ∧ aw' = mW T'))
    (h1 : mI T' 0 = nI r.1) (h2 : r.1 = 0 → cvd ((oD r.2.1 od) 0) v .l = 0) (next : WC (n + 1) (xL_L_law.drop 681) [some (.ref 1000), some (.ref 0), some (.ref 38), some (.ref 36), some (.ref 37), some (.int (nI i)), none, none, none, none] [] (lwW r.2.2 T' o (oD r.2.1 od))) : WC n (xL_L_law.drop 288) [some (.ref 1000), some (.ref 0), some (.ref 38), some (.ref 36), some (.ref 37), some (.int (nI i)), none, none, none, none] [] (lwW S T o od) := by
  have hs1 := hs.1 n (by omega)
  have hs2 := hs.1 (n + 1) (by omega)
  have fin : WC (n + 1) (xL_L_law.drop 681) [some (.ref 1000), some (.ref 0), some (.ref 38), some (.ref 36), some (.ref 37), some (.int (nI i)), some (.int (nI r.1)), some (.double v), none, none] [] (lwW r.2.2 T' o (oD r.2.1 od)) := by
    refine hs2.2 681 _ _ _ _ ?_ ?_ next
    · exact And.intro rfl (And.intro rfl (And.intro rfl (And.intro rfl (And.intro rfl (And.intro rfl (trivial))))))
    · rfl
  have p4 : WC (n + 1) (xL_L_law.drop 317) [some (.ref 1000), some (.ref 0), some (.ref 38), some (.ref 36), some (.ref 37), some (.int (nI i)), some (.int (nI r.1)), some (.double v), none, none] [.int (mI T' 0)] (lwW r.2.2 T' o (oD r.2.1 od)) := by
    generalize (oD r.2.1 od) = oo at h2 next fin ⊢
    generalize r.2.2 = V at h2 next fin ⊢
    refine hs2.1 (fun pc => Nat.beq pc 1154) 80 317 _ _ _ ?_
    refine And.intro (fun _ => ?_) (fun h => absurd h1 h)
    refine And.intro (fun h => fin) (fun h => ?_)
    have h0 := h2 (i32_sm hr2 h)
    refine ⟨0, rfl, by decide, by decide, ?_⟩
    exact And.intro (fun _ => fin) (fun h4 => absurd h0 h4)
  have p3 : WC (n + 1) (xL_L_law.drop 314) [some (.ref 1000), some (.ref 0), some (.ref 38), some (.ref 36), some (.ref 37), some (.int (nI i)), some (.int (nI r.1)), none, none, none] [.double v] (lwW r.2.2 T' o (oD r.2.1 od)) := by
    refine hs2.1 (fun pc => Nat.beq pc 555) 80 314 _ _ _ ?_
    exact hs.2.2.1 (n + 1) 316 555 60 0 0 0 1 yX5_thrown cX5_thrown (some .int) [] [] [.int (mI T' 0)] r.2.2 T' T' o (oD r.2.1 od) _ (by omega) rfl (m_thrown T') (by decide +kernel) rfl (by decide +kernel) rfl (by decide) rfl rfl rfl p4
  have p2 : WC (n + 1) (xL_L_law.drop 301) [some (.ref 1000), some (.ref 0), some (.ref 38), some (.ref 36), some (.ref 37), some (.int (nI i)), none, none, none, none] [.int (nI r.1)] (lwW r.2.2 T o (oD r.2.1 od)) := by
    refine hs2.1 (fun pc => Nat.beq pc 549) 80 301 _ _ _ ?_
    refine ⟨i + 1, nI_add i 1, by omega, ?_⟩
    refine ⟨i + 2, nI_add i 2, by omega, ?_⟩
    exact hs.2.2.1 (n + 1) 313 549 82 0 2 1 6 yX5_solver cX5_solver (some .double) [.int (xs (i + 1)), .int (xs (i + 2))] [] [.double v] r.2.2 T T' o (oD r.2.1 od) _ (by omega) rfl hM2 (by decide +kernel) rfl (by decide +kernel) rfl (by decide) rfl rfl rfl p3
  refine hs1.1 (fun pc => Nat.beq pc 531) 80 288 _ _ _ ?_
  refine ⟨i + 1, nI_add i 1, by omega, ?_⟩
  refine ⟨i + 2, nI_add i 2, by omega, ?_⟩
  exact hs.2.2.2.2 n 300 531 79 0 4 5 yL_solver cL_solver [(0, 9, 12, 21)] [.ref 0, .int (xs (i + 1)), .int (xs (i + 2)), .ref 37] [] r S T o o od (oD r.2.1 od) _ hn rfl hM1 (by decide +kernel) (by decide +kernel) rfl (by decide) rfl p2
set_option maxRecDepth 100000 in
set_option maxHeartbeats 4000000 in
theorem la_step (hs : lwSys l D ad cy (some (Ln, xs)) N WC) (n : Nat) (hn : n < N) (i : Nat) (hi : i + 5 ≤ Ln) (S : cS) (T : mS) (o : Nat → Int64) (od : Nat → UInt64) (r : cR) (hr2 : r.1 ≤ 2) (v : Int32) (T' : mS) (q1 : vf_n64 (FP.dmul (FP.i2d (xs (i + 1))) 4593671619917905920))
    (hM1 : wMet l yL_step cL_step 5 [(0, 9, 12, 21), (0, 9, 16, 15)] D ad cy [.ref 0, .double (FP.dmul (FP.i2d (xs (i + 1))) 4593671619917905920), .ref 36] (cW S ++ [aL 1 o, aD 1 od]) (wPo r (oI r.2.1 o) od))
    (hM2 : xMet l yX5_step cX5_step 5 (some .int) 4 D (ad38 ad) cy [.ref 0, .double (FP.dmul (FP.i2d (xs (i + 1))) 4593671619917905920)] (mW T) (fun vs aw' => vs = [.int v] ∧ aw' = mW T'))
    (h1 : mI T' 0 = nI r.1) (h2 : r.1 = 0 → (oI r.2.1 o) 0 = v.toInt64) (next : WC (n + 1) (xL_L_law.drop 681) [some (.ref 1000), some (.ref 0), some (.ref 38), some (.ref 36), some (.ref 37), some (.int (nI i)), none, none, none, none] [] (lwW r.2.2 T' (oI r.2.1 o) od)) : WC n (xL_L_law.drop 344) [some (.ref 1000), some (.ref 0), some (.ref 38), some (.ref 36), some (.ref 37), some (.int (nI i)), none, none, none, none] [] (lwW S T o od) := by
  have hs1 := hs.1 n (by omega)
  have hs2 := hs.1 (n + 1) (by omega)
  have fin : WC (n + 1) (xL_L_law.drop 681) [some (.ref 1000), some (.ref 0), some (.ref 38), some (.ref 36), some (.ref 37), some (.int (nI i)), some (.int (nI r.1)), some (.int v), none, none] [] (lwW r.2.2 T' (oI r.2.1 o) od) := by
    refine hs2.2 681 _ _ _ _ ?_ ?_ next
    · exact And.intro rfl (And.intro rfl (And.intro rfl (And.intro rfl (And.intro rfl (And.intro rfl (trivial))))))
    · rfl
  have p4 : WC (n + 1) (xL_L_law.drop 369) [some (.ref 1000), some (.ref 0), some (.ref 38), some (.ref 36), some (.ref 37), some (.int (nI i)), some (.int (nI r.1)), some (.int v), none, none] [.int (mI T' 0)] (lwW r.2.2 T' (oI r.2.1 o) od) := by
    generalize (oI r.2.1 o) = oo at h2 next fin ⊢
    generalize r.2.2 = V at h2 next fin ⊢
    refine hs2.1 (fun pc => Nat.beq pc 1154) 80 369 _ _ _ ?_
    refine And.intro (fun _ => ?_) (fun h => absurd h1 h)
    refine And.intro (fun h => fin) (fun h => ?_)
    have h0 := h2 (i32_sm hr2 h)
    refine ⟨0, rfl, by decide, by decide, ?_⟩
    exact And.intro (fun _ => fin) (fun h4 => absurd ((lg_cmp_eq _ _).mpr h0) h4)
  have p3 : WC (n + 1) (xL_L_law.drop 366) [some (.ref 1000), some (.ref 0), some (.ref 38), some (.ref 36), some (.ref 37), some (.int (nI i)), some (.int (nI r.1)), none, none, none] [.int v] (lwW r.2.2 T' (oI r.2.1 o) od) := by
    refine hs2.1 (fun pc => Nat.beq pc 641) 80 366 _ _ _ ?_
    exact hs.2.2.1 (n + 1) 368 641 60 0 0 0 1 yX5_thrown cX5_thrown (some .int) [] [] [.int (mI T' 0)] r.2.2 T' T' (oI r.2.1 o) od _ (by omega) rfl (m_thrown T') (by decide +kernel) rfl (by decide +kernel) rfl (by decide) rfl rfl rfl p4
  have p2 : WC (n + 1) (xL_L_law.drop 355) [some (.ref 1000), some (.ref 0), some (.ref 38), some (.ref 36), some (.ref 37), some (.int (nI i)), none, none, none, none] [.int (nI r.1)] (lwW r.2.2 T (oI r.2.1 o) od) := by
    refine hs2.1 (fun pc => Nat.beq pc 635) 80 355 _ _ _ ?_
    refine ⟨i + 1, nI_add i 1, by omega, ?_⟩
    refine And.intro q1 ?_
    exact hs.2.2.1 (n + 1) 365 635 86 0 1 4 5 yX5_step cX5_step (some .int) [.double (FP.dmul (FP.i2d (xs (i + 1))) 4593671619917905920)] [] [.int v] r.2.2 T T' (oI r.2.1 o) od _ (by omega) rfl hM2 (by decide +kernel) rfl (by decide +kernel) rfl (by decide) rfl rfl rfl p3
  refine hs1.1 (fun pc => Nat.beq pc 618) 80 344 _ _ _ ?_
  refine ⟨i + 1, nI_add i 1, by omega, ?_⟩
  refine And.intro q1 ?_
  exact hs.2.2.2.2 n 354 618 83 0 3 5 yL_step cL_step [(0, 9, 12, 21), (0, 9, 16, 15)] [.ref 0, .double (FP.dmul (FP.i2d (xs (i + 1))) 4593671619917905920), .ref 36] [] r S T o (oI r.2.1 o) od od _ hn rfl hM1 (by decide +kernel) (by decide +kernel) rfl (by decide) rfl p2
set_option maxRecDepth 100000 in
set_option maxHeartbeats 4000000 in
theorem la_particle (hs : lwSys l D ad cy (some (Ln, xs)) N WC) (n : Nat) (hn : n < N) (i : Nat) (hi : i + 5 ≤ Ln) (S : cS) (T : mS) (o : Nat → Int64) (od : Nat → UInt64) (r : cR) (hr2 : r.1 ≤ 2) (v : UInt32) (T' : mS)
    (hM1 : wMet l yL_particle cL_particle 5 [(0, 10, 13, 13)] D ad cy [.ref 0, .int (xs (i + 1)), .int (xs (i + 2)), .ref 37] (cW S ++ [aL 1 o, aD 1 od]) (wPo r o (oF r.2.1 od)))
    (hM2 : xMet l yX5_particle cX5_particle 3 (some .float) 1 D (ad38 ad) cy [.ref 0, .int (xs (i + 1)), .int (xs (i + 2))] (mW T) (fun vs aw' => vs = [.float v] ∧ aw' = mW T'))
    (h1 : mI T' 0 = nI r.1) (h2 : r.1 = 0 → vf_n64 (FP.f2d v) ∧ cvd ((oF r.2.1 od) 0) (FP.f2d v) .l = 0) (next : WC (n + 1) (xL_L_law.drop 681) [some (.ref 1000), some (.ref 0), some (.ref 38), some (.ref 36), some (.ref 37), some (.int (nI i)), none, none, none, none] [] (lwW r.2.2 T' o (oF r.2.1 od))) : WC n (xL_L_law.drop 410) [some (.ref 1000), some (.ref 0), some (.ref 38), some (.ref 36), some (.ref 37), some (.int (nI i)), none, none, none, none] [] (lwW S T o od) := by
  have hs1 := hs.1 n (by omega)
  have hs2 := hs.1 (n + 1) (by omega)
  have fin : WC (n + 1) (xL_L_law.drop 681) [some (.ref 1000), some (.ref 0), some (.ref 38), some (.ref 36), some (.ref 37), some (.int (nI i)), some (.int (nI r.1)), some (.float v), none, none] [] (lwW r.2.2 T' o (oF r.2.1 od)) := by
    refine hs2.2 681 _ _ _ _ ?_ ?_ next
    · exact And.intro rfl (And.intro rfl (And.intro rfl (And.intro rfl (And.intro rfl (And.intro rfl (trivial))))))
    · rfl
  have p4 : WC (n + 1) (xL_L_law.drop 439) [some (.ref 1000), some (.ref 0), some (.ref 38), some (.ref 36), some (.ref 37), some (.int (nI i)), some (.int (nI r.1)), some (.float v), none, none] [.int (mI T' 0)] (lwW r.2.2 T' o (oF r.2.1 od)) := by
    generalize (oF r.2.1 od) = oo at h2 next fin ⊢
    generalize r.2.2 = V at h2 next fin ⊢
    refine hs2.1 (fun pc => Nat.beq pc 1154) 80 439 _ _ _ ?_
    refine And.intro (fun _ => ?_) (fun h => absurd h1 h)
    refine And.intro (fun h => fin) (fun h => ?_)
    have h0 := h2 (i32_sm hr2 h)
    refine ⟨0, rfl, by decide, by decide, ?_⟩
    refine And.intro h0.1 ?_
    exact And.intro (fun _ => fin) (fun h4 => absurd h0.2 h4)
  have p3 : WC (n + 1) (xL_L_law.drop 436) [some (.ref 1000), some (.ref 0), some (.ref 38), some (.ref 36), some (.ref 37), some (.int (nI i)), some (.int (nI r.1)), none, none, none] [.float v] (lwW r.2.2 T' o (oF r.2.1 od)) := by
    refine hs2.1 (fun pc => Nat.beq pc 751) 80 436 _ _ _ ?_
    exact hs.2.2.1 (n + 1) 438 751 60 0 0 0 1 yX5_thrown cX5_thrown (some .int) [] [] [.int (mI T' 0)] r.2.2 T' T' o (oF r.2.1 od) _ (by omega) rfl (m_thrown T') (by decide +kernel) rfl (by decide +kernel) rfl (by decide) rfl rfl rfl p4
  have p2 : WC (n + 1) (xL_L_law.drop 423) [some (.ref 1000), some (.ref 0), some (.ref 38), some (.ref 36), some (.ref 37), some (.int (nI i)), none, none, none, none] [.int (nI r.1)] (lwW r.2.2 T o (oF r.2.1 od)) := by
    refine hs2.1 (fun pc => Nat.beq pc 745) 80 423 _ _ _ ?_
    refine ⟨i + 1, nI_add i 1, by omega, ?_⟩
    refine ⟨i + 2, nI_add i 2, by omega, ?_⟩
    exact hs.2.2.1 (n + 1) 435 745 94 0 2 1 3 yX5_particle cX5_particle (some .float) [.int (xs (i + 1)), .int (xs (i + 2))] [] [.float v] r.2.2 T T' o (oF r.2.1 od) _ (by omega) rfl hM2 (by decide +kernel) rfl (by decide +kernel) rfl (by decide) rfl rfl rfl p3
  refine hs1.1 (fun pc => Nat.beq pc 727) 80 410 _ _ _ ?_
  refine ⟨i + 1, nI_add i 1, by omega, ?_⟩
  refine ⟨i + 2, nI_add i 2, by omega, ?_⟩
  exact hs.2.2.2.2 n 422 727 92 0 4 5 yL_particle cL_particle [(0, 10, 13, 13)] [.ref 0, .int (xs (i + 1)), .int (xs (i + 2)), .ref 37] [] r S T o o od (oF r.2.1 od) _ hn rfl hM1 (by decide +kernel) (by decide +kernel) rfl (by decide) rfl p2
set_option maxRecDepth 100000 in
set_option maxHeartbeats 4000000 in
theorem la_pressure (hs : lwSys l D ad cy (some (Ln, xs)) N WC) (n : Nat) (hn : n < N) (i : Nat) (hi : i + 5 ≤ Ln) (S : cS) (T : mS) (o : Nat → Int64) (od : Nat → UInt64) (r : cR) (hr2 : r.1 ≤ 2) (v : UInt64) (T' : mS)
    (hM1 : wMet l yL_pressure cL_pressure 5 [(0, 9, 12, 13)] D ad cy [.ref 0, .int (xs (i + 1)), .int (xs (i + 2)), .ref 37] (cW S ++ [aL 1 o, aD 1 od]) (wPo r o (oD r.2.1 od)))
    (hM2 : xMet l yX5_pressure cX5_pressure 3 (some .double) 1 D (ad38 ad) cy [.ref 0, .int (xs (i + 1)), .int (xs (i + 2))] (mW T) (fun vs aw' => vs = [.double v] ∧ aw' = mW T'))
    (h1 : mI T' 0 = nI r.1) (h2 : r.1 = 0 → cvd ((oD r.2.1 od) 0) v .l = 0) (next : WC (n + 1) (xL_L_law.drop 681) [some (.ref 1000), some (.ref 0), some (.ref 38), some (.ref 36), some (.ref 37), some (.int (nI i)), none, none, none, none] [] (lwW r.2.2 T' o (oD r.2.1 od))) : WC n (xL_L_law.drop 467) [some (.ref 1000), some (.ref 0), some (.ref 38), some (.ref 36), some (.ref 37), some (.int (nI i)), none, none, none, none] [] (lwW S T o od) := by
  have hs1 := hs.1 n (by omega)
  have hs2 := hs.1 (n + 1) (by omega)
  have fin : WC (n + 1) (xL_L_law.drop 681) [some (.ref 1000), some (.ref 0), some (.ref 38), some (.ref 36), some (.ref 37), some (.int (nI i)), some (.int (nI r.1)), some (.double v), none, none] [] (lwW r.2.2 T' o (oD r.2.1 od)) := by
    refine hs2.2 681 _ _ _ _ ?_ ?_ next
    · exact And.intro rfl (And.intro rfl (And.intro rfl (And.intro rfl (And.intro rfl (And.intro rfl (trivial))))))
    · rfl
  have p4 : WC (n + 1) (xL_L_law.drop 496) [some (.ref 1000), some (.ref 0), some (.ref 38), some (.ref 36), some (.ref 37), some (.int (nI i)), some (.int (nI r.1)), some (.double v), none, none] [.int (mI T' 0)] (lwW r.2.2 T' o (oD r.2.1 od)) := by
    generalize (oD r.2.1 od) = oo at h2 next fin ⊢
    generalize r.2.2 = V at h2 next fin ⊢
    refine hs2.1 (fun pc => Nat.beq pc 1154) 80 496 _ _ _ ?_
    refine And.intro (fun _ => ?_) (fun h => absurd h1 h)
    refine And.intro (fun h => fin) (fun h => ?_)
    have h0 := h2 (i32_sm hr2 h)
    refine ⟨0, rfl, by decide, by decide, ?_⟩
    exact And.intro (fun _ => fin) (fun h4 => absurd h0 h4)
  have p3 : WC (n + 1) (xL_L_law.drop 493) [some (.ref 1000), some (.ref 0), some (.ref 38), some (.ref 36), some (.ref 37), some (.int (nI i)), some (.int (nI r.1)), none, none, none] [.double v] (lwW r.2.2 T' o (oD r.2.1 od)) := by
    refine hs2.1 (fun pc => Nat.beq pc 841) 80 493 _ _ _ ?_
    exact hs.2.2.1 (n + 1) 495 841 60 0 0 0 1 yX5_thrown cX5_thrown (some .int) [] [] [.int (mI T' 0)] r.2.2 T' T' o (oD r.2.1 od) _ (by omega) rfl (m_thrown T') (by decide +kernel) rfl (by decide +kernel) rfl (by decide) rfl rfl rfl p4
  have p2 : WC (n + 1) (xL_L_law.drop 480) [some (.ref 1000), some (.ref 0), some (.ref 38), some (.ref 36), some (.ref 37), some (.int (nI i)), none, none, none, none] [.int (nI r.1)] (lwW r.2.2 T o (oD r.2.1 od)) := by
    refine hs2.1 (fun pc => Nat.beq pc 835) 80 480 _ _ _ ?_
    refine ⟨i + 1, nI_add i 1, by omega, ?_⟩
    refine ⟨i + 2, nI_add i 2, by omega, ?_⟩
    exact hs.2.2.1 (n + 1) 492 835 97 0 2 1 3 yX5_pressure cX5_pressure (some .double) [.int (xs (i + 1)), .int (xs (i + 2))] [] [.double v] r.2.2 T T' o (oD r.2.1 od) _ (by omega) rfl hM2 (by decide +kernel) rfl (by decide +kernel) rfl (by decide) rfl rfl rfl p3
  refine hs1.1 (fun pc => Nat.beq pc 817) 80 467 _ _ _ ?_
  refine ⟨i + 1, nI_add i 1, by omega, ?_⟩
  refine ⟨i + 2, nI_add i 2, by omega, ?_⟩
  exact hs.2.2.2.2 n 479 817 95 0 4 5 yL_pressure cL_pressure [(0, 9, 12, 13)] [.ref 0, .int (xs (i + 1)), .int (xs (i + 2)), .ref 37] [] r S T o o od (oD r.2.1 od) _ hn rfl hM1 (by decide +kernel) (by decide +kernel) rfl (by decide) rfl p2
set_option maxRecDepth 100000 in
set_option maxHeartbeats 4000000 in
theorem la_face (hs : lwSys l D ad cy (some (Ln, xs)) N WC) (n : Nat) (hn : n < N) (i : Nat) (hi : i + 5 ≤ Ln) (S : cS) (T : mS) (o : Nat → Int64) (od : Nat → UInt64) (r : cR) (hr2 : r.1 ≤ 2) (v : UInt64) (T' : mS)
    (hM1 : wMet l yL_face cL_face 6 [(0, 11, 14, 13)] D ad cy [.ref 0, .int (xs (i + 1)), .int (xs (i + 2)), .int (xs (i + 3)), .ref 37] (cW S ++ [aL 1 o, aD 1 od]) (wPo r o (oD r.2.1 od)))
    (hM2 : xMet l yX5_face cX5_face 5 (some .double) 1 D (ad38 ad) cy [.ref 0, .int (xs (i + 1)), .int (xs (i + 2)), .int (xs (i + 3))] (mW T) (fun vs aw' => vs = [.double v] ∧ aw' = mW T'))
    (h1 : mI T' 0 = nI r.1) (h2 : r.1 = 0 → cvd ((oD r.2.1 od) 0) v .l = 0) (next : WC (n + 1) (xL_L_law.drop 681) [some (.ref 1000), some (.ref 0), some (.ref 38), some (.ref 36), some (.ref 37), some (.int (nI i)), none, none, none, none] [] (lwW r.2.2 T' o (oD r.2.1 od))) : WC n (xL_L_law.drop 523) [some (.ref 1000), some (.ref 0), some (.ref 38), some (.ref 36), some (.ref 37), some (.int (nI i)), none, none, none, none] [] (lwW S T o od) := by
  have hs1 := hs.1 n (by omega)
  have hs2 := hs.1 (n + 1) (by omega)
  have fin : WC (n + 1) (xL_L_law.drop 681) [some (.ref 1000), some (.ref 0), some (.ref 38), some (.ref 36), some (.ref 37), some (.int (nI i)), some (.int (nI r.1)), some (.double v), none, none] [] (lwW r.2.2 T' o (oD r.2.1 od)) := by
    refine hs2.2 681 _ _ _ _ ?_ ?_ next
    · exact And.intro rfl (And.intro rfl (And.intro rfl (And.intro rfl (And.intro rfl (And.intro rfl (trivial))))))
    · rfl
  have p4 : WC (n + 1) (xL_L_law.drop 562) [some (.ref 1000), some (.ref 0), some (.ref 38), some (.ref 36), some (.ref 37), some (.int (nI i)), some (.int (nI r.1)), some (.double v), none, none] [.int (mI T' 0)] (lwW r.2.2 T' o (oD r.2.1 od)) := by
    generalize (oD r.2.1 od) = oo at h2 next fin ⊢
    generalize r.2.2 = V at h2 next fin ⊢
    refine hs2.1 (fun pc => Nat.beq pc 1154) 80 562 _ _ _ ?_
    refine And.intro (fun _ => ?_) (fun h => absurd h1 h)
    refine And.intro (fun h => fin) (fun h => ?_)
    have h0 := h2 (i32_sm hr2 h)
    refine ⟨0, rfl, by decide, by decide, ?_⟩
    exact And.intro (fun _ => fin) (fun h4 => absurd h0 h4)
  have p3 : WC (n + 1) (xL_L_law.drop 559) [some (.ref 1000), some (.ref 0), some (.ref 38), some (.ref 36), some (.ref 37), some (.int (nI i)), some (.int (nI r.1)), none, none, none] [.double v] (lwW r.2.2 T' o (oD r.2.1 od)) := by
    refine hs2.1 (fun pc => Nat.beq pc 942) 80 559 _ _ _ ?_
    exact hs.2.2.1 (n + 1) 561 942 60 0 0 0 1 yX5_thrown cX5_thrown (some .int) [] [] [.int (mI T' 0)] r.2.2 T' T' o (oD r.2.1 od) _ (by omega) rfl (m_thrown T') (by decide +kernel) rfl (by decide +kernel) rfl (by decide) rfl rfl rfl p4
  have p2 : WC (n + 1) (xL_L_law.drop 541) [some (.ref 1000), some (.ref 0), some (.ref 38), some (.ref 36), some (.ref 37), some (.int (nI i)), none, none, none, none] [.int (nI r.1)] (lwW r.2.2 T o (oD r.2.1 od)) := by
    refine hs2.1 (fun pc => Nat.beq pc 936) 80 541 _ _ _ ?_
    refine ⟨i + 1, nI_add i 1, by omega, ?_⟩
    refine ⟨i + 2, nI_add i 2, by omega, ?_⟩
    refine ⟨i + 3, nI_add i 3, by omega, ?_⟩
    exact hs.2.2.1 (n + 1) 558 936 101 0 3 1 5 yX5_face cX5_face (some .double) [.int (xs (i + 1)), .int (xs (i + 2)), .int (xs (i + 3))] [] [.double v] r.2.2 T T' o (oD r.2.1 od) _ (by omega) rfl hM2 (by decide +kernel) rfl (by decide +kernel) rfl (by decide) rfl rfl rfl p3
  refine hs1.1 (fun pc => Nat.beq pc 912) 80 523 _ _ _ ?_
  refine ⟨i + 1, nI_add i 1, by omega, ?_⟩
  refine ⟨i + 2, nI_add i 2, by omega, ?_⟩
  refine ⟨i + 3, nI_add i 3, by omega, ?_⟩
  exact hs.2.2.2.2 n 540 912 98 0 5 6 yL_face cL_face [(0, 11, 14, 13)] [.ref 0, .int (xs (i + 1)), .int (xs (i + 2)), .int (xs (i + 3)), .ref 37] [] r S T o o od (oD r.2.1 od) _ hn rfl hM1 (by decide +kernel) (by decide +kernel) rfl (by decide) rfl p2
end LA
