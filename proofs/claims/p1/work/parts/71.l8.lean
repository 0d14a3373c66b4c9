/-! the law's other cases, its loop's head -/
section LB
variable {l : Launch} {D : va_G} {ad : Nat → Nat} {cy : Nat → ClassId} {Ln : Nat} {xs : Nat → Int32} {N : Nat} {WC : Nat → xC → xO → List Value → xA → Prop}
set_option maxRecDepth 100000 in
set_option maxHeartbeats 4000000 in
theorem la_back (hs : lwSys l D ad cy (some (Ln, xs)) N WC) (n : Nat) (hn : n ≤ N) (i : Nat) (hi : i + 5 ≤ Ln) (S S' : cS) (T T' : mS) (o : Nat → Int64) (od : Nat → UInt64) (b v : Bool) (hb : b = decide (xs (i + 1) ≠ 0))
    (hM1 : xMet l yX4_back cX4_back 2 (some .boolean) 2 D ad cy [.ref 0, .int (xb b)] (cW S) (fun vs aw' => vs = [.int (xb v)] ∧ aw' = cW S'))
    (hM2 : xMet l yX5_back cX5_back 2 (some .boolean) 1 D (ad38 ad) cy [.ref 0, .int (xb b)] (mW T) (fun vs aw' => vs = [.int (xb v)] ∧ aw' = mW T'))
    (next : WC n (xL_L_law.drop 681) [some (.ref 1000), some (.ref 0), some (.ref 38), some (.ref 36), some (.ref 37), some (.int (nI i)), none, none, none, none] [] (lwW S' T' o od)) : WC n (xL_L_law.drop 385) [some (.ref 1000), some (.ref 0), some (.ref 38), some (.ref 36), some (.ref 37), some (.int (nI i)), none, none, none, none] [] (lwW S T o od) := by
  have hb0 : xs (i + 1) = 0 → b = false := fun h => by rw [hb]; simp [h]
  have hb1 : ¬ xs (i + 1) = 0 → b = true := fun h => by rw [hb]; simp [h]
  have hs1 := hs.1 n hn
  have p3 : WC n (xL_L_law.drop 407) [some (.ref 1000), some (.ref 0), some (.ref 38), some (.ref 36), some (.ref 37), some (.int (nI i)), none, none, none, none] [.int (xb v), .int (xb v)] (lwW S' T' o od) := by
    refine hs1.1 (fun pc => Nat.beq pc 1154) 80 407 _ _ _ ?_
    exact And.intro (fun _ => next) (fun h => absurd rfl h)
  have p2 : WC n (xL_L_law.drop 396) [some (.ref 1000), some (.ref 0), some (.ref 38), some (.ref 36), some (.ref 37), some (.int (nI i)), none, none, none, none] [.int (xb v)] (lwW S' T o od) := by
    refine hs1.1 (fun pc => Nat.beq pc 704) 80 396 _ _ _ ?_
    refine ⟨i + 1, nI_add i 1, by omega, ?_⟩
    refine And.intro (fun h => ?_) (fun h => ?_)
    · have hbz := hb0 h
      rw [hbz] at hM2
      exact hs.2.2.1 n 406 704 91 0 1 1 2 yX5_back cX5_back (some .boolean) [.int (xb false)] [.int (xb v)] [.int (xb v)] S' T T' o od _ hn rfl hM2 (by decide +kernel) rfl (by decide +kernel) rfl (by decide) rfl rfl rfl p3
    · have hbz := hb1 h
      rw [hbz] at hM2
      exact hs.2.2.1 n 406 704 91 0 1 1 2 yX5_back cX5_back (some .boolean) [.int (xb true)] [.int (xb v)] [.int (xb v)] S' T T' o od _ hn rfl hM2 (by decide +kernel) rfl (by decide +kernel) rfl (by decide) rfl rfl rfl p3
  refine hs1.1 (fun pc => Nat.beq pc 686) 80 385 _ _ _ ?_
  refine ⟨i + 1, nI_add i 1, by omega, ?_⟩
  refine And.intro (fun h => ?_) (fun h => ?_)
  · have hbz := hb0 h
    rw [hbz] at hM1
    exact hs.2.2.2.1 n 395 686 87 0 1 2 2 yX4_back cX4_back (some .boolean) [.int (xb false)] [] [.int (xb v)] S S' T o od _ hn rfl hM1 (by decide +kernel) rfl (by decide +kernel) rfl (by decide) rfl p2
  · have hbz := hb1 h
    rw [hbz] at hM1
    exact hs.2.2.2.1 n 395 686 87 0 1 2 2 yX4_back cX4_back (some .boolean) [.int (xb true)] [] [.int (xb v)] S S' T o od _ hn rfl hM1 (by decide +kernel) rfl (by decide +kernel) rfl (by decide) rfl p2
set_option maxRecDepth 100000 in
set_option maxHeartbeats 4000000 in
theorem la_rest (hs : lwSys l D ad cy (some (Ln, xs)) N WC) (n : Nat) (hn : n ≤ N) (i : Nat) (hi : i + 5 ≤ Ln) (S S' : cS) (T T' : mS) (o : Nat → Int64) (od : Nat → UInt64) (v w : UInt64)
    (hM1 : xMet l yX4_rest cX4_rest 1 (some .double) 0 D ad cy [.ref 0] (cW S) (fun vs aw' => vs = [.double v] ∧ aw' = cW S'))
    (hM2 : xMet l yX5_rest cX5_rest 1 (some .double) 0 D (ad38 ad) cy [.ref 0] (mW T) (fun vs aw' => vs = [.double w] ∧ aw' = mW T'))
    (h2 : cvd v w .l = 0) (next : WC n (xL_L_law.drop 681) [some (.ref 1000), some (.ref 0), some (.ref 38), some (.ref 36), some (.ref 37), some (.int (nI i)), none, none, none, none] [] (lwW S' T' o od)) : WC n (xL_L_law.drop 589) [some (.ref 1000), some (.ref 0), some (.ref 38), some (.ref 36), some (.ref 37), some (.int (nI i)), none, none, none, none] [] (lwW S T o od) := by
  have hs1 := hs.1 n hn
  have fin : WC n (xL_L_law.drop 681) [some (.ref 1000), some (.ref 0), some (.ref 38), some (.ref 36), some (.ref 37), some (.int (nI i)), some (.double v), none, some (.double w), none] [] (lwW S' T' o od) := by
    refine hs1.2 681 _ _ _ _ ?_ ?_ next
    · exact And.intro rfl (And.intro rfl (And.intro rfl (And.intro rfl (And.intro rfl (And.intro rfl (trivial))))))
    · rfl
  have p3 : WC n (xL_L_law.drop 594) [some (.ref 1000), some (.ref 0), some (.ref 38), some (.ref 36), some (.ref 37), some (.int (nI i)), some (.double v), none, none, none] [.double w] (lwW S' T' o od) := by
    refine hs1.1 (fun pc => Nat.beq pc 1154) 80 594 _ _ _ ?_
    exact And.intro (fun _ => fin) (fun h => absurd h2 h)
  have p2 : WC n (xL_L_law.drop 591) [some (.ref 1000), some (.ref 0), some (.ref 38), some (.ref 36), some (.ref 37), some (.int (nI i)), none, none, none, none] [.double v] (lwW S' T o od) := by
    refine hs1.1 (fun pc => Nat.beq pc 999) 80 591 _ _ _ ?_
    exact hs.2.2.1 n 593 999 106 0 0 0 1 yX5_rest cX5_rest (some .double) [] [] [.double w] S' T T' o od _ hn rfl hM2 (by decide +kernel) rfl (by decide +kernel) rfl (by decide) rfl rfl rfl p3
  refine hs1.1 (fun pc => Nat.beq pc 993) 80 589 _ _ _ ?_
  exact hs.2.2.2.1 n 590 993 102 0 0 0 1 yX4_rest cX4_rest (some .double) [] [] [.double v] S S' T o od _ hn rfl hM1 (by decide +kernel) rfl (by decide +kernel) rfl (by decide) rfl p2
set_option maxRecDepth 100000 in
set_option maxHeartbeats 4000000 in
theorem la_energy (hs : lwSys l D ad cy (some (Ln, xs)) N WC) (n : Nat) (hn : n ≤ N) (i : Nat) (hi : i + 5 ≤ Ln) (S S' : cS) (T T' : mS) (o : Nat → Int64) (od : Nat → UInt64) (v w : UInt64)
    (hM1 : xMet l yX4_energy cX4_energy 8 (some .double) 0 D ad cy [.ref 0] (cW S) (fun vs aw' => vs = [.double v] ∧ aw' = cW S'))
    (hM2 : xMet l yX5_energy cX5_energy 8 (some .double) 0 D (ad38 ad) cy [.ref 0] (mW T) (fun vs aw' => vs = [.double w] ∧ aw' = mW T'))
    (h2 : cvd v w .l = 0) (next : WC n (xL_L_law.drop 681) [some (.ref 1000), some (.ref 0), some (.ref 38), some (.ref 36), some (.ref 37), some (.int (nI i)), none, none, none, none] [] (lwW S' T' o od)) : WC n (xL_L_law.drop 610) [some (.ref 1000), some (.ref 0), some (.ref 38), some (.ref 36), some (.ref 37), some (.int (nI i)), none, none, none, none] [] (lwW S T o od) := by
  have hs1 := hs.1 n hn
  have fin : WC n (xL_L_law.drop 681) [some (.ref 1000), some (.ref 0), some (.ref 38), some (.ref 36), some (.ref 37), some (.int (nI i)), some (.double v), none, some (.double w), none] [] (lwW S' T' o od) := by
    refine hs1.2 681 _ _ _ _ ?_ ?_ next
    · exact And.intro rfl (And.intro rfl (And.intro rfl (And.intro rfl (And.intro rfl (And.intro rfl (trivial))))))
    · rfl
  have p3 : WC n (xL_L_law.drop 615) [some (.ref 1000), some (.ref 0), some (.ref 38), some (.ref 36), some (.ref 37), some (.int (nI i)), some (.double v), none, none, none] [.double w] (lwW S' T' o od) := by
    refine hs1.1 (fun pc => Nat.beq pc 1154) 80 615 _ _ _ ?_
    exact And.intro (fun _ => fin) (fun h => absurd h2 h)
  have p2 : WC n (xL_L_law.drop 612) [some (.ref 1000), some (.ref 0), some (.ref 38), some (.ref 36), some (.ref 37), some (.int (nI i)), none, none, none, none] [.double v] (lwW S' T o od) := by
    refine hs1.1 (fun pc => Nat.beq pc 1040) 80 612 _ _ _ ?_
    exact hs.2.2.1 n 614 1040 110 0 0 0 8 yX5_energy cX5_energy (some .double) [] [] [.double w] S' T T' o od _ hn rfl hM2 (by decide +kernel) rfl (by decide +kernel) rfl (by decide) rfl rfl rfl p3
  refine hs1.1 (fun pc => Nat.beq pc 1034) 80 610 _ _ _ ?_
  exact hs.2.2.2.1 n 611 1034 107 0 0 0 8 yX4_energy cX4_energy (some .double) [] [] [.double v] S S' T o od _ hn rfl hM1 (by decide +kernel) rfl (by decide +kernel) rfl (by decide) rfl p2
set_option maxRecDepth 100000 in
set_option maxHeartbeats 4000000 in
theorem la_drift (hs : lwSys l D ad cy (some (Ln, xs)) N WC) (n : Nat) (hn : n ≤ N) (i : Nat) (hi : i + 5 ≤ Ln) (S S' : cS) (T T' : mS) (o : Nat → Int64) (od : Nat → UInt64) (v w : UInt32)
    (hM1 : xMet l yX4_drift cX4_drift 5 (some .float) 0 D ad cy [.ref 0, .int (xs (i + 1))] (cW S) (fun vs aw' => vs = [.float v] ∧ aw' = cW S'))
    (hM2 : xMet l yX5_drift cX5_drift 4 (some .float) 0 D (ad38 ad) cy [.ref 0, .int (xs (i + 1))] (mW T) (fun vs aw' => vs = [.float w] ∧ aw' = mW T'))
    (q1 : vf_n64 (FP.f2d v)) (q2 : vf_n64 (FP.f2d w)) (h2 : cvd (FP.f2d v) (FP.f2d w) .l = 0) (next : WC n (xL_L_law.drop 681) [some (.ref 1000), some (.ref 0), some (.ref 38), some (.ref 36), some (.ref 37), some (.int (nI i)), none, none, none, none] [] (lwW S' T' o od)) : WC n (xL_L_law.drop 631) [some (.ref 1000), some (.ref 0), some (.ref 38), some (.ref 36), some (.ref 37), some (.int (nI i)), none, none, none, none] [] (lwW S T o od) := by
  have hs1 := hs.1 n hn
  have fin : WC n (xL_L_law.drop 681) [some (.ref 1000), some (.ref 0), some (.ref 38), some (.ref 36), some (.ref 37), some (.int (nI i)), some (.double (FP.f2d v)), none, some (.double (FP.f2d w)), none] [] (lwW S' T' o od) := by
    refine hs1.2 681 _ _ _ _ ?_ ?_ next
    · exact And.intro rfl (And.intro rfl (And.intro rfl (And.intro rfl (And.intro rfl (And.intro rfl (trivial))))))
    · rfl
  have p3 : WC n (xL_L_law.drop 647) [some (.ref 1000), some (.ref 0), some (.ref 38), some (.ref 36), some (.ref 37), some (.int (nI i)), some (.double (FP.f2d v)), none, none, none] [.float w] (lwW S' T' o od) := by
    refine hs1.1 (fun pc => Nat.beq pc 1154) 80 647 _ _ _ ?_
    refine And.intro q2 ?_
    exact And.intro (fun _ => fin) (fun h => absurd h2 h)
  have p2 : WC n (xL_L_law.drop 638) [some (.ref 1000), some (.ref 0), some (.ref 38), some (.ref 36), some (.ref 37), some (.int (nI i)), none, none, none, none] [.float v] (lwW S' T o od) := by
    refine hs1.1 (fun pc => Nat.beq pc 1094) 80 638 _ _ _ ?_
    refine And.intro q1 ?_
    refine ⟨i + 1, nI_add i 1, by omega, ?_⟩
    exact hs.2.2.1 n 646 1094 115 0 1 0 4 yX5_drift cX5_drift (some .float) [.int (xs (i + 1))] [] [.float w] S' T T' o od _ hn rfl hM2 (by decide +kernel) rfl (by decide +kernel) rfl (by decide) rfl rfl rfl p3
  refine hs1.1 (fun pc => Nat.beq pc 1081) 80 631 _ _ _ ?_
  refine ⟨i + 1, nI_add i 1, by omega, ?_⟩
  exact hs.2.2.2.1 n 637 1081 111 0 1 0 5 yX4_drift cX4_drift (some .float) [.int (xs (i + 1))] [] [.float v] S S' T o od _ hn rfl hM1 (by decide +kernel) rfl (by decide +kernel) rfl (by decide) rfl p2
set_option maxRecDepth 100000 in
set_option maxHeartbeats 4000000 in
theorem la_count (hs : lwSys l D ad cy (some (Ln, xs)) N WC) (n : Nat) (hn : n ≤ N) (i : Nat) (hi : i + 5 ≤ Ln) (S S' : cS) (T T' : mS) (o : Nat → Int64) (od : Nat → UInt64) (v : Int32)
    (hM1 : xMet l yX4_count cX4_count 2 (some .int) 4 D ad cy [.ref 0, .int (xs (i + 1))] (cW S) (fun vs aw' => vs = [.int v] ∧ aw' = cW S'))
    (hM2 : xMet l yX5_count cX5_count 4 (some .int) 2 D (ad38 ad) cy [.ref 0, .int (xs (i + 1))] (mW T) (fun vs aw' => vs = [.int v] ∧ aw' = mW T'))
    (next : WC n (xL_L_law.drop 681) [some (.ref 1000), some (.ref 0), some (.ref 38), some (.ref 36), some (.ref 37), some (.int (nI i)), none, none, none, none] [] (lwW S' T' o od)) : WC n (xL_L_law.drop 664) [some (.ref 1000), some (.ref 0), some (.ref 38), some (.ref 36), some (.ref 37), some (.int (nI i)), none, none, none, none] [] (lwW S T o od) := by
  have hs1 := hs.1 n hn
  have p3 : WC n (xL_L_law.drop 678) [some (.ref 1000), some (.ref 0), some (.ref 38), some (.ref 36), some (.ref 37), some (.int (nI i)), none, none, none, none] [.int v, .int v] (lwW S' T' o od) := by
    refine hs1.1 (fun pc => Nat.beq pc 1154) 80 678 _ _ _ ?_
    exact And.intro (fun _ => next) (fun h => absurd rfl h)
  have p2 : WC n (xL_L_law.drop 671) [some (.ref 1000), some (.ref 0), some (.ref 38), some (.ref 36), some (.ref 37), some (.int (nI i)), none, none, none, none] [.int v] (lwW S' T o od) := by
    refine hs1.1 (fun pc => Nat.beq pc 1146) 80 671 _ _ _ ?_
    refine ⟨i + 1, nI_add i 1, by omega, ?_⟩
    exact hs.2.2.1 n 677 1146 120 0 1 2 4 yX5_count cX5_count (some .int) [.int (xs (i + 1))] [.int v] [.int v] S' T T' o od _ hn rfl hM2 (by decide +kernel) rfl (by decide +kernel) rfl (by decide) rfl rfl rfl p3
  refine hs1.1 (fun pc => Nat.beq pc 1136) 80 664 _ _ _ ?_
  refine ⟨i + 1, nI_add i 1, by omega, ?_⟩
  exact hs.2.2.2.1 n 670 1136 116 0 1 4 2 yX4_count cX4_count (some .int) [.int (xs (i + 1))] [] [.int v] S S' T o od _ hn rfl hM1 (by decide +kernel) rfl (by decide +kernel) rfl (by decide) rfl p2
set_option maxRecDepth 100000 in
set_option maxHeartbeats 4000000 in
theorem la_head (hs : lwSys l D ad cy (some (Ln, xs)) N WC) (n : Nat) (hn : n ≤ N) (i : Nat) (hi : i + 5 ≤ Ln) (hL : Ln < 2 ^ 31) (S : cS) (T : mS) (o : Nat → Int64) (od : Nat → UInt64)
    (c0 : xs i &&& nI 15 = nI 0 → WC n (xL_L_law.drop 28) [some (.ref 1000), some (.ref 0), some (.ref 38), some (.ref 36), some (.ref 37), some (.int (nI i)), none, none, none, none] [] (lwW S T o od))
    (c1 : xs i &&& nI 15 = nI 1 → WC n (xL_L_law.drop 94) [some (.ref 1000), some (.ref 0), some (.ref 38), some (.ref 36), some (.ref 37), some (.int (nI i)), none, none, none, none] [] (lwW S T o od))
    (c2 : xs i &&& nI 15 = nI 2 → WC n (xL_L_law.drop 183) [some (.ref 1000), some (.ref 0), some (.ref 38), some (.ref 36), some (.ref 37), some (.int (nI i)), none, none, none, none] [] (lwW S T o od))
    (c3 : xs i &&& nI 15 = nI 3 → WC n (xL_L_law.drop 235) [some (.ref 1000), some (.ref 0), some (.ref 38), some (.ref 36), some (.ref 37), some (.int (nI i)), none, none, none, none] [] (lwW S T o od))
    (c4 : xs i &&& nI 15 = nI 4 → WC n (xL_L_law.drop 288) [some (.ref 1000), some (.ref 0), some (.ref 38), some (.ref 36), some (.ref 37), some (.int (nI i)), none, none, none, none] [] (lwW S T o od))
    (c5 : xs i &&& nI 15 = nI 5 → WC n (xL_L_law.drop 344) [some (.ref 1000), some (.ref 0), some (.ref 38), some (.ref 36), some (.ref 37), some (.int (nI i)), none, none, none, none] [] (lwW S T o od))
    (c6 : xs i &&& nI 15 = nI 6 → WC n (xL_L_law.drop 385) [some (.ref 1000), some (.ref 0), some (.ref 38), some (.ref 36), some (.ref 37), some (.int (nI i)), none, none, none, none] [] (lwW S T o od))
    (c7 : xs i &&& nI 15 = nI 7 → WC n (xL_L_law.drop 410) [some (.ref 1000), some (.ref 0), some (.ref 38), some (.ref 36), some (.ref 37), some (.int (nI i)), none, none, none, none] [] (lwW S T o od))
    (c8 : xs i &&& nI 15 = nI 8 → WC n (xL_L_law.drop 467) [some (.ref 1000), some (.ref 0), some (.ref 38), some (.ref 36), some (.ref 37), some (.int (nI i)), none, none, none, none] [] (lwW S T o od))
    (c9 : xs i &&& nI 15 = nI 9 → WC n (xL_L_law.drop 523) [some (.ref 1000), some (.ref 0), some (.ref 38), some (.ref 36), some (.ref 37), some (.int (nI i)), none, none, none, none] [] (lwW S T o od))
    (c10 : xs i &&& nI 15 = nI 10 → WC n (xL_L_law.drop 589) [some (.ref 1000), some (.ref 0), some (.ref 38), some (.ref 36), some (.ref 37), some (.int (nI i)), none, none, none, none] [] (lwW S T o od))
    (c11 : xs i &&& nI 15 = nI 11 → WC n (xL_L_law.drop 610) [some (.ref 1000), some (.ref 0), some (.ref 38), some (.ref 36), some (.ref 37), some (.int (nI i)), none, none, none, none] [] (lwW S T o od))
    (c12 : xs i &&& nI 15 = nI 12 → WC n (xL_L_law.drop 631) [some (.ref 1000), some (.ref 0), some (.ref 38), some (.ref 36), some (.ref 37), some (.int (nI i)), none, none, none, none] [] (lwW S T o od))
    (c13 : xs i &&& nI 15 = nI 13 → WC n (xL_L_law.drop 664) [some (.ref 1000), some (.ref 0), some (.ref 38), some (.ref 36), some (.ref 37), some (.int (nI i)), none, none, none, none] [] (lwW S T o od))
    (cd : WC n (xL_L_law.drop 681) [some (.ref 1000), some (.ref 0), some (.ref 38), some (.ref 36), some (.ref 37), some (.int (nI i)), none, none, none, none] [] (lwW S T o od)) : WC n (xL_L_law.drop 16) [some (.ref 1000), some (.ref 0), some (.ref 38), some (.ref 36), some (.ref 37), some (.int (nI i)), none, none, none, none] [] (lwW S T o od) := by
  have hs1 := hs.1 n hn
  have e1 : nI Ln - nI 5 = nI (Ln - 5) := pk_sub (by omega)
  refine hs1.1 (fun pc => Nat.beq pc 116 || Nat.beq pc 219 || Nat.beq pc 343 || Nat.beq pc 430 || Nat.beq pc 516 || Nat.beq pc 605 || Nat.beq pc 671 || Nat.beq pc 712 || Nat.beq pc 802 || Nat.beq pc 891 || Nat.beq pc 992 || Nat.beq pc 1033 || Nat.beq pc 1074 || Nat.beq pc 1129 || Nat.beq pc 1154) 80 16 _ _ _ ?_
  refine And.intro (fun h => absurd ?_ (nI_nlt (a := Ln - 5) (b := i) (by omega) (by omega))) (fun h => ?_)
  · rw [← e1]; exact h
  refine ⟨i, rfl, by omega, ?_⟩
  refine And.intro (fun _ => cd) ?_
  exact And.intro (fun h => c0 (i32_of (by decide) (show (xs i &&& nI 15).toInt = ((0 : Nat) : Int) from h))) (And.intro (fun h => c1 (i32_of (by decide) (show (xs i &&& nI 15).toInt = ((1 : Nat) : Int) from h))) (And.intro (fun h => c2 (i32_of (by decide) (show (xs i &&& nI 15).toInt = ((2 : Nat) : Int) from h))) (And.intro (fun h => c3 (i32_of (by decide) (show (xs i &&& nI 15).toInt = ((3 : Nat) : Int) from h))) (And.intro (fun h => c4 (i32_of (by decide) (show (xs i &&& nI 15).toInt = ((4 : Nat) : Int) from h))) (And.intro (fun h => c5 (i32_of (by decide) (show (xs i &&& nI 15).toInt = ((5 : Nat) : Int) from h))) (And.intro (fun h => c6 (i32_of (by decide) (show (xs i &&& nI 15).toInt = ((6 : Nat) : Int) from h))) (And.intro (fun h => c7 (i32_of (by decide) (show (xs i &&& nI 15).toInt = ((7 : Nat) : Int) from h))) (And.intro (fun h => c8 (i32_of (by decide) (show (xs i &&& nI 15).toInt = ((8 : Nat) : Int) from h))) (And.intro (fun h => c9 (i32_of (by decide) (show (xs i &&& nI 15).toInt = ((9 : Nat) : Int) from h))) (And.intro (fun h => c10 (i32_of (by decide) (show (xs i &&& nI 15).toInt = ((10 : Nat) : Int) from h))) (And.intro (fun h => c11 (i32_of (by decide) (show (xs i &&& nI 15).toInt = ((11 : Nat) : Int) from h))) (And.intro (fun h => c12 (i32_of (by decide) (show (xs i &&& nI 15).toInt = ((12 : Nat) : Int) from h))) (And.intro (fun h => c13 (i32_of (by decide) (show (xs i &&& nI 15).toInt = ((13 : Nat) : Int) from h))) (trivial))))))))))))))
set_option maxRecDepth 100000 in
set_option maxHeartbeats 4000000 in
theorem la_end (hs : lwSys l D ad cy (some (Ln, xs)) N WC) (n : Nat) (hn : n ≤ N) (i : Nat) (hi : Ln < i + 5) (hL : Ln < 2 ^ 31 - 5) (hi9 : i < 2 ^ 31) (S : cS) (T : mS) (o : Nat → Int64) (od : Nat → UInt64) : WC n (xL_L_law.drop 16) [some (.ref 1000), some (.ref 0), some (.ref 38), some (.ref 36), some (.ref 37), some (.int (nI i)), none, none, none, none] [] (lwW S T o od) := by
  have hs1 := hs.1 n hn
  refine hs1.1 (fun _ => false) 80 16 _ _ _ ?_
  refine And.intro (fun h => rfl) (fun h => absurd ?_ h)
  show nI Ln - nI 5 < nI i
  rw [Int32.lt_iff_toInt_lt, nI_toInt hi9]
  have e1 : (nI Ln - nI 5).toInt = (Ln : Int) - 5 := by
    rw [Int32.toInt_sub, nI_toInt (by omega), nI_toInt (by decide)]
    exact Int.bmod_eq_of_le (by omega) (by omega)
  rw [e1]
  omega
set_option maxRecDepth 100000 in
set_option maxHeartbeats 4000000 in
theorem la_next (hs : lwSys l D ad cy (some (Ln, xs)) N WC) (n : Nat) (hn : n ≤ N) (i : Nat) (S : cS) (T : mS) (o : Nat → Int64) (od : Nat → UInt64) (next : WC n (xL_L_law.drop 16) [some (.ref 1000), some (.ref 0), some (.ref 38), some (.ref 36), some (.ref 37), some (.int (nI (i + 5))), none, none, none, none] [] (lwW S T o od)) : WC n (xL_L_law.drop 681) [some (.ref 1000), some (.ref 0), some (.ref 38), some (.ref 36), some (.ref 37), some (.int (nI i)), none, none, none, none] [] (lwW S T o od) := by
  have hs1 := hs.1 n hn
  rw [← nI_add i 5] at next
  refine hs1.1 (fun pc => Nat.beq pc 28) 80 681 _ _ _ ?_
  exact next
end LB
