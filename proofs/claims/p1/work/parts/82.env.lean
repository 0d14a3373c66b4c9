/-! what the law's start gives -/
section EV
variable {args : Array Value} {s : State}
theorem arr_of {ty : FieldType} (h : (Cond.arrayClass ty).before args s = true) : ∃ cA : ClassId, ArrOfT s cA ty ∧ s.vm.findClass ("[" ++ ty.toString) = some cA := by
  obtain ⟨cA, kA, comp, h1, h2, h3⟩ := Cond.arrayClass_spec h
  exact ⟨cA, fun n z => ⟨fun k h => (by cases h), kA, h2, comp, h3⟩, h1⟩
theorem env_K (hts : ∀ w ∈ xG, w.before args s = true) : ∃ (D : va_G) (cy : Nat → ClassId), va_K D vwCl (xty cy) s := by
  obtain ⟨c0, i0, k0⟩ := u_known (C := RX0) (T := TX0) (N := 7) (n := 7) hts xGX0 (hts (.instantiable RX0 7) (by decide +kernel))
  obtain ⟨c1, i1, k1⟩ := u_known (C := RX1) (T := TX1) (N := 4) (n := 4) hts xGX1 (hts (.instantiable RX1 4) (by decide +kernel))
  obtain ⟨c2, i2, k2⟩ := u_known (C := RX2) (T := TX2) (N := 8) (n := 8) hts xGX2 (hts (.instantiable RX2 8) (by decide +kernel))
  obtain ⟨c3, i3, k3⟩ := u_known (C := RX3) (T := TX3) (N := 10) (n := 10) hts xGX3 (hts (.instantiable RX3 10) (by decide +kernel))
  obtain ⟨c4, i4, k4⟩ := u_known (C := RX4) (T := TX4) (N := 10) (n := 10) hts xGX4 (hts (.instantiable RX4 10) (by decide +kernel))
  obtain ⟨c5, i5, k5⟩ := u_known (C := RX5) (T := TX5) (N := 25) (n := 25) hts xGX5 (hts (.instantiable RX5 25) (by decide +kernel))
  obtain ⟨a0, p0, q0⟩ := arr_of (hts _ (zarr_ok .double (by decide)))
  obtain ⟨a1, p1, q1⟩ := arr_of (hts _ (zarr_ok .float (by decide)))
  obtain ⟨a2, p2, q2⟩ := arr_of (hts _ (zarr_ok .int (by decide)))
  obtain ⟨a3, p3, q3⟩ := arr_of (hts _ (zarr_ok .boolean (by decide)))
  obtain ⟨a4, p4, q4⟩ := arr_of (hts _ (zarr_ok .long (by decide)))
  refine ⟨(fun k => match k with | 0 => c0 | 1 => c1 | 2 => c2 | 3 => c3 | 4 => c4 | _ => c5, fun k => match k with | 0 => i0 | 1 => i1 | 2 => i2 | 3 => i3 | 4 => i4 | _ => i5), fun k => match k with | 0 => a0 | 1 => a1 | 2 => a2 | 3 => a3 | _ => a4, fun k q hq => ?_, fun k q hq => ?_⟩
  · match k, hq with
    | 0, hq => cases hq; exact k0
    | 1, hq => cases hq; exact k1
    | 2, hq => cases hq; exact k2
    | 3, hq => cases hq; exact k3
    | 4, hq => cases hq; exact k4
    | 5, hq => cases hq; exact k5
    | k + 6, hq => simp [vwCl] at hq
  · match k, hq with
    | 0, hq => cases hq; exact ⟨p0, q0⟩
    | 1, hq => cases hq; exact ⟨p1, q1⟩
    | 2, hq => cases hq; exact ⟨p2, q2⟩
    | 3, hq => cases hq; exact ⟨p3, q3⟩
    | 4, hq => cases hq; exact ⟨p4, q4⟩
    | k + 5, hq => simp [xty] at hq
theorem xNl_t : ∀ q ∈ xNl, Cond.methodLinkNest q.1 q.2.1 q.2.2.1 q.2.2.2 ∈ lw_tbl := by decide +kernel
theorem ySt_t : ∀ q ∈ ySt, Cond.stringRef RX4 q.1 q.2 ∈ lw_tbl := by decide +kernel
theorem env_N (hts : ∀ w ∈ lw_tbl, w.before args s = true) : xNs s := fun q hq => va_Nw.of rfl (hts _ (xNl_t q hq))
theorem env_S (hts : ∀ w ∈ lw_tbl, w.before args s = true) {cur : ClassId} (hcur : s.vm.findClass RX4 = some cur) : ySR s := fun q hq => by
  have h := hts _ (ySt_t q hq)
  obtain ⟨k, cf, i, a, -, -, -, -, -, hev⟩ := Cond.stringRef_spec hcur h
  exact ⟨a, vk_R.of h hev⟩
theorem env_Z (hts : ∀ w ∈ lw_tbl, w.before args s = true) (hg : (Jvm.Cond.and given_1 narrow_1).before args s = true) {A : Nat → Prop} (hA : ∀ a : Nat, a < s.heap.size → ¬ A a) : yZ A s s.heap := by
  have hn := flat_of_before _ hg
  exact ⟨vx_Zqof (hts _ (by decide +kernel)) (hts _ (by decide +kernel)) (hn _ (by decide +kernel)) hA, vx_Zqof (hts _ (by decide +kernel)) (hts _ (by decide +kernel)) (hn _ (by decide +kernel)) hA⟩
theorem env_C (hg : (Jvm.Cond.and given_1 narrow_1).before args s = true) : yNc s := by
  have hn := flat_of_before _ hg
  exact ⟨va_Nc.of (hn (.not (.castable xIS xIO)) (by decide +kernel)), va_Nc.of (hn (.not (.castable xIS xIA)) (by decide +kernel))⟩
end EV
