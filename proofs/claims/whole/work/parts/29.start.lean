theorem ev_int {t : Term} {args : Array Value} {s : State} {k : Int32} (h : (Cond.eq t (.int k)).before args s = true) : t.eval args s none [] s = some (.int k) := by
  simp only [Cond.before, Cond.holds, Cond.value] at h
  cases he : t.eval args s none [] s with
  | none => simp [he] at h
  | some v =>
    rw [he] at h
    cases v <;> simp [Term.eval] at h
    rw [h]
theorem st_el0 : ∀ j, j < 9 → (Cond.eq (.elem (.field (.string "TrustClubModel" 329) "java/lang/String" "value" "[B") (.int (Int32.ofNat j))) (.int (([112, 119, 108, 102, 115, 104, 109, 103, 107] : List Int32).getD j 0))) ∈ flatC (Jvm.Cond.and given_1 narrow_1) := by decide +kernel
theorem st_0 {args : Array Value} {s : State} (hgv : (Jvm.Cond.and given_1 narrow_1).before args s = true) : ∃ adK adV : Nat → Nat, vk_S 1 [9] [[112, 119, 108, 102, 115, 104, 109, 103, 107]] adK adV (fun q => s.heap.size ≤ q) s s.heap ∧ ∀ i : Nat, i < 1 → (Term.string "TrustClubModel" 329).eval args s none [] s = some (.ref (adK i)) := by
  have hs := flat_of_before _ hgv
  refine vk_Sof (tm := fun _ => Term.string "TrustClubModel" 329) (fun i hi => ?_) (fun i _ => hs _ (by decide +kernel)) (fun i _ => hs _ (by decide +kernel)) (fun i _ => hs _ (by decide +kernel)) (fun i hi => ?_) (fun i hi j hj => ?_) (fun i j hi hj hne => ?_) (fun a ha => Nat.not_le.mpr ha)
  · obtain rfl : i = 0 := by omega
    decide
  · obtain rfl : i = 0 := by omega
    exact hs _ (by decide +kernel)
  · obtain rfl : i = 0 := by omega
    exact hs _ (st_el0 j hj)
  · exact absurd (by omega) hne
theorem st_el1 : ∀ j, j < 14 → (Cond.eq (.elem (.field (.string "TrustClub" 159) "java/lang/String" "value" "[B") (.int (Int32.ofNat j))) (.int (([110, 111, 32, 115, 117, 99, 104, 32, 109, 101, 109, 98, 101, 114] : List Int32).getD j 0))) ∈ flatC (Jvm.Cond.and given_1 narrow_1) := by decide +kernel
theorem st_1 {args : Array Value} {s : State} (hgv : (Jvm.Cond.and given_1 narrow_1).before args s = true) : ∃ adK adV : Nat → Nat, vk_S 1 [14] [[110, 111, 32, 115, 117, 99, 104, 32, 109, 101, 109, 98, 101, 114]] adK adV (fun q => s.heap.size ≤ q) s s.heap ∧ ∀ i : Nat, i < 1 → (Term.string "TrustClub" 159).eval args s none [] s = some (.ref (adK i)) := by
  have hs := flat_of_before _ hgv
  refine vk_Sof (tm := fun _ => Term.string "TrustClub" 159) (fun i hi => ?_) (fun i _ => hs _ (by decide +kernel)) (fun i _ => hs _ (by decide +kernel)) (fun i _ => hs _ (by decide +kernel)) (fun i hi => ?_) (fun i hi j hj => ?_) (fun i j hi hj hne => ?_) (fun a ha => Nat.not_le.mpr ha)
  · obtain rfl : i = 0 := by omega
    decide
  · obtain rfl : i = 0 := by omega
    exact hs _ (by decide +kernel)
  · obtain rfl : i = 0 := by omega
    exact hs _ (st_el1 j hj)
  · exact absurd (by omega) hne
theorem st_el2 : ∀ j, j < 20 → (Cond.eq (.elem (.field (.string "TrustClub" 258) "java/lang/String" "value" "[B") (.int (Int32.ofNat j))) (.int (([110, 111, 32, 115, 117, 99, 104, 32, 104, 101, 108, 100, 32, 112, 97, 121, 109, 101, 110, 116] : List Int32).getD j 0))) ∈ flatC (Jvm.Cond.and given_1 narrow_1) := by decide +kernel
theorem st_2 {args : Array Value} {s : State} (hgv : (Jvm.Cond.and given_1 narrow_1).before args s = true) : ∃ adK adV : Nat → Nat, vk_S 1 [20] [[110, 111, 32, 115, 117, 99, 104, 32, 104, 101, 108, 100, 32, 112, 97, 121, 109, 101, 110, 116]] adK adV (fun q => s.heap.size ≤ q) s s.heap ∧ ∀ i : Nat, i < 1 → (Term.string "TrustClub" 258).eval args s none [] s = some (.ref (adK i)) := by
  have hs := flat_of_before _ hgv
  refine vk_Sof (tm := fun _ => Term.string "TrustClub" 258) (fun i hi => ?_) (fun i _ => hs _ (by decide +kernel)) (fun i _ => hs _ (by decide +kernel)) (fun i _ => hs _ (by decide +kernel)) (fun i hi => ?_) (fun i hi j hj => ?_) (fun i j hi hj hne => ?_) (fun a ha => Nat.not_le.mpr ha)
  · obtain rfl : i = 0 := by omega
    decide
  · obtain rfl : i = 0 := by omega
    exact hs _ (by decide +kernel)
  · obtain rfl : i = 0 := by omega
    exact hs _ (st_el2 j hj)
  · exact absurd (by omega) hne
theorem st_el3 : ∀ j, j < 14 → (Cond.eq (.elem (.field (.string "TrustClub" 410) "java/lang/String" "value" "[B") (.int (Int32.ofNat j))) (.int (([110, 111, 32, 115, 117, 99, 104, 32, 110, 117, 109, 98, 101, 114] : List Int32).getD j 0))) ∈ flatC (Jvm.Cond.and given_1 narrow_1) := by decide +kernel
theorem st_3 {args : Array Value} {s : State} (hgv : (Jvm.Cond.and given_1 narrow_1).before args s = true) : ∃ adK adV : Nat → Nat, vk_S 1 [14] [[110, 111, 32, 115, 117, 99, 104, 32, 110, 117, 109, 98, 101, 114]] adK adV (fun q => s.heap.size ≤ q) s s.heap ∧ ∀ i : Nat, i < 1 → (Term.string "TrustClub" 410).eval args s none [] s = some (.ref (adK i)) := by
  have hs := flat_of_before _ hgv
  refine vk_Sof (tm := fun _ => Term.string "TrustClub" 410) (fun i hi => ?_) (fun i _ => hs _ (by decide +kernel)) (fun i _ => hs _ (by decide +kernel)) (fun i _ => hs _ (by decide +kernel)) (fun i hi => ?_) (fun i hi j hj => ?_) (fun i j hi hj hne => ?_) (fun a ha => Nat.not_le.mpr ha)
  · obtain rfl : i = 0 := by omega
    decide
  · obtain rfl : i = 0 := by omega
    exact hs _ (by decide +kernel)
  · obtain rfl : i = 0 := by omega
    exact hs _ (st_el3 j hj)
  · exact absurd (by omega) hne
theorem sx_start {args : Array Value} {s : State} (hgv : (Jvm.Cond.and given_1 narrow_1).before args s = true) (hts : ∀ w ∈ lw_tbl, w.before args s = true) : ∃ u v : Nat, ∀ ad : Nat → Nat, ad 400 = u → ad 401 = v → sxP ad (fun q => s.heap.size ≤ q) s := by
  have hs := flat_of_before _ hgv
  obtain ⟨K0, V0, f0, e0⟩ := st_0 hgv
  obtain ⟨K1, V1, -, e1⟩ := st_1 hgv
  obtain ⟨K2, V2, -, e2⟩ := st_2 hgv
  obtain ⟨K3, V3, -, e3⟩ := st_3 hgv
  refine ⟨K0 0, V0 0, fun ad h1 h2 => ⟨K1 0, K2 0, K3 0, ?_, ?_, ?_, ?_, ?_, ?_, ?_, ?_⟩⟩
  · refine ⟨fun i hi => ?_, fun i j hi hj _ => by omega⟩
    have := f0.1 i hi
    obtain rfl : i = 0 := by omega
    rw [h1, h2]
    exact this
  · rw [h1]; exact vk_R.of (hts _ (List.mem_of_getElem? (i := 1602) (by decide +kernel))) (e0 0 (by decide))
  · exact vk_R.of (hts _ (List.mem_of_getElem? (i := 1050) (by decide +kernel))) (e1 0 (by decide))
  · exact vk_R.of (hts _ (List.mem_of_getElem? (i := 1084) (by decide +kernel))) (e2 0 (by decide))
  · exact vk_R.of (hts _ (List.mem_of_getElem? (i := 1096) (by decide +kernel))) (e3 0 (by decide))
  · exact va_Zof (hts _ (List.mem_of_getElem? (i := 1616) (by decide +kernel))) (hts _ (List.mem_of_getElem? (i := 113) (by decide +kernel))) (ev_int (hs _ (by decide +kernel))) (fun a ha => Nat.not_le.mpr ha)
  · exact vx_Zqof (hts _ (List.mem_of_getElem? (i := 1038) (by decide +kernel))) (hts _ (List.mem_of_getElem? (i := 108) (by decide +kernel))) (hs _ (by decide +kernel)) (fun a ha => Nat.not_le.mpr ha)
  · exact vx_Zqof (hts _ (List.mem_of_getElem? (i := 1040) (by decide +kernel))) (hts _ (List.mem_of_getElem? (i := 108) (by decide +kernel))) (hs _ (by decide +kernel)) (fun a ha => Nat.not_le.mpr ha)
theorem nw_start {args : Array Value} {s : State} (hts : ∀ w ∈ lw_tbl, w.before args s = true) : nwP s := by
  intro w hw
  simp only [nwL, List.mem_cons, List.not_mem_nil, or_false] at hw
  rcases hw with rfl | rfl | rfl | rfl | rfl | rfl | rfl | rfl | rfl | rfl
  · exact va_Nw.of rfl (hts _ (List.mem_of_getElem? (i := 517) (by decide +kernel)))
  · exact va_Nw.of rfl (hts _ (List.mem_of_getElem? (i := 752) (by decide +kernel)))
  · exact va_Nw.of rfl (hts _ (List.mem_of_getElem? (i := 584) (by decide +kernel)))
  · exact va_Nw.of rfl (hts _ (List.mem_of_getElem? (i := 668) (by decide +kernel)))
  · exact va_Nw.of rfl (hts _ (List.mem_of_getElem? (i := 459) (by decide +kernel)))
  · exact va_Nw.of rfl (hts _ (List.mem_of_getElem? (i := 358) (by decide +kernel)))
  · exact va_Nw.of rfl (hts _ (List.mem_of_getElem? (i := 1013) (by decide +kernel)))
  · exact va_Nw.of rfl (hts _ (List.mem_of_getElem? (i := 1015) (by decide +kernel)))
  · exact va_Nw.of rfl (hts _ (List.mem_of_getElem? (i := 1017) (by decide +kernel)))
  · exact va_Nw.of rfl (hts _ (List.mem_of_getElem? (i := 1019) (by decide +kernel)))
theorem ao_start {args : Array Value} {s : State} (hts : ∀ w ∈ lw_tbl, w.before args s = true) : aoP s := ⟨va_AO.of (hts _ (List.mem_of_getElem? (i := 185) (by decide +kernel))), va_AO.of (hts _ (List.mem_of_getElem? (i := 133) (by decide +kernel))), aoA_moved (Vm.Alike.refl s.vm) (hts (.arrayOver (.array .int)) (List.mem_of_getElem? (i := 316) (by decide +kernel)))⟩
theorem cy_p {args : Array Value} {s : State} {ty : FieldType} (hp : refKind ty = false) (hR : ∀ c, va_RA s c ty = (s.vm.findClass ("[" ++ ty.toString) = some c)) (h : (Cond.arrayClass ty).before args s = true) : ∃ c, ArrOfT s c ty ∧ va_RA s c ty := by
  obtain ⟨c, k, comp, h1, h2, h3⟩ := Cond.arrayClass_spec h
  exact ⟨c, fun n z => ⟨fun k h => by (cases h), k, h2, comp, h3⟩, by rw [hR]; exact h1⟩
theorem cy_o {s : State} {C : String} (h : va_AO C s) : ∃ c, ArrOfT s c (.object C) ∧ va_RA s c (.object C) := by
  obtain ⟨comp, c, k, h1, h2, h3, h4, h5⟩ := Cond.arrayOver_spec h
  exact ⟨c, fun n z => ⟨fun k h => by (cases h), k, h3, comp, h4⟩, k, comp, h3, h4, h1, h5⟩
theorem cy_a {s : State} (h : (Cond.arrayOver (.array .int)).before #[] s = true) : ∃ c, ArrOfT s c (.array .int) ∧ va_RA s c (.array .int) := by
  unfold Cond.before Cond.holds at h
  simp only [Cond.value, beq_iff_eq] at h
  obtain ⟨comp, h1, h⟩ := Option.bind_eq_some_iff.mp h
  obtain ⟨c, h2, h⟩ := Option.bind_eq_some_iff.mp h
  obtain ⟨k, h3, h⟩ := Option.map_eq_some_iff.mp h
  split at h
  · rename_i cmp ty hkind
    simp only [Bool.and_eq_true, decide_eq_true_eq] at h
    exact ⟨c, fun n z => ⟨fun k h => by (cases h), k, h3, cmp, by rw [hkind, h.1]⟩, h.2⟩
  · cases h
theorem cy_start {args : Array Value} {s : State} (hts : ∀ w ∈ lw_tbl, w.before args s = true) : ∃ cy : Nat → ClassId, ∀ (k : Nat) (q : ClassId × FieldType), (tysL cy)[k]? = some q → ArrOfT s q.1 q.2 ∧ va_RA s q.1 q.2 := by
  have hao := ao_start hts
  obtain ⟨c0, h0⟩ := cy_p (args := args) (ty := .int) rfl (fun _ => rfl) (hts _ (List.mem_of_getElem? (i := 157) (by decide +kernel)))
  obtain ⟨c1, h1⟩ := cy_p (args := args) (ty := .byte) rfl (fun _ => rfl) (hts _ (List.mem_of_getElem? (i := 1076) (by decide +kernel)))
  obtain ⟨c2, h2⟩ := cy_p (args := args) (ty := .boolean) rfl (fun _ => rfl) (hts _ (List.mem_of_getElem? (i := 202) (by decide +kernel)))
  obtain ⟨c3, h3⟩ := cy_p (args := args) (ty := .long) rfl (fun _ => rfl) (hts _ (List.mem_of_getElem? (i := 263) (by decide +kernel)))
  obtain ⟨c4, h4⟩ := cy_o hao.1
  obtain ⟨c5, h5⟩ := cy_o hao.2.1
  obtain ⟨c6, h6⟩ := cy_a hao.2.2
  refine ⟨fun k => [c0, c1, c2, c3, c4, c5, c6].getD k c0, fun k q hq => ?_⟩
  match k, hq with
  | 0, hq => cases hq; exact h0
  | 1, hq => cases hq; exact h1
  | 2, hq => cases hq; exact h2
  | 3, hq => cases hq; exact h3
  | 4, hq => cases hq; exact h4
  | 5, hq => cases hq; exact h5
  | 6, hq => cases hq; exact h6
  | k + 7, hq => simp [tysL] at hq
theorem dD_start {args : Array Value} {s : State} (hts : ∀ w ∈ lw_tbl, w.before args s = true) : ∃ D : va_G, ∀ (c : Nat) (q : vw_C), vwCl[c]? = some q → u_Kn s q.1 q.2.1 q.2.2 (D.1 c) (D.2 c) := by
  have hg : ∀ w ∈ gtw, w.before args s = true := fun w h => hts w (List.mem_filter.mp h).1
  obtain ⟨c0, i0, k0⟩ := u_known (C := RX0) (T := TX0) (N := 5) (n := 5) hg giX0 (hts (.instantiable RX0 5) (List.mem_of_getElem? (i := 219) (by decide +kernel)))
  obtain ⟨c1, i1, k1⟩ := u_known (C := RX1) (T := TX1) (N := 5) (n := 5) hg giX1 (hts (.instantiable RX1 5) (List.mem_of_getElem? (i := 127) (by decide +kernel)))
  obtain ⟨c2, i2, k2⟩ := u_known (C := RX2) (T := TX2) (N := 4) (n := 4) hg giX2 (hts (.instantiable RX2 4) (List.mem_of_getElem? (i := 357) (by decide +kernel)))
  obtain ⟨c3, i3, k3⟩ := u_known (C := RX3) (T := TX3) (N := 4) (n := 4) hg giX3 (hts (.instantiable RX3 4) (List.mem_of_getElem? (i := 134) (by decide +kernel)))
  obtain ⟨c4, i4, k4⟩ := u_known (C := RX4) (T := TX4) (N := 11) (n := 11) hg giX4 (hts (.instantiable RX4 11) (List.mem_of_getElem? (i := 265) (by decide +kernel)))
  obtain ⟨c5, i5, k5⟩ := u_known (C := RX5) (T := TX5) (N := 2) (n := 2) hg giX5 (hts (.instantiable RX5 2) (List.mem_of_getElem? (i := 249) (by decide +kernel)))
  obtain ⟨c6, i6, k6⟩ := u_known (C := RX6) (T := TX6) (N := 2) (n := 2) hg giX6 (hts (.instantiable RX6 2) (List.mem_of_getElem? (i := 187) (by decide +kernel)))
  obtain ⟨c7, i7, k7⟩ := u_known (C := RX7) (T := TX7) (N := 5) (n := 5) hg giX7 (hts (.instantiable RX7 5) (List.mem_of_getElem? (i := 333) (by decide +kernel)))
  obtain ⟨c8, i8, k8⟩ := u_known (C := RX8) (T := TX8) (N := 4) (n := 4) hg giX8 (hts (.instantiable RX8 4) (List.mem_of_getElem? (i := 310) (by decide +kernel)))
  obtain ⟨c9, i9, k9⟩ := u_known (C := RX9) (T := TX9) (N := 2) (n := 2) hg giX9 (hts (.instantiable RX9 2) (List.mem_of_getElem? (i := 204) (by decide +kernel)))
  obtain ⟨c10, i10, k10⟩ := u_known (C := RX10) (T := TX10) (N := 13) (n := 13) hg giX10 (hts (.instantiable RX10 13) (List.mem_of_getElem? (i := 119) (by decide +kernel)))
  obtain ⟨c11, i11, k11⟩ := u_known (C := RX11) (T := TX11) (N := 32) (n := 32) hg giX11 (hts (.instantiable RX11 32) (List.mem_of_getElem? (i := 1098) (by decide +kernel)))
  refine ⟨(fun k => [c0, c1, c2, c3, c4, c5, c6, c7, c8, c9, c10, c11].getD k c0, fun k => [i0, i1, i2, i3, i4, i5, i6, i7, i8, i9, i10, i11].getD k i0), fun k q hq => ?_⟩
  match k, hq with
  | 0, hq => cases hq; exact k0
  | 1, hq => cases hq; exact k1
  | 2, hq => cases hq; exact k2
  | 3, hq => cases hq; exact k3
  | 4, hq => cases hq; exact k4
  | 5, hq => cases hq; exact k5
  | 6, hq => cases hq; exact k6
  | 7, hq => cases hq; exact k7
  | 8, hq => cases hq; exact k8
  | 9, hq => cases hq; exact k9
  | 10, hq => cases hq; exact k10
  | 11, hq => cases hq; exact k11
  | k + 12, hq => simp [vwCl] at hq
