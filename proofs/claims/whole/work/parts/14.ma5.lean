def wX11_allLimits_4 (K4 : (Int × Int) → Mem → Prop) (Q : Int → Mem → Prop) (l1 : Int) (l2 : Int) (σ : Mem) : Prop := ((64 ≤ l2 → Q l1 σ) ∧ (¬ 64 ≤ l2 → ((0 ≤ w32 (1 + l2) ∧ w32 (1 + l2) < 405) ∧ (∀ x1 : Int, x1 = w32 (l1 + (σ 301 (w32 (1 + l2)).toNat)) → (∀ x2 : Int, x2 = w32 (l2 + 1) → K4 (x1, x2) σ)))))
def wLX11_allLimits_4 (Q : Int → Mem → Prop) (l1 : Int) (l2 : Int) (σ : Mem) : Prop := ∃ n, lp (fun (K4 : (Int × Int) → Mem → Prop) (x : Int × Int) (σ : Mem) => wX11_allLimits_4 K4 Q x.1 x.2 σ) n (l1, l2) σ
def wX11_allLimits (σ : Mem) (Q : Int → Mem → Prop) : Prop := wLX11_allLimits_4 Q 0 0 σ
set_option maxHeartbeats 1000000 in
theorem bX11_allLimits_4 {E : TE} {K4 : (Int × Int) → Mem → Prop} (hK4 : ∀ (x : Int × Int) (σ : Mem), K4 x σ → GW E cX11_allLimits 3 RX11 0 0 σ 4 [(0, vR 300), (1, vI x.1), (2, vI x.2)] []) {Q : Int → Mem → Prop} (hR : RI E (some .int) Q) {l1 : Int} {l2 : Int} {σ : Mem} (h : wX11_allLimits_4 K4 Q l1 l2 σ) : GW E cX11_allLimits 3 RX11 0 0 σ 4 [(0, vR 300), (1, vI l1), (2, vI l2)] [] := by
  unfold wX11_allLimits_4 at h
  refine g_iload_n dX11_allLimits_4 rfl ?_
  refine g_bipush dX11_allLimits_5 64 rfl (by decide) ?_
  obtain ⟨hA, hB⟩ := h
  refine g_icmp_ge (tgt := 27) dX11_allLimits_7 (by decide) (fun hc => ?_) (fun hc => ?_)
  · replace h := hA hc
    refine g_iload_n dX11_allLimits_27 rfl ?_
    exact g_iret hR dX11_allLimits_28 h
  · replace h := hB hc
    refine g_iload_n dX11_allLimits_10 rfl ?_
    refine g_aload_n dX11_allLimits_11 rfl ?_
    refine g_getR (r := 301) fl_11_9 kd_300 rfl dX11_allLimits_12 ?_
    refine g_iconst dX11_allLimits_15 1 rfl (by decide) ?_
    refine g_iload_n dX11_allLimits_16 rfl ?_
    refine g_iadd dX11_allLimits_17 ?_
    obtain ⟨hin, h⟩ := h
    refine g_iald kd_301 hin dX11_allLimits_18 ?_
    refine g_iadd dX11_allLimits_19 ?_
    refine g_topI (fun x1 ex1 => ?_)
    replace h := h x1 ex1
    refine g_istore_n (lv' := [(1, vI x1), (0, vR 300), (2, vI l2)]) dX11_allLimits_20 (by decide) rfl ?_
    refine g_iinc (lv' := [(2, vI (w32 (l2 + 1))), (1, vI x1), (0, vR 300)]) dX11_allLimits_21 rfl (by decide) rfl ?_
    refine g_loc (a := w32 (l2 + 1)) (i := 2) (lv := [(1, vI x1), (0, vR 300)]) (fun x2 ex2 => ?_)
    replace h := h x2 ex2
    refine g_goto (tgt := 4) dX11_allLimits_24 (by decide) ?_
    refine g_lv (lv' := [(0, vR 300), (1, vI x1), (2, vI x2)]) [2, 1, 0] rfl ?_
    exact hK4 ((x1, x2)) σ h
theorem eX11_allLimits_4 {E : TE} {Q : Int → Mem → Prop} (hR : RI E (some .int) Q) {l1 : Int} {l2 : Int} {σ : Mem} (h : wLX11_allLimits_4 Q l1 l2 σ) : GW E cX11_allLimits 3 RX11 0 0 σ 4 [(0, vR 300), (1, vI l1), (2, vI l2)] [] := by
  obtain ⟨n, h⟩ := h
  exact lp_GW (P := fun (x : Int × Int) (σ : Mem) => GW E cX11_allLimits 3 RX11 0 0 σ 4 [(0, vR 300), (1, vI x.1), (2, vI x.2)] []) (fun K hK x σ h  => bX11_allLimits_4 hK hR h) n _ σ h 
set_option maxHeartbeats 1000000 in
theorem kX11_allLimits {σ : Mem} {Q : Int → Mem → Prop} (h : wX11_allLimits σ Q) (l : Launch) (D : va_G) (cy : Nat → ClassId) (ad : Nat → Nat) : MI l yX11_allLimits cX11_allLimits 3 (some .int) 0 0 D cy ad [vR 300] σ Q := by
  refine m_I (own := RX11) (lv := [(0, vR 300)]) (by decide +kernel) rfl (Nat.le_of_ble_eq_true rfl) rfl (fun E hR => ?_) l D cy ad
  unfold wX11_allLimits at h
  refine g_iconst dX11_allLimits_0 0 rfl (by decide) ?_
  refine g_istore_n (lv' := [(1, vI 0), (0, vR 300)]) dX11_allLimits_1 (by decide) rfl ?_
  refine g_iconst dX11_allLimits_2 0 rfl (by decide) ?_
  refine g_istore_n (lv' := [(2, vI 0), (1, vI 0), (0, vR 300)]) dX11_allLimits_3 (by decide) rfl ?_
  refine g_lv (lv' := [(0, vR 300), (1, vI 0), (2, vI 0)]) [2, 1, 0] rfl ?_
  exact eX11_allLimits_4 hR h
def wX11_allStocks_4 (K4 : (Int × Int) → Mem → Prop) (Q : Int → Mem → Prop) (l1 : Int) (l2 : Int) (σ : Mem) : Prop := ((8 ≤ l2 → Q l1 σ) ∧ (¬ 8 ≤ l2 → ((0 ≤ w32 (129 + l2) ∧ w32 (129 + l2) < 405) ∧ (∀ x1 : Int, x1 = w32 (l1 + (σ 301 (w32 (129 + l2)).toNat)) → (∀ x2 : Int, x2 = w32 (l2 + 1) → K4 (x1, x2) σ)))))
def wLX11_allStocks_4 (Q : Int → Mem → Prop) (l1 : Int) (l2 : Int) (σ : Mem) : Prop := ∃ n, lp (fun (K4 : (Int × Int) → Mem → Prop) (x : Int × Int) (σ : Mem) => wX11_allStocks_4 K4 Q x.1 x.2 σ) n (l1, l2) σ
def wX11_allStocks (σ : Mem) (Q : Int → Mem → Prop) : Prop := wLX11_allStocks_4 Q 0 0 σ
set_option maxHeartbeats 1000000 in
theorem bX11_allStocks_4 {E : TE} {K4 : (Int × Int) → Mem → Prop} (hK4 : ∀ (x : Int × Int) (σ : Mem), K4 x σ → GW E cX11_allStocks 3 RX11 0 0 σ 4 [(0, vR 300), (1, vI x.1), (2, vI x.2)] []) {Q : Int → Mem → Prop} (hR : RI E (some .int) Q) {l1 : Int} {l2 : Int} {σ : Mem} (h : wX11_allStocks_4 K4 Q l1 l2 σ) : GW E cX11_allStocks 3 RX11 0 0 σ 4 [(0, vR 300), (1, vI l1), (2, vI l2)] [] := by
  unfold wX11_allStocks_4 at h
  refine g_iload_n dX11_allStocks_4 rfl ?_
  refine g_bipush dX11_allStocks_5 8 rfl (by decide) ?_
  obtain ⟨hA, hB⟩ := h
  refine g_icmp_ge (tgt := 29) dX11_allStocks_7 (by decide) (fun hc => ?_) (fun hc => ?_)
  · replace h := hA hc
    refine g_iload_n dX11_allStocks_29 rfl ?_
    exact g_iret hR dX11_allStocks_30 h
  · replace h := hB hc
    refine g_iload_n dX11_allStocks_10 rfl ?_
    refine g_aload_n dX11_allStocks_11 rfl ?_
    refine g_getR (r := 301) fl_11_9 kd_300 rfl dX11_allStocks_12 ?_
    refine g_sipush dX11_allStocks_15 129 rfl (by decide) ?_
    refine g_iload_n dX11_allStocks_18 rfl ?_
    refine g_iadd dX11_allStocks_19 ?_
    obtain ⟨hin, h⟩ := h
    refine g_iald kd_301 hin dX11_allStocks_20 ?_
    refine g_iadd dX11_allStocks_21 ?_
    refine g_topI (fun x1 ex1 => ?_)
    replace h := h x1 ex1
    refine g_istore_n (lv' := [(1, vI x1), (0, vR 300), (2, vI l2)]) dX11_allStocks_22 (by decide) rfl ?_
    refine g_iinc (lv' := [(2, vI (w32 (l2 + 1))), (1, vI x1), (0, vR 300)]) dX11_allStocks_23 rfl (by decide) rfl ?_
    refine g_loc (a := w32 (l2 + 1)) (i := 2) (lv := [(1, vI x1), (0, vR 300)]) (fun x2 ex2 => ?_)
    replace h := h x2 ex2
    refine g_goto (tgt := 4) dX11_allStocks_26 (by decide) ?_
    refine g_lv (lv' := [(0, vR 300), (1, vI x1), (2, vI x2)]) [2, 1, 0] rfl ?_
    exact hK4 ((x1, x2)) σ h
theorem eX11_allStocks_4 {E : TE} {Q : Int → Mem → Prop} (hR : RI E (some .int) Q) {l1 : Int} {l2 : Int} {σ : Mem} (h : wLX11_allStocks_4 Q l1 l2 σ) : GW E cX11_allStocks 3 RX11 0 0 σ 4 [(0, vR 300), (1, vI l1), (2, vI l2)] [] := by
  obtain ⟨n, h⟩ := h
  exact lp_GW (P := fun (x : Int × Int) (σ : Mem) => GW E cX11_allStocks 3 RX11 0 0 σ 4 [(0, vR 300), (1, vI x.1), (2, vI x.2)] []) (fun K hK x σ h  => bX11_allStocks_4 hK hR h) n _ σ h 
set_option maxHeartbeats 1000000 in
theorem kX11_allStocks {σ : Mem} {Q : Int → Mem → Prop} (h : wX11_allStocks σ Q) (l : Launch) (D : va_G) (cy : Nat → ClassId) (ad : Nat → Nat) : MI l yX11_allStocks cX11_allStocks 3 (some .int) 0 0 D cy ad [vR 300] σ Q := by
  refine m_I (own := RX11) (lv := [(0, vR 300)]) (by decide +kernel) rfl (Nat.le_of_ble_eq_true rfl) rfl (fun E hR => ?_) l D cy ad
  unfold wX11_allStocks at h
  refine g_iconst dX11_allStocks_0 0 rfl (by decide) ?_
  refine g_istore_n (lv' := [(1, vI 0), (0, vR 300)]) dX11_allStocks_1 (by decide) rfl ?_
  refine g_iconst dX11_allStocks_2 0 rfl (by decide) ?_
  refine g_istore_n (lv' := [(2, vI 0), (1, vI 0), (0, vR 300)]) dX11_allStocks_3 (by decide) rfl ?_
  refine g_lv (lv' := [(0, vR 300), (1, vI 0), (2, vI 0)]) [2, 1, 0] rfl ?_
  exact eX11_allStocks_4 hR h
def wX11_count (l1 : Int) (σ : Mem) (Q : Int → Mem → Prop) : Prop := (∀ m1 : Mem, m1 = up2 σ 300 5 0 → ((l1 = 0 → ((0 ≤ 0 ∧ 0 < 405) ∧ Q (m1 301 0) m1)) ∧ (l1 = 1 → (wX11_lineMany  m1 (fun y3 m2 => Q y3 m2))) ∧ (l1 = 2 → (wX11_allLimits  m1 (fun y5 m4 => Q y5 m4))) ∧ (l1 = 3 → (wX11_allDebts  m1 (fun y7 m6 => Q y7 m6))) ∧ (l1 = 4 → Q (m1 300 28) m1) ∧ (l1 = 5 → Q (m1 300 4) m1) ∧ (l1 = 6 → Q (m1 300 2) m1) ∧ (l1 = 7 → (wX11_heldBits  m1 (fun y9 m8 => Q y9 m8))) ∧ (l1 = 8 → (wX11_allStocks  m1 (fun y11 m10 => Q y11 m10))) ∧ (l1 ≠ 0 ∧ l1 ≠ 1 ∧ l1 ≠ 2 ∧ l1 ≠ 3 ∧ l1 ≠ 4 ∧ l1 ≠ 5 ∧ l1 ≠ 6 ∧ l1 ≠ 7 ∧ l1 ≠ 8 → Q ((-1)) m1)))
set_option maxHeartbeats 1000000 in
theorem kX11_count {l1 : Int} {σ : Mem} {Q : Int → Mem → Prop} (h : wX11_count l1 σ Q) (l : Launch) (D : va_G) (cy : Nat → ClassId) (ad : Nat → Nat) : MI l yX11_count cX11_count 2 (some .int) 4 91 D cy ad [vR 300, vI l1] σ Q := by
  refine m_I (own := RX11) (lv := [(0, vR 300), (1, vI l1)]) (by decide +kernel) rfl (Nat.le_of_ble_eq_true rfl) rfl (fun E hR => ?_) l D cy ad
  unfold wX11_count at h
  refine g_aload_n dX11_count_0 rfl ?_
  refine g_iconst dX11_count_1 0 rfl (by decide) ?_
  refine g_putI fp_11_68 kd_300 rfl dX11_count_2 ?_
  refine g_nm (fun m1 em1 => ?_)
  replace h := h m1 em1
  refine g_iload_n dX11_count_5 rfl ?_
  obtain ⟨hs0, hs1, hs2, hs3, hs4, hs5, hs6, hs7, hs8, hsd⟩ := h
  by_cases ej0 : l1 = 0
  · refine g_tswIn (tgt := 56) (off := 50) dX11_count_6 0 ej0 (by decide) (by decide) rfl (by decide) ?_
    replace h := hs0 ej0
    refine g_aload_n dX11_count_56 rfl ?_
    refine g_getR (r := 301) fl_11_9 kd_300 rfl dX11_count_57 ?_
    refine g_iconst dX11_count_60 0 rfl (by decide) ?_
    obtain ⟨hin, h⟩ := h
    refine g_iald kd_301 hin dX11_count_61 ?_
    exact g_iret hR dX11_count_62 h
  by_cases ej1 : l1 = 1
  · refine g_tswIn (tgt := 63) (off := 57) dX11_count_6 1 ej1 (by decide) (by decide) rfl (by decide) ?_
    replace h := hs1 ej1
    refine g_aload_n dX11_count_63 rfl ?_
    refine g_cVi (st := []) (av := []) (kX11_lineMany h) kd_300 rfl cw_RX11_349 (by decide) (by decide) (Nat.le_of_ble_eq_true rfl) rfl dX11_count_64 (fun y3 m2 h => ?_)
    exact g_iret hR dX11_count_67 h
  by_cases ej2 : l1 = 2
  · refine g_tswIn (tgt := 68) (off := 62) dX11_count_6 2 ej2 (by decide) (by decide) rfl (by decide) ?_
    replace h := hs2 ej2
    refine g_aload_n dX11_count_68 rfl ?_
    refine g_cVi (st := []) (av := []) (kX11_allLimits h) kd_300 rfl cw_RX11_352 (by decide) (by decide) (Nat.le_of_ble_eq_true rfl) rfl dX11_count_69 (fun y5 m4 h => ?_)
    exact g_iret hR dX11_count_72 h
  by_cases ej3 : l1 = 3
  · refine g_tswIn (tgt := 73) (off := 67) dX11_count_6 3 ej3 (by decide) (by decide) rfl (by decide) ?_
    replace h := hs3 ej3
    refine g_aload_n dX11_count_73 rfl ?_
    refine g_cVi (st := []) (av := []) (kX11_allDebts h) kd_300 rfl cw_RX11_172 (by decide) (by decide) (Nat.le_of_ble_eq_true rfl) rfl dX11_count_74 (fun y7 m6 h => ?_)
    exact g_iret hR dX11_count_77 h
  by_cases ej4 : l1 = 4
  · refine g_tswIn (tgt := 78) (off := 72) dX11_count_6 4 ej4 (by decide) (by decide) rfl (by decide) ?_
    replace h := hs4 ej4
    refine g_aload_n dX11_count_78 rfl ?_
    refine g_getI fl_11_320 kd_300 rfl dX11_count_79 ?_
    exact g_iret hR dX11_count_82 h
  by_cases ej5 : l1 = 5
  · refine g_tswIn (tgt := 83) (off := 77) dX11_count_6 5 ej5 (by decide) (by decide) rfl (by decide) ?_
    replace h := hs5 ej5
    refine g_aload_n dX11_count_83 rfl ?_
    refine g_getI fl_11_71 kd_300 rfl dX11_count_84 ?_
    exact g_iret hR dX11_count_87 h
  by_cases ej6 : l1 = 6
  · refine g_tswIn (tgt := 88) (off := 82) dX11_count_6 6 ej6 (by decide) (by decide) rfl (by decide) ?_
    replace h := hs6 ej6
    refine g_aload_n dX11_count_88 rfl ?_
    refine g_getI fl_11_101 kd_300 rfl dX11_count_89 ?_
    exact g_iret hR dX11_count_92 h
  by_cases ej7 : l1 = 7
  · refine g_tswIn (tgt := 93) (off := 87) dX11_count_6 7 ej7 (by decide) (by decide) rfl (by decide) ?_
    replace h := hs7 ej7
    refine g_aload_n dX11_count_93 rfl ?_
    refine g_cVi (st := []) (av := []) (kX11_heldBits h) kd_300 rfl cw_RX11_144 (by decide) (by decide) (Nat.le_of_ble_eq_true rfl) rfl dX11_count_94 (fun y9 m8 h => ?_)
    exact g_iret hR dX11_count_97 h
  by_cases ej8 : l1 = 8
  · refine g_tswIn (tgt := 98) (off := 92) dX11_count_6 8 ej8 (by decide) (by decide) rfl (by decide) ?_
    replace h := hs8 ej8
    refine g_aload_n dX11_count_98 rfl ?_
    refine g_cVi (st := []) (av := []) (kX11_allStocks h) kd_300 rfl cw_RX11_355 (by decide) (by decide) (Nat.le_of_ble_eq_true rfl) rfl dX11_count_99 (fun y11 m10 h => ?_)
    exact g_iret hR dX11_count_102 h
  refine g_tswOut (tgt := 103) dX11_count_6 (by omega) (by decide) ?_
  replace h := hsd (by omega)
  refine g_iconst dX11_count_103 (-1) rfl (by decide) ?_
  exact g_iret hR dX11_count_104 h
def wX11_row (l1 : Int) (σ : Mem) (Q : Int → Mem → Prop) : Prop := (∀ m1 : Mem, m1 = up2 σ 300 5 0 → (wX11_in l1 0 (w32 ((m1 300 4) - 1)) m1 (fun y3 m2 => ((y3 = 0 → (wX11_lost  m2 (fun y5 m4 => Q y5 m4))) ∧ (¬ y3 = 0 → ((0 ≤ l1 ∧ l1 < 2400) ∧ Q (m2 304 l1.toNat) m2))))))
set_option maxHeartbeats 1000000 in
theorem kX11_row {l1 : Int} {σ : Mem} {Q : Int → Mem → Prop} (h : wX11_row l1 σ Q) (l : Launch) (D : va_G) (cy : Nat → ClassId) (ad : Nat → Nat) : ML l yX11_row cX11_row 2 (some .long) 1 22 D cy ad [vR 300, vI l1] σ Q := by
  refine m_L (own := RX11) (lv := [(0, vR 300), (1, vI l1)]) (by decide +kernel) rfl (Nat.le_of_ble_eq_true rfl) rfl (fun E hR => ?_) l D cy ad
  unfold wX11_row at h
  refine g_aload_n dX11_row_0 rfl ?_
  refine g_iconst dX11_row_1 0 rfl (by decide) ?_
  refine g_putI fp_11_68 kd_300 rfl dX11_row_2 ?_
  refine g_nm (fun m1 em1 => ?_)
  replace h := h m1 em1
  refine g_iload_n dX11_row_5 rfl ?_
  refine g_iconst dX11_row_6 0 rfl (by decide) ?_
  refine g_aload_n dX11_row_7 rfl ?_
  refine g_getI fl_11_71 kd_300 rfl dX11_row_8 ?_
  refine g_iconst dX11_row_11 1 rfl (by decide) ?_
  refine g_isub dX11_row_12 ?_
  refine g_cSi (st := []) (av := [vI l1, vI 0, vI (w32 ((m1 300 4) - 1))]) (kX11_in h) cw_RX11_74 (by decide) (by decide) (Nat.le_of_ble_eq_true rfl) rfl dX11_row_13 (fun y3 m2 h => ?_)
  obtain ⟨hA, hB⟩ := h
  refine g_if_eq (tgt := 28) dX11_row_16 (by decide) (fun hc => ?_) (fun hc => ?_)
  · replace h := hA hc
    refine g_aload_n dX11_row_28 rfl ?_
    refine g_cVi (st := []) (av := []) (kX11_lost h) kd_300 rfl cw_RX11_166 (by decide) (by decide) (Nat.le_of_ble_eq_true rfl) rfl dX11_row_29 (fun y5 m4 h => ?_)
    refine g_i2l dX11_row_32 ?_
    exact g_lret hR dX11_row_33 h
  · replace h := hB hc
    refine g_aload_n dX11_row_19 rfl ?_
    refine g_getR (r := 304) fl_11_17 kd_300 rfl dX11_row_20 ?_
    refine g_iload_n dX11_row_23 rfl ?_
    obtain ⟨hin, h⟩ := h
    refine g_lald kd_304 hin dX11_row_24 ?_
    refine g_goto (tgt := 33) dX11_row_25 (by decide) ?_
    exact g_lret hR dX11_row_33 h
