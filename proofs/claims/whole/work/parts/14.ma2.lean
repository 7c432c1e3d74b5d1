def wX11_findWay_56 (K26 : (Int × Int × Int) → Mem → Prop) (K56 : (Int × Int × Int × Int) → Mem → Prop) (Q : Int → Mem → Prop) (l2 : Int) (l3 : Int) (l4 : Int) (l5 : Int) (σ : Mem) : Prop := ((0 ≤ l5 ∧ l5 < 8) ∧ ((0 ≤ l4 ∧ l4 < 8) ∧ ((¬ σ 312 l5.toNat = w32 ((σ 312 l4.toNat) - 1) → (∀ x1 : Int, x1 = w32 (l5 + 1) → K56 (l2, l3, l4, x1) σ)) ∧ (σ 312 l5.toNat = w32 ((σ 312 l4.toNat) - 1) → (wX11_canGo l4 l5 l3 σ (fun y3 m2 => ((¬ y3 = 0 → K26 (l2, l3, l5) m2) ∧ (y3 = 0 → (∀ x4 : Int, x4 = w32 (l5 + 1) → K56 (l2, l3, l4, x4) m2)))))))))
def wLX11_findWay_56 (K26 : (Int × Int × Int) → Mem → Prop) (Q : Int → Mem → Prop) (l2 : Int) (l3 : Int) (l4 : Int) (l5 : Int) (σ : Mem) : Prop := ∃ n, lp (fun (K56 : (Int × Int × Int × Int) → Mem → Prop) (x : Int × Int × Int × Int) (σ : Mem) => wX11_findWay_56 K26 K56 Q x.1 x.2.1 x.2.2.1 x.2.2.2 σ) n (l2, l3, l4, l5) σ
def wX11_findWay_26 (K26 : (Int × Int × Int) → Mem → Prop) (Q : Int → Mem → Prop) (l2 : Int) (l3 : Int) (l4 : Int) (σ : Mem) : Prop := ((l4 = l2 → ((0 ≤ σ 300 13 ∧ σ 300 13 < 8) ∧ (∀ m1 : Mem, m1 = up2 σ 313 (σ 300 13).toNat l2 → (∀ m2 : Mem, m2 = up2 m1 300 13 (w32 ((m1 300 13) + 1)) → Q 1 m2)))) ∧ (¬ l4 = l2 → ((0 ≤ σ 300 13 ∧ σ 300 13 < 8) ∧ (∀ m3 : Mem, m3 = up2 σ 313 (σ 300 13).toNat l4 → (∀ m4 : Mem, m4 = up2 m3 300 13 (w32 ((m3 300 13) + 1)) → wLX11_findWay_56 K26 Q l2 l3 l4 0 m4)))))
def wLX11_findWay_26 (Q : Int → Mem → Prop) (l2 : Int) (l3 : Int) (l4 : Int) (σ : Mem) : Prop := ∃ n, lp (fun (K26 : (Int × Int × Int) → Mem → Prop) (x : Int × Int × Int) (σ : Mem) => wX11_findWay_26 K26 Q x.1 x.2.1 x.2.2 σ) n (l2, l3, l4) σ
def wX11_findWay (l1 : Int) (l2 : Int) (l3 : Int) (σ : Mem) (Q : Int → Mem → Prop) : Prop := (wX11_layFar l2 l3 σ (fun m1 => ((0 ≤ l1 ∧ l1 < 8) ∧ ((¬ m1 312 l1.toNat = (-1) → (∀ m2 : Mem, m2 = up2 m1 300 13 0 → wLX11_findWay_26 Q l2 l3 l1 m2)) ∧ (m1 312 l1.toNat = (-1) → Q 0 m1)))))
set_option maxHeartbeats 1000000 in
theorem bX11_findWay_56 {E : TE} {K26 : (Int × Int × Int) → Mem → Prop} {K56 : (Int × Int × Int × Int) → Mem → Prop} (hK26 : ∀ (x : Int × Int × Int) (σ : Mem), K26 x σ → GW E cX11_findWay 6 RX11 5 118 σ 26 [(0, vR 300), (2, vI x.1), (3, vI x.2.1), (4, vI x.2.2)] []) (hK56 : ∀ (x : Int × Int × Int × Int) (σ : Mem), K56 x σ → GW E cX11_findWay 6 RX11 5 118 σ 56 [(0, vR 300), (2, vI x.1), (3, vI x.2.1), (4, vI x.2.2.1), (5, vI x.2.2.2)] []) {Q : Int → Mem → Prop} (hR : RI E (some .boolean) Q) {l2 : Int} {l3 : Int} {l4 : Int} {l5 : Int} {σ : Mem} (h : wX11_findWay_56 K26 K56 Q l2 l3 l4 l5 σ) : GW E cX11_findWay 6 RX11 5 118 σ 56 [(0, vR 300), (2, vI l2), (3, vI l3), (4, vI l4), (5, vI l5)] [] := by
  unfold wX11_findWay_56 at h
  refine g_aload_n dX11_findWay_56 rfl ?_
  refine g_getR (r := 312) fl_11_27 kd_300 rfl dX11_findWay_57 ?_
  refine g_iload dX11_findWay_60 rfl ?_
  obtain ⟨hin, h⟩ := h
  refine g_iald kd_312 hin dX11_findWay_62 ?_
  refine g_aload_n dX11_findWay_63 rfl ?_
  refine g_getR (r := 312) fl_11_27 kd_300 rfl dX11_findWay_64 ?_
  refine g_iload dX11_findWay_67 rfl ?_
  obtain ⟨hin, h⟩ := h
  refine g_iald kd_312 hin dX11_findWay_69 ?_
  refine g_iconst dX11_findWay_70 1 rfl (by decide) ?_
  refine g_isub dX11_findWay_71 ?_
  obtain ⟨hA, hB⟩ := h
  refine g_icmp_ne (tgt := 87) dX11_findWay_72 (by decide) (fun hc => ?_) (fun hc => ?_)
  · replace h := hA hc
    refine g_iinc (lv' := [(5, vI (w32 (l5 + 1))), (0, vR 300), (2, vI l2), (3, vI l3), (4, vI l4)]) dX11_findWay_87 rfl (by decide) rfl ?_
    refine g_loc (a := w32 (l5 + 1)) (i := 5) (lv := [(0, vR 300), (2, vI l2), (3, vI l3), (4, vI l4)]) (fun x1 ex1 => ?_)
    replace h := h x1 ex1
    refine g_goto (tgt := 56) dX11_findWay_90 (by decide) ?_
    refine g_lv (lv' := [(0, vR 300), (2, vI l2), (3, vI l3), (4, vI l4), (5, vI x1)]) [1, 2, 3, 4, 0] rfl ?_
    exact hK56 ((l2, l3, l4, x1)) σ h
  · replace h := hB hc
    refine g_aload_n dX11_findWay_75 rfl ?_
    refine g_iload dX11_findWay_76 rfl ?_
    refine g_iload dX11_findWay_78 rfl ?_
    refine g_iload_n dX11_findWay_80 rfl ?_
    refine g_cVi (st := []) (av := [vI l4, vI l5, vI l3]) (kX11_canGo h) kd_300 rfl cw_RX11_175 (by decide) (by decide) (Nat.le_of_ble_eq_true rfl) rfl dX11_findWay_81 (fun y3 m2 h => ?_)
    obtain ⟨hA, hB⟩ := h
    refine g_if_ne (tgt := 93) dX11_findWay_84 (by decide) (fun hc => ?_) (fun hc => ?_)
    · replace h := hA hc
      refine g_iload dX11_findWay_93 rfl ?_
      refine g_istore (lv' := [(4, vI l5), (0, vR 300), (2, vI l2), (3, vI l3), (5, vI l5)]) dX11_findWay_95 (by decide) rfl ?_
      refine g_goto (tgt := 26) dX11_findWay_97 (by decide) ?_
      refine g_lv (lv' := [(0, vR 300), (2, vI l2), (3, vI l3), (4, vI l5)]) [1, 2, 3, 0] rfl ?_
      exact hK26 ((l2, l3, l5)) m2 h
    · replace h := hB hc
      refine g_iinc (lv' := [(5, vI (w32 (l5 + 1))), (0, vR 300), (2, vI l2), (3, vI l3), (4, vI l4)]) dX11_findWay_87 rfl (by decide) rfl ?_
      refine g_loc (a := w32 (l5 + 1)) (i := 5) (lv := [(0, vR 300), (2, vI l2), (3, vI l3), (4, vI l4)]) (fun x4 ex4 => ?_)
      replace h := h x4 ex4
      refine g_goto (tgt := 56) dX11_findWay_90 (by decide) ?_
      refine g_lv (lv' := [(0, vR 300), (2, vI l2), (3, vI l3), (4, vI l4), (5, vI x4)]) [1, 2, 3, 4, 0] rfl ?_
      exact hK56 ((l2, l3, l4, x4)) m2 h
theorem eX11_findWay_56 {E : TE} {K26 : (Int × Int × Int) → Mem → Prop} (hK26 : ∀ (x : Int × Int × Int) (σ : Mem), K26 x σ → GW E cX11_findWay 6 RX11 5 118 σ 26 [(0, vR 300), (2, vI x.1), (3, vI x.2.1), (4, vI x.2.2)] []) {Q : Int → Mem → Prop} (hR : RI E (some .boolean) Q) {l2 : Int} {l3 : Int} {l4 : Int} {l5 : Int} {σ : Mem} (h : wLX11_findWay_56 K26 Q l2 l3 l4 l5 σ) : GW E cX11_findWay 6 RX11 5 118 σ 56 [(0, vR 300), (2, vI l2), (3, vI l3), (4, vI l4), (5, vI l5)] [] := by
  obtain ⟨n, h⟩ := h
  exact lp_GW (P := fun (x : Int × Int × Int × Int) (σ : Mem) => GW E cX11_findWay 6 RX11 5 118 σ 56 [(0, vR 300), (2, vI x.1), (3, vI x.2.1), (4, vI x.2.2.1), (5, vI x.2.2.2)] []) (fun K hK x σ h  => bX11_findWay_56 hK26 hK hR h) n _ σ h 
set_option maxHeartbeats 1000000 in
theorem bX11_findWay_26 {E : TE} {K26 : (Int × Int × Int) → Mem → Prop} (hK26 : ∀ (x : Int × Int × Int) (σ : Mem), K26 x σ → GW E cX11_findWay 6 RX11 5 118 σ 26 [(0, vR 300), (2, vI x.1), (3, vI x.2.1), (4, vI x.2.2)] []) {Q : Int → Mem → Prop} (hR : RI E (some .boolean) Q) {l2 : Int} {l3 : Int} {l4 : Int} {σ : Mem} (h : wX11_findWay_26 K26 Q l2 l3 l4 σ) : GW E cX11_findWay 6 RX11 5 118 σ 26 [(0, vR 300), (2, vI l2), (3, vI l3), (4, vI l4)] [] := by
  unfold wX11_findWay_26 at h
  refine g_iload dX11_findWay_26 rfl ?_
  refine g_iload_n dX11_findWay_28 rfl ?_
  obtain ⟨hA, hB⟩ := h
  refine g_icmp_eq (tgt := 100) dX11_findWay_29 (by decide) (fun hc => ?_) (fun hc => ?_)
  · replace h := hA hc
    refine g_aload_n dX11_findWay_100 rfl ?_
    refine g_getR (r := 313) fl_11_30 kd_300 rfl dX11_findWay_101 ?_
    refine g_aload_n dX11_findWay_104 rfl ?_
    refine g_getI fl_11_182 kd_300 rfl dX11_findWay_105 ?_
    refine g_iload_n dX11_findWay_108 rfl ?_
    obtain ⟨hin, h⟩ := h
    refine g_iast kd_313 hin dX11_findWay_109 ?_
    refine g_nm (fun m1 em1 => ?_)
    replace h := h m1 em1
    refine g_aload_n dX11_findWay_110 rfl ?_
    refine g_dup dX11_findWay_111 rfl ?_
    refine g_getI fl_11_182 kd_300 rfl dX11_findWay_112 ?_
    refine g_iconst dX11_findWay_115 1 rfl (by decide) ?_
    refine g_iadd dX11_findWay_116 ?_
    refine g_putI fp_11_182 kd_300 rfl dX11_findWay_117 ?_
    refine g_nm (fun m2 em2 => ?_)
    replace h := h m2 em2
    refine g_iconst dX11_findWay_120 1 rfl (by decide) ?_
    exact g_zret hR dX11_findWay_121 (by decide) h
  · replace h := hB hc
    refine g_aload_n dX11_findWay_32 rfl ?_
    refine g_getR (r := 313) fl_11_30 kd_300 rfl dX11_findWay_33 ?_
    refine g_aload_n dX11_findWay_36 rfl ?_
    refine g_getI fl_11_182 kd_300 rfl dX11_findWay_37 ?_
    refine g_iload dX11_findWay_40 rfl ?_
    obtain ⟨hin, h⟩ := h
    refine g_iast kd_313 hin dX11_findWay_42 ?_
    refine g_nm (fun m3 em3 => ?_)
    replace h := h m3 em3
    refine g_aload_n dX11_findWay_43 rfl ?_
    refine g_dup dX11_findWay_44 rfl ?_
    refine g_getI fl_11_182 kd_300 rfl dX11_findWay_45 ?_
    refine g_iconst dX11_findWay_48 1 rfl (by decide) ?_
    refine g_iadd dX11_findWay_49 ?_
    refine g_putI fp_11_182 kd_300 rfl dX11_findWay_50 ?_
    refine g_nm (fun m4 em4 => ?_)
    replace h := h m4 em4
    refine g_iconst dX11_findWay_53 0 rfl (by decide) ?_
    refine g_istore (lv' := [(5, vI 0), (0, vR 300), (2, vI l2), (3, vI l3), (4, vI l4)]) dX11_findWay_54 (by decide) rfl ?_
    refine g_lv (lv' := [(0, vR 300), (2, vI l2), (3, vI l3), (4, vI l4), (5, vI 0)]) [1, 2, 3, 4, 0] rfl ?_
    exact eX11_findWay_56 hK26 hR h
theorem eX11_findWay_26 {E : TE} {Q : Int → Mem → Prop} (hR : RI E (some .boolean) Q) {l2 : Int} {l3 : Int} {l4 : Int} {σ : Mem} (h : wLX11_findWay_26 Q l2 l3 l4 σ) : GW E cX11_findWay 6 RX11 5 118 σ 26 [(0, vR 300), (2, vI l2), (3, vI l3), (4, vI l4)] [] := by
  obtain ⟨n, h⟩ := h
  exact lp_GW (P := fun (x : Int × Int × Int) (σ : Mem) => GW E cX11_findWay 6 RX11 5 118 σ 26 [(0, vR 300), (2, vI x.1), (3, vI x.2.1), (4, vI x.2.2)] []) (fun K hK x σ h  => bX11_findWay_26 hK hR h) n _ σ h 
set_option maxHeartbeats 1000000 in
theorem kX11_findWay {l1 : Int} {l2 : Int} {l3 : Int} {σ : Mem} {Q : Int → Mem → Prop} (h : wX11_findWay l1 l2 l3 σ Q) (l : Launch) (D : va_G) (cy : Nat → ClassId) (ad : Nat → Nat) : MI l yX11_findWay cX11_findWay 6 (some .boolean) 5 118 D cy ad [vR 300, vI l1, vI l2, vI l3] σ Q := by
  refine m_I (own := RX11) (lv := [(0, vR 300), (1, vI l1), (2, vI l2), (3, vI l3)]) (by decide +kernel) rfl (Nat.le_of_ble_eq_true rfl) rfl (fun E hR => ?_) l D cy ad
  unfold wX11_findWay at h
  refine g_aload_n dX11_findWay_0 rfl ?_
  refine g_iload_n dX11_findWay_1 rfl ?_
  refine g_iload_n dX11_findWay_2 rfl ?_
  refine g_cVv (st := []) (av := [vI l2, vI l3]) (kX11_layFar h) kd_300 rfl cw_RX11_178 (by decide) (by decide) (Nat.le_of_ble_eq_true rfl) rfl dX11_findWay_3 (fun m1 h => ?_)
  refine g_aload_n dX11_findWay_6 rfl ?_
  refine g_getR (r := 312) fl_11_27 kd_300 rfl dX11_findWay_7 ?_
  refine g_iload_n dX11_findWay_10 rfl ?_
  obtain ⟨hin, h⟩ := h
  refine g_iald kd_312 hin dX11_findWay_11 ?_
  refine g_iconst dX11_findWay_12 (-1) rfl (by decide) ?_
  obtain ⟨hA, hB⟩ := h
  refine g_icmp_ne (tgt := 18) dX11_findWay_13 (by decide) (fun hc => ?_) (fun hc => ?_)
  · replace h := hA hc
    refine g_aload_n dX11_findWay_18 rfl ?_
    refine g_iconst dX11_findWay_19 0 rfl (by decide) ?_
    refine g_putI fp_11_182 kd_300 rfl dX11_findWay_20 ?_
    refine g_nm (fun m2 em2 => ?_)
    replace h := h m2 em2
    refine g_iload_n dX11_findWay_23 rfl ?_
    refine g_istore (lv' := [(4, vI l1), (0, vR 300), (1, vI l1), (2, vI l2), (3, vI l3)]) dX11_findWay_24 (by decide) rfl ?_
    refine g_lv (lv' := [(0, vR 300), (2, vI l2), (3, vI l3), (4, vI l1)]) [1, 3, 4, 0] rfl ?_
    exact eX11_findWay_26 hR h
  · replace h := hB hc
    refine g_iconst dX11_findWay_16 0 rfl (by decide) ?_
    exact g_zret hR dX11_findWay_17 (by decide) h
def wX11_leastRoom_6 (K6 : (Int × Int) → Mem → Prop) (Q : Int → Mem → Prop) (l1 : Int) (l2 : Int) (σ : Mem) : Prop := ((σ 300 13 ≤ l2 → Q l1 σ) ∧ (¬ σ 300 13 ≤ l2 → ((0 ≤ w32 (l2 - 1) ∧ w32 (l2 - 1) < 8) ∧ ((0 ≤ l2 ∧ l2 < 8) ∧ (wX11_room (σ 313 (w32 (l2 - 1)).toNat) (σ 313 l2.toNat) σ (fun y2 m1 => (∀ x3 : Int, x3 = min l1 y2 → (∀ x4 : Int, x4 = w32 (l2 + 1) → K6 (x3, x4) m1))))))))
def wLX11_leastRoom_6 (Q : Int → Mem → Prop) (l1 : Int) (l2 : Int) (σ : Mem) : Prop := ∃ n, lp (fun (K6 : (Int × Int) → Mem → Prop) (x : Int × Int) (σ : Mem) => wX11_leastRoom_6 K6 Q x.1 x.2 σ) n (l1, l2) σ
def wX11_leastRoom (σ : Mem) (Q : Int → Mem → Prop) : Prop := wLX11_leastRoom_6 Q 9999 1 σ
set_option maxHeartbeats 1000000 in
theorem bX11_leastRoom_6 {E : TE} {K6 : (Int × Int) → Mem → Prop} (hK6 : ∀ (x : Int × Int) (σ : Mem), K6 x σ → GW E cX11_leastRoom 3 RX11 3 70 σ 6 [(0, vR 300), (1, vI x.1), (2, vI x.2)] []) {Q : Int → Mem → Prop} (hR : RI E (some .int) Q) {l1 : Int} {l2 : Int} {σ : Mem} (h : wX11_leastRoom_6 K6 Q l1 l2 σ) : GW E cX11_leastRoom 3 RX11 3 70 σ 6 [(0, vR 300), (1, vI l1), (2, vI l2)] [] := by
  unfold wX11_leastRoom_6 at h
  refine g_iload_n dX11_leastRoom_6 rfl ?_
  refine g_aload_n dX11_leastRoom_7 rfl ?_
  refine g_getI fl_11_182 kd_300 rfl dX11_leastRoom_8 ?_
  obtain ⟨hA, hB⟩ := h
  refine g_icmp_ge (tgt := 43) dX11_leastRoom_11 (by decide) (fun hc => ?_) (fun hc => ?_)
  · replace h := hA hc
    refine g_iload_n dX11_leastRoom_43 rfl ?_
    exact g_iret hR dX11_leastRoom_44 h
  · replace h := hB hc
    refine g_iload_n dX11_leastRoom_14 rfl ?_
    refine g_aload_n dX11_leastRoom_15 rfl ?_
    refine g_aload_n dX11_leastRoom_16 rfl ?_
    refine g_getR (r := 313) fl_11_30 kd_300 rfl dX11_leastRoom_17 ?_
    refine g_iload_n dX11_leastRoom_20 rfl ?_
    refine g_iconst dX11_leastRoom_21 1 rfl (by decide) ?_
    refine g_isub dX11_leastRoom_22 ?_
    obtain ⟨hin, h⟩ := h
    refine g_iald kd_313 hin dX11_leastRoom_23 ?_
    refine g_aload_n dX11_leastRoom_24 rfl ?_
    refine g_getR (r := 313) fl_11_30 kd_300 rfl dX11_leastRoom_25 ?_
    refine g_iload_n dX11_leastRoom_28 rfl ?_
    obtain ⟨hin, h⟩ := h
    refine g_iald kd_313 hin dX11_leastRoom_29 ?_
    refine g_cVi (st := [vI l1]) (av := [vI (σ 313 (w32 (l2 - 1)).toNat), vI (σ 313 l2.toNat)]) (kX11_room h) kd_300 rfl cw_RX11_163 (by decide) (by decide) (Nat.le_of_ble_eq_true rfl) rfl dX11_leastRoom_30 (fun y2 m1 h => ?_)
    refine g_mmin q_1389 q_641 q_107 q_mmin (by decide) (Nat.le_of_ble_eq_true rfl) dX11_leastRoom_33 ?_
    refine g_topI (fun x3 ex3 => ?_)
    replace h := h x3 ex3
    refine g_istore_n (lv' := [(1, vI x3), (0, vR 300), (2, vI l2)]) dX11_leastRoom_36 (by decide) rfl ?_
    refine g_iinc (lv' := [(2, vI (w32 (l2 + 1))), (1, vI x3), (0, vR 300)]) dX11_leastRoom_37 rfl (by decide) rfl ?_
    refine g_loc (a := w32 (l2 + 1)) (i := 2) (lv := [(1, vI x3), (0, vR 300)]) (fun x4 ex4 => ?_)
    replace h := h x4 ex4
    refine g_goto (tgt := 6) dX11_leastRoom_40 (by decide) ?_
    refine g_lv (lv' := [(0, vR 300), (1, vI x3), (2, vI x4)]) [2, 1, 0] rfl ?_
    exact hK6 ((x3, x4)) m1 h
theorem eX11_leastRoom_6 {E : TE} {Q : Int → Mem → Prop} (hR : RI E (some .int) Q) {l1 : Int} {l2 : Int} {σ : Mem} (h : wLX11_leastRoom_6 Q l1 l2 σ) : GW E cX11_leastRoom 3 RX11 3 70 σ 6 [(0, vR 300), (1, vI l1), (2, vI l2)] [] := by
  obtain ⟨n, h⟩ := h
  exact lp_GW (P := fun (x : Int × Int) (σ : Mem) => GW E cX11_leastRoom 3 RX11 3 70 σ 6 [(0, vR 300), (1, vI x.1), (2, vI x.2)] []) (fun K hK x σ h  => bX11_leastRoom_6 hK hR h) n _ σ h 
set_option maxHeartbeats 1000000 in
theorem kX11_leastRoom {σ : Mem} {Q : Int → Mem → Prop} (h : wX11_leastRoom σ Q) (l : Launch) (D : va_G) (cy : Nat → ClassId) (ad : Nat → Nat) : MI l yX11_leastRoom cX11_leastRoom 3 (some .int) 3 70 D cy ad [vR 300] σ Q := by
  refine m_I (own := RX11) (lv := [(0, vR 300)]) (by decide +kernel) rfl (Nat.le_of_ble_eq_true rfl) rfl (fun E hR => ?_) l D cy ad
  unfold wX11_leastRoom at h
  refine g_sipush dX11_leastRoom_0 9999 rfl (by decide) ?_
  refine g_istore_n (lv' := [(1, vI 9999), (0, vR 300)]) dX11_leastRoom_3 (by decide) rfl ?_
  refine g_iconst dX11_leastRoom_4 1 rfl (by decide) ?_
  refine g_istore_n (lv' := [(2, vI 1), (1, vI 9999), (0, vR 300)]) dX11_leastRoom_5 (by decide) rfl ?_
  refine g_lv (lv' := [(0, vR 300), (1, vI 9999), (2, vI 1)]) [2, 1, 0] rfl ?_
  exact eX11_leastRoom_6 hR h
def wX11_goOnWay_2 (K2 : (Int × Int) → Mem → Prop) (Q : Mem → Prop) (l1 : Int) (l2 : Int) (σ : Mem) : Prop := ((σ 300 13 ≤ l2 → Q σ) ∧ (¬ σ 300 13 ≤ l2 → ((0 ≤ w32 (l2 - 1) ∧ w32 (l2 - 1) < 8) ∧ ((0 ≤ l2 ∧ l2 < 8) ∧ (wX11_straight (σ 313 (w32 (l2 - 1)).toNat) (σ 313 l2.toNat) l1 σ (fun m1 => (∀ x2 : Int, x2 = w32 (l2 + 1) → K2 (l1, x2) m1)))))))
def wLX11_goOnWay_2 (Q : Mem → Prop) (l1 : Int) (l2 : Int) (σ : Mem) : Prop := ∃ n, lp (fun (K2 : (Int × Int) → Mem → Prop) (x : Int × Int) (σ : Mem) => wX11_goOnWay_2 K2 Q x.1 x.2 σ) n (l1, l2) σ
def wX11_goOnWay (l1 : Int) (σ : Mem) (Q : Mem → Prop) : Prop := wLX11_goOnWay_2 Q l1 1 σ
set_option maxHeartbeats 1000000 in
theorem bX11_goOnWay_2 {E : TE} {K2 : (Int × Int) → Mem → Prop} (hK2 : ∀ (x : Int × Int) (σ : Mem), K2 x σ → GW E cX11_goOnWay 3 RX11 2 44 σ 2 [(0, vR 300), (1, vI x.1), (2, vI x.2)] []) {Q : Mem → Prop} (hR : RV E none Q) {l1 : Int} {l2 : Int} {σ : Mem} (h : wX11_goOnWay_2 K2 Q l1 l2 σ) : GW E cX11_goOnWay 3 RX11 2 44 σ 2 [(0, vR 300), (1, vI l1), (2, vI l2)] [] := by
  unfold wX11_goOnWay_2 at h
  refine g_iload_n dX11_goOnWay_2 rfl ?_
  refine g_aload_n dX11_goOnWay_3 rfl ?_
  refine g_getI fl_11_182 kd_300 rfl dX11_goOnWay_4 ?_
  obtain ⟨hA, hB⟩ := h
  refine g_icmp_ge (tgt := 35) dX11_goOnWay_7 (by decide) (fun hc => ?_) (fun hc => ?_)
  · replace h := hA hc
    exact g_vret hR dX11_goOnWay_35 h
  · replace h := hB hc
    refine g_aload_n dX11_goOnWay_10 rfl ?_
    refine g_aload_n dX11_goOnWay_11 rfl ?_
    refine g_getR (r := 313) fl_11_30 kd_300 rfl dX11_goOnWay_12 ?_
    refine g_iload_n dX11_goOnWay_15 rfl ?_
    refine g_iconst dX11_goOnWay_16 1 rfl (by decide) ?_
    refine g_isub dX11_goOnWay_17 ?_
    obtain ⟨hin, h⟩ := h
    refine g_iald kd_313 hin dX11_goOnWay_18 ?_
    refine g_aload_n dX11_goOnWay_19 rfl ?_
    refine g_getR (r := 313) fl_11_30 kd_300 rfl dX11_goOnWay_20 ?_
    refine g_iload_n dX11_goOnWay_23 rfl ?_
    obtain ⟨hin, h⟩ := h
    refine g_iald kd_313 hin dX11_goOnWay_24 ?_
    refine g_iload_n dX11_goOnWay_25 rfl ?_
    refine g_cVv (st := []) (av := [vI (σ 313 (w32 (l2 - 1)).toNat), vI (σ 313 l2.toNat), vI l1]) (kX11_straight h) kd_300 rfl cw_RX11_188 (by decide) (by decide) (Nat.le_of_ble_eq_true rfl) rfl dX11_goOnWay_26 (fun m1 h => ?_)
    refine g_iinc (lv' := [(2, vI (w32 (l2 + 1))), (0, vR 300), (1, vI l1)]) dX11_goOnWay_29 rfl (by decide) rfl ?_
    refine g_loc (a := w32 (l2 + 1)) (i := 2) (lv := [(0, vR 300), (1, vI l1)]) (fun x2 ex2 => ?_)
    replace h := h x2 ex2
    refine g_goto (tgt := 2) dX11_goOnWay_32 (by decide) ?_
    refine g_lv (lv' := [(0, vR 300), (1, vI l1), (2, vI x2)]) [1, 2, 0] rfl ?_
    exact hK2 ((l1, x2)) m1 h
theorem eX11_goOnWay_2 {E : TE} {Q : Mem → Prop} (hR : RV E none Q) {l1 : Int} {l2 : Int} {σ : Mem} (h : wLX11_goOnWay_2 Q l1 l2 σ) : GW E cX11_goOnWay 3 RX11 2 44 σ 2 [(0, vR 300), (1, vI l1), (2, vI l2)] [] := by
  obtain ⟨n, h⟩ := h
  exact lp_GW (P := fun (x : Int × Int) (σ : Mem) => GW E cX11_goOnWay 3 RX11 2 44 σ 2 [(0, vR 300), (1, vI x.1), (2, vI x.2)] []) (fun K hK x σ h  => bX11_goOnWay_2 hK hR h) n _ σ h 
set_option maxHeartbeats 1000000 in
theorem kX11_goOnWay {l1 : Int} {σ : Mem} {Q : Mem → Prop} (h : wX11_goOnWay l1 σ Q) (l : Launch) (D : va_G) (cy : Nat → ClassId) (ad : Nat → Nat) : MV l yX11_goOnWay cX11_goOnWay 3 none 2 44 D cy ad [vR 300, vI l1] σ Q := by
  refine m_V (own := RX11) (lv := [(0, vR 300), (1, vI l1)]) (by decide +kernel) rfl (Nat.le_of_ble_eq_true rfl) rfl (fun E hR => ?_) l D cy ad
  unfold wX11_goOnWay at h
  refine g_iconst dX11_goOnWay_0 1 rfl (by decide) ?_
  refine g_istore_n (lv' := [(2, vI 1), (0, vR 300), (1, vI l1)]) dX11_goOnWay_1 (by decide) rfl ?_
  refine g_lv (lv' := [(0, vR 300), (1, vI l1), (2, vI 1)]) [1, 2, 0] rfl ?_
  exact eX11_goOnWay_2 hR h
def wX11_tellWay_2 (K2 : Int → Mem → Prop) (Q : Mem → Prop) (l1 : Int) (σ : Mem) : Prop := ((σ 300 13 ≤ l1 → Q σ) ∧ (¬ σ 300 13 ≤ l1 → ((0 ≤ l1 ∧ l1 < 8) ∧ (wX11_tell (σ 313 l1.toNat) σ (fun m1 => (∀ x2 : Int, x2 = w32 (l1 + 1) → K2 x2 m1))))))
def wLX11_tellWay_2 (Q : Mem → Prop) (l1 : Int) (σ : Mem) : Prop := ∃ n, lp (fun (K2 : Int → Mem → Prop) (x : Int) (σ : Mem) => wX11_tellWay_2 K2 Q x σ) n l1 σ
def wX11_tellWay (σ : Mem) (Q : Mem → Prop) : Prop := wLX11_tellWay_2 Q 0 σ
set_option maxHeartbeats 1000000 in
theorem bX11_tellWay_2 {E : TE} {K2 : Int → Mem → Prop} (hK2 : ∀ (x : Int) (σ : Mem), K2 x σ → GW E cX11_tellWay 2 RX11 1 22 σ 2 [(0, vR 300), (1, vI x)] []) {Q : Mem → Prop} (hR : RV E none Q) {l1 : Int} {σ : Mem} (h : wX11_tellWay_2 K2 Q l1 σ) : GW E cX11_tellWay 2 RX11 1 22 σ 2 [(0, vR 300), (1, vI l1)] [] := by
  unfold wX11_tellWay_2 at h
  refine g_iload_n dX11_tellWay_2 rfl ?_
  refine g_aload_n dX11_tellWay_3 rfl ?_
  refine g_getI fl_11_182 kd_300 rfl dX11_tellWay_4 ?_
  obtain ⟨hA, hB⟩ := h
  refine g_icmp_ge (tgt := 27) dX11_tellWay_7 (by decide) (fun hc => ?_) (fun hc => ?_)
  · replace h := hA hc
    exact g_vret hR dX11_tellWay_27 h
  · replace h := hB hc
    refine g_aload_n dX11_tellWay_10 rfl ?_
    refine g_aload_n dX11_tellWay_11 rfl ?_
    refine g_getR (r := 313) fl_11_30 kd_300 rfl dX11_tellWay_12 ?_
    refine g_iload_n dX11_tellWay_15 rfl ?_
    obtain ⟨hin, h⟩ := h
    refine g_iald kd_313 hin dX11_tellWay_16 ?_
    refine g_i2l dX11_tellWay_17 ?_
    refine g_cVv (st := []) (av := [vL (σ 313 l1.toNat)]) (kX11_tell h) kd_300 rfl cw_RX11_155 (by decide) (by decide) (Nat.le_of_ble_eq_true rfl) rfl dX11_tellWay_18 (fun m1 h => ?_)
    refine g_iinc (lv' := [(1, vI (w32 (l1 + 1))), (0, vR 300)]) dX11_tellWay_21 rfl (by decide) rfl ?_
    refine g_loc (a := w32 (l1 + 1)) (i := 1) (lv := [(0, vR 300)]) (fun x2 ex2 => ?_)
    replace h := h x2 ex2
    refine g_goto (tgt := 2) dX11_tellWay_24 (by decide) ?_
    refine g_lv (lv' := [(0, vR 300), (1, vI x2)]) [1, 0] rfl ?_
    exact hK2 x2 m1 h
theorem eX11_tellWay_2 {E : TE} {Q : Mem → Prop} (hR : RV E none Q) {l1 : Int} {σ : Mem} (h : wLX11_tellWay_2 Q l1 σ) : GW E cX11_tellWay 2 RX11 1 22 σ 2 [(0, vR 300), (1, vI l1)] [] := by
  obtain ⟨n, h⟩ := h
  exact lp_GW (P := fun (x : Int) (σ : Mem) => GW E cX11_tellWay 2 RX11 1 22 σ 2 [(0, vR 300), (1, vI x)] []) (fun K hK x σ h  => bX11_tellWay_2 hK hR h) n _ σ h 
set_option maxHeartbeats 1000000 in
theorem kX11_tellWay {σ : Mem} {Q : Mem → Prop} (h : wX11_tellWay σ Q) (l : Launch) (D : va_G) (cy : Nat → ClassId) (ad : Nat → Nat) : MV l yX11_tellWay cX11_tellWay 2 none 1 22 D cy ad [vR 300] σ Q := by
  refine m_V (own := RX11) (lv := [(0, vR 300)]) (by decide +kernel) rfl (Nat.le_of_ble_eq_true rfl) rfl (fun E hR => ?_) l D cy ad
  unfold wX11_tellWay at h
  refine g_iconst dX11_tellWay_0 0 rfl (by decide) ?_
  refine g_istore_n (lv' := [(1, vI 0), (0, vR 300)]) dX11_tellWay_1 (by decide) rfl ?_
  refine g_lv (lv' := [(0, vR 300), (1, vI 0)]) [1, 0] rfl ?_
  exact eX11_tellWay_2 hR h
def wX11_isPayment (l1 : Int) (l2 : Int) (l3 : Int) (σ : Mem) (Q : Int → Mem → Prop) : Prop := (wX11_areTwo l1 l2 σ (fun y2 m1 => ((y2 = 0 → Q 0 m1) ∧ (¬ y2 = 0 → (wX11_in l3 1 9999 m1 (fun y4 m3 => ((y4 = 0 → Q 0 m3) ∧ (¬ y4 = 0 → Q 1 m3))))))))
set_option maxHeartbeats 1000000 in
theorem kX11_isPayment {l1 : Int} {l2 : Int} {l3 : Int} {σ : Mem} {Q : Int → Mem → Prop} (h : wX11_isPayment l1 l2 l3 σ Q) (l : Launch) (D : va_G) (cy : Nat → ClassId) (ad : Nat → Nat) : MI l yX11_isPayment cX11_isPayment 4 (some .boolean) 3 65 D cy ad [vR 300, vI l1, vI l2, vI l3] σ Q := by
  refine m_I (own := RX11) (lv := [(0, vR 300), (1, vI l1), (2, vI l2), (3, vI l3)]) (by decide +kernel) rfl (Nat.le_of_ble_eq_true rfl) rfl (fun E hR => ?_) l D cy ad
  unfold wX11_isPayment at h
  refine g_aload_n dX11_isPayment_0 rfl ?_
  refine g_iload_n dX11_isPayment_1 rfl ?_
  refine g_iload_n dX11_isPayment_2 rfl ?_
  refine g_cVi (st := []) (av := [vI l1, vI l2]) (kX11_areTwo h) kd_300 rfl cw_RX11_159 (by decide) (by decide) (Nat.le_of_ble_eq_true rfl) rfl dX11_isPayment_3 (fun y2 m1 h => ?_)
  obtain ⟨hA, hB⟩ := h
  refine g_if_eq (tgt := 24) dX11_isPayment_6 (by decide) (fun hc => ?_) (fun hc => ?_)
  · replace h := hA hc
    refine g_iconst dX11_isPayment_24 0 rfl (by decide) ?_
    exact g_zret hR dX11_isPayment_25 (by decide) h
  · replace h := hB hc
    refine g_iload_n dX11_isPayment_9 rfl ?_
    refine g_iconst dX11_isPayment_10 1 rfl (by decide) ?_
    refine g_sipush dX11_isPayment_11 9999 rfl (by decide) ?_
    refine g_cSi (st := []) (av := [vI l3, vI 1, vI 9999]) (kX11_in h) cw_RX11_74 (by decide) (by decide) (Nat.le_of_ble_eq_true rfl) rfl dX11_isPayment_14 (fun y4 m3 h => ?_)
    obtain ⟨hA, hB⟩ := h
    refine g_if_eq (tgt := 24) dX11_isPayment_17 (by decide) (fun hc => ?_) (fun hc => ?_)
    · replace h := hA hc
      refine g_iconst dX11_isPayment_24 0 rfl (by decide) ?_
      exact g_zret hR dX11_isPayment_25 (by decide) h
    · replace h := hB hc
      refine g_iconst dX11_isPayment_20 1 rfl (by decide) ?_
      refine g_goto (tgt := 25) dX11_isPayment_21 (by decide) ?_
      exact g_zret hR dX11_isPayment_25 (by decide) h
def wX11_way (l1 : Int) (l2 : Int) (l3 : Int) (σ : Mem) (Q : Int → Mem → Prop) : Prop := (∀ m1 : Mem, m1 = up2 σ 300 5 0 → (wX11_isPayment l1 l2 l3 m1 (fun y3 m2 => ((¬ y3 = 0 → (wX11_findWay l1 l2 l3 m2 (fun y5 m4 => ((¬ y5 = 0 → (∀ m6 : Mem, m6 = up2 m4 300 4 0 → (wX11_tellWay  m6 (fun m7 => Q (m7 300 13) m7)))) ∧ (y5 = 0 → Q ((-2)) m4))))) ∧ (y3 = 0 → Q ((-1)) m2)))))
set_option maxHeartbeats 1000000 in
theorem kX11_way {l1 : Int} {l2 : Int} {l3 : Int} {σ : Mem} {Q : Int → Mem → Prop} (h : wX11_way l1 l2 l3 σ Q) (l : Launch) (D : va_G) (cy : Nat → ClassId) (ad : Nat → Nat) : MI l yX11_way cX11_way 4 (some .int) 6 143 D cy ad [vR 300, vI l1, vI l2, vI l3] σ Q := by
  refine m_I (own := RX11) (lv := [(0, vR 300), (1, vI l1), (2, vI l2), (3, vI l3)]) (by decide +kernel) rfl (Nat.le_of_ble_eq_true rfl) rfl (fun E hR => ?_) l D cy ad
  unfold wX11_way at h
  refine g_aload_n dX11_way_0 rfl ?_
  refine g_iconst dX11_way_1 0 rfl (by decide) ?_
  refine g_putI fp_11_68 kd_300 rfl dX11_way_2 ?_
  refine g_nm (fun m1 em1 => ?_)
  replace h := h m1 em1
  refine g_aload_n dX11_way_5 rfl ?_
  refine g_iload_n dX11_way_6 rfl ?_
  refine g_iload_n dX11_way_7 rfl ?_
  refine g_iload_n dX11_way_8 rfl ?_
  refine g_cVi (st := []) (av := [vI l1, vI l2, vI l3]) (kX11_isPayment h) kd_300 rfl cw_RX11_192 (by decide) (by decide) (Nat.le_of_ble_eq_true rfl) rfl dX11_way_9 (fun y3 m2 h => ?_)
  obtain ⟨hA, hB⟩ := h
  refine g_if_ne (tgt := 17) dX11_way_12 (by decide) (fun hc => ?_) (fun hc => ?_)
  · replace h := hA hc
    refine g_aload_n dX11_way_17 rfl ?_
    refine g_iload_n dX11_way_18 rfl ?_
    refine g_iload_n dX11_way_19 rfl ?_
    refine g_iload_n dX11_way_20 rfl ?_
    refine g_cVi (st := []) (av := [vI l1, vI l2, vI l3]) (kX11_findWay h) kd_300 rfl cw_RX11_195 (by decide) (by decide) (Nat.le_of_ble_eq_true rfl) rfl dX11_way_21 (fun y5 m4 h => ?_)
    obtain ⟨hA, hB⟩ := h
    refine g_if_ne (tgt := 30) dX11_way_24 (by decide) (fun hc => ?_) (fun hc => ?_)
    · replace h := hA hc
      refine g_aload_n dX11_way_30 rfl ?_
      refine g_iconst dX11_way_31 0 rfl (by decide) ?_
      refine g_putI fp_11_71 kd_300 rfl dX11_way_32 ?_
      refine g_nm (fun m6 em6 => ?_)
      replace h := h m6 em6
      refine g_aload_n dX11_way_35 rfl ?_
      refine g_cVv (st := []) (av := []) (kX11_tellWay h) kd_300 rfl cw_RX11_198 (by decide) (by decide) (Nat.le_of_ble_eq_true rfl) rfl dX11_way_36 (fun m7 h => ?_)
      refine g_aload_n dX11_way_39 rfl ?_
      refine g_getI fl_11_182 kd_300 rfl dX11_way_40 ?_
      exact g_iret hR dX11_way_43 h
    · replace h := hB hc
      refine g_bipush dX11_way_27 (-2) rfl (by decide) ?_
      exact g_iret hR dX11_way_29 h
  · replace h := hB hc
    refine g_iconst dX11_way_15 (-1) rfl (by decide) ?_
    exact g_iret hR dX11_way_16 h
def wX11_reached_32 (K7 : (Int × Int × Int) → Mem → Prop) (K18 : (Int × Int × Int × Int) → Mem → Prop) (K32 : (Int × Int × Int × Int × Int) → Mem → Prop) (Q : Int → Mem → Prop) (l2 : Int) (l3 : Int) (l4 : Int) (l5 : Int) (l6 : Int) (σ : Mem) : Prop := ((σ 301 0 ≤ l6 → (∀ x1 : Int, x1 = w32 (l5 + 1) → K18 (l2, l3, l4, x1) σ)) ∧ (¬ σ 301 0 ≤ l6 → ((band (bshr l3 l5) 1 = 0 → (∀ x2 : Int, x2 = w32 (l6 + 1) → K32 (l2, l3, l4, l5, x2) σ)) ∧ (¬ band (bshr l3 l5) 1 = 0 → ((band (bshr l3 l6) 1 = 1 → (∀ x3 : Int, x3 = w32 (l6 + 1) → K32 (l2, l3, l4, l5, x3) σ)) ∧ (¬ band (bshr l3 l6) 1 = 1 → (wX11_canGo l5 l6 l2 σ (fun y5 m4 => ((¬ y5 = 0 → (∀ x6 : Int, x6 = bor l3 (bshl 1 l6) → (∀ x7 : Int, x7 = w32 (l6 + 1) → K32 (l2, x6, 1, l5, x7) m4))) ∧ (y5 = 0 → (∀ x8 : Int, x8 = w32 (l6 + 1) → K32 (l2, l3, l4, l5, x8) m4)))))))))))
def wLX11_reached_32 (K7 : (Int × Int × Int) → Mem → Prop) (K18 : (Int × Int × Int × Int) → Mem → Prop) (Q : Int → Mem → Prop) (l2 : Int) (l3 : Int) (l4 : Int) (l5 : Int) (l6 : Int) (σ : Mem) : Prop := ∃ n, lp (fun (K32 : (Int × Int × Int × Int × Int) → Mem → Prop) (x : Int × Int × Int × Int × Int) (σ : Mem) => wX11_reached_32 K7 K18 K32 Q x.1 x.2.1 x.2.2.1 x.2.2.2.1 x.2.2.2.2 σ) n (l2, l3, l4, l5, l6) σ
def wX11_reached_18 (K7 : (Int × Int × Int) → Mem → Prop) (K18 : (Int × Int × Int × Int) → Mem → Prop) (Q : Int → Mem → Prop) (l2 : Int) (l3 : Int) (l4 : Int) (l5 : Int) (σ : Mem) : Prop := ((σ 301 0 ≤ l5 → K7 (l2, l3, l4) σ) ∧ (¬ σ 301 0 ≤ l5 → wLX11_reached_32 K7 K18 Q l2 l3 l4 l5 0 σ))
def wLX11_reached_18 (K7 : (Int × Int × Int) → Mem → Prop) (Q : Int → Mem → Prop) (l2 : Int) (l3 : Int) (l4 : Int) (l5 : Int) (σ : Mem) : Prop := ∃ n, lp (fun (K18 : (Int × Int × Int × Int) → Mem → Prop) (x : Int × Int × Int × Int) (σ : Mem) => wX11_reached_18 K7 K18 Q x.1 x.2.1 x.2.2.1 x.2.2.2 σ) n (l2, l3, l4, l5) σ
def wX11_reached_7 (K7 : (Int × Int × Int) → Mem → Prop) (Q : Int → Mem → Prop) (l2 : Int) (l3 : Int) (l4 : Int) (σ : Mem) : Prop := ((l4 = 0 → Q l3 σ) ∧ (¬ l4 = 0 → wLX11_reached_18 K7 Q l2 l3 0 0 σ))
def wLX11_reached_7 (Q : Int → Mem → Prop) (l2 : Int) (l3 : Int) (l4 : Int) (σ : Mem) : Prop := ∃ n, lp (fun (K7 : (Int × Int × Int) → Mem → Prop) (x : Int × Int × Int) (σ : Mem) => wX11_reached_7 K7 Q x.1 x.2.1 x.2.2 σ) n (l2, l3, l4) σ
def wX11_reached (l1 : Int) (l2 : Int) (σ : Mem) (Q : Int → Mem → Prop) : Prop := (∀ x1 : Int, x1 = bshl 1 l1 → wLX11_reached_7 Q l2 x1 1 σ)
set_option maxHeartbeats 1000000 in
theorem bX11_reached_32 {E : TE} {K7 : (Int × Int × Int) → Mem → Prop} {K18 : (Int × Int × Int × Int) → Mem → Prop} {K32 : (Int × Int × Int × Int × Int) → Mem → Prop} (hK7 : ∀ (x : Int × Int × Int) (σ : Mem), K7 x σ → GW E cX11_reached 7 RX11 4 93 σ 7 [(0, vR 300), (2, vI x.1), (3, vI x.2.1), (4, vI x.2.2)] []) (hK18 : ∀ (x : Int × Int × Int × Int) (σ : Mem), K18 x σ → GW E cX11_reached 7 RX11 4 93 σ 18 [(0, vR 300), (2, vI x.1), (3, vI x.2.1), (4, vI x.2.2.1), (5, vI x.2.2.2)] []) (hK32 : ∀ (x : Int × Int × Int × Int × Int) (σ : Mem), K32 x σ → GW E cX11_reached 7 RX11 4 93 σ 32 [(0, vR 300), (2, vI x.1), (3, vI x.2.1), (4, vI x.2.2.1), (5, vI x.2.2.2.1), (6, vI x.2.2.2.2)] []) {Q : Int → Mem → Prop} (hR : RI E (some .int) Q) {l2 : Int} {l3 : Int} {l4 : Int} {l5 : Int} {l6 : Int} {σ : Mem} (h : wX11_reached_32 K7 K18 K32 Q l2 l3 l4 l5 l6 σ) : GW E cX11_reached 7 RX11 4 93 σ 32 [(0, vR 300), (2, vI l2), (3, vI l3), (4, vI l4), (5, vI l5), (6, vI l6)] [] := by
  unfold wX11_reached_32 at h
  refine g_iload dX11_reached_32 rfl ?_
  refine g_aload_n dX11_reached_34 rfl ?_
  refine g_getR (r := 301) fl_11_9 kd_300 rfl dX11_reached_35 ?_
  refine g_iconst dX11_reached_38 0 rfl (by decide) ?_
  refine g_iald kd_301 (by decide) dX11_reached_39 ?_
  obtain ⟨hA, hB⟩ := h
  refine g_icmp_ge (tgt := 93) dX11_reached_40 (by decide) (fun hc => ?_) (fun hc => ?_)
  · replace h := hA hc
    refine g_iinc (lv' := [(5, vI (w32 (l5 + 1))), (0, vR 300), (2, vI l2), (3, vI l3), (4, vI l4), (6, vI l6)]) dX11_reached_93 rfl (by decide) rfl ?_
    refine g_loc (a := w32 (l5 + 1)) (i := 5) (lv := [(0, vR 300), (2, vI l2), (3, vI l3), (4, vI l4), (6, vI l6)]) (fun x1 ex1 => ?_)
    replace h := h x1 ex1
    refine g_goto (tgt := 18) dX11_reached_96 (by decide) ?_
    refine g_lv (lv' := [(0, vR 300), (2, vI l2), (3, vI l3), (4, vI l4), (5, vI x1)]) [1, 2, 3, 4, 0] rfl ?_
    exact hK18 ((l2, l3, l4, x1)) σ h
  · replace h := hB hc
    refine g_iload_n dX11_reached_43 rfl ?_
    refine g_iload dX11_reached_44 rfl ?_
    refine g_ishr dX11_reached_46 ?_
    refine g_iconst dX11_reached_47 1 rfl (by decide) ?_
    refine g_iand dX11_reached_48 ?_
    obtain ⟨hA, hB⟩ := h
    refine g_if_eq (tgt := 87) dX11_reached_49 (by decide) (fun hc => ?_) (fun hc => ?_)
    · replace h := hA hc
      refine g_iinc (lv' := [(6, vI (w32 (l6 + 1))), (0, vR 300), (2, vI l2), (3, vI l3), (4, vI l4), (5, vI l5)]) dX11_reached_87 rfl (by decide) rfl ?_
      refine g_loc (a := w32 (l6 + 1)) (i := 6) (lv := [(0, vR 300), (2, vI l2), (3, vI l3), (4, vI l4), (5, vI l5)]) (fun x2 ex2 => ?_)
      replace h := h x2 ex2
      refine g_goto (tgt := 32) dX11_reached_90 (by decide) ?_
      refine g_lv (lv' := [(0, vR 300), (2, vI l2), (3, vI l3), (4, vI l4), (5, vI l5), (6, vI x2)]) [1, 2, 3, 4, 5, 0] rfl ?_
      exact hK32 ((l2, l3, l4, l5, x2)) σ h
    · replace h := hB hc
      refine g_iload_n dX11_reached_52 rfl ?_
      refine g_iload dX11_reached_53 rfl ?_
      refine g_ishr dX11_reached_55 ?_
      refine g_iconst dX11_reached_56 1 rfl (by decide) ?_
      refine g_iand dX11_reached_57 ?_
      refine g_iconst dX11_reached_58 1 rfl (by decide) ?_
      obtain ⟨hA, hB⟩ := h
      refine g_icmp_eq (tgt := 87) dX11_reached_59 (by decide) (fun hc => ?_) (fun hc => ?_)
      · replace h := hA hc
        refine g_iinc (lv' := [(6, vI (w32 (l6 + 1))), (0, vR 300), (2, vI l2), (3, vI l3), (4, vI l4), (5, vI l5)]) dX11_reached_87 rfl (by decide) rfl ?_
        refine g_loc (a := w32 (l6 + 1)) (i := 6) (lv := [(0, vR 300), (2, vI l2), (3, vI l3), (4, vI l4), (5, vI l5)]) (fun x3 ex3 => ?_)
        replace h := h x3 ex3
        refine g_goto (tgt := 32) dX11_reached_90 (by decide) ?_
        refine g_lv (lv' := [(0, vR 300), (2, vI l2), (3, vI l3), (4, vI l4), (5, vI l5), (6, vI x3)]) [1, 2, 3, 4, 5, 0] rfl ?_
        exact hK32 ((l2, l3, l4, l5, x3)) σ h
      · replace h := hB hc
        refine g_aload_n dX11_reached_62 rfl ?_
        refine g_iload dX11_reached_63 rfl ?_
        refine g_iload dX11_reached_65 rfl ?_
        refine g_iload_n dX11_reached_67 rfl ?_
        refine g_cVi (st := []) (av := [vI l5, vI l6, vI l2]) (kX11_canGo h) kd_300 rfl cw_RX11_175 (by decide) (by decide) (Nat.le_of_ble_eq_true rfl) rfl dX11_reached_68 (fun y5 m4 h => ?_)
        obtain ⟨hA, hB⟩ := h
        refine g_if_ne (tgt := 77) dX11_reached_71 (by decide) (fun hc => ?_) (fun hc => ?_)
        · replace h := hA hc
          refine g_iload_n dX11_reached_77 rfl ?_
          refine g_iconst dX11_reached_78 1 rfl (by decide) ?_
          refine g_iload dX11_reached_79 rfl ?_
          refine g_ishl dX11_reached_81 ?_
          refine g_ior dX11_reached_82 ?_
          refine g_topI (fun x6 ex6 => ?_)
          replace h := h x6 ex6
          refine g_istore_n (lv' := [(3, vI x6), (0, vR 300), (2, vI l2), (4, vI l4), (5, vI l5), (6, vI l6)]) dX11_reached_83 (by decide) rfl ?_
          refine g_iconst dX11_reached_84 1 rfl (by decide) ?_
          refine g_istore (lv' := [(4, vI 1), (3, vI x6), (0, vR 300), (2, vI l2), (5, vI l5), (6, vI l6)]) dX11_reached_85 (by decide) rfl ?_
          refine g_iinc (lv' := [(6, vI (w32 (l6 + 1))), (4, vI 1), (3, vI x6), (0, vR 300), (2, vI l2), (5, vI l5)]) dX11_reached_87 rfl (by decide) rfl ?_
          refine g_loc (a := w32 (l6 + 1)) (i := 6) (lv := [(4, vI 1), (3, vI x6), (0, vR 300), (2, vI l2), (5, vI l5)]) (fun x7 ex7 => ?_)
          replace h := h x7 ex7
          refine g_goto (tgt := 32) dX11_reached_90 (by decide) ?_
          refine g_lv (lv' := [(0, vR 300), (2, vI l2), (3, vI x6), (4, vI 1), (5, vI l5), (6, vI x7)]) [3, 4, 2, 1, 5, 0] rfl ?_
          exact hK32 ((l2, x6, 1, l5, x7)) m4 h
        · replace h := hB hc
          refine g_goto (tgt := 87) dX11_reached_74 (by decide) ?_
          refine g_iinc (lv' := [(6, vI (w32 (l6 + 1))), (0, vR 300), (2, vI l2), (3, vI l3), (4, vI l4), (5, vI l5)]) dX11_reached_87 rfl (by decide) rfl ?_
          refine g_loc (a := w32 (l6 + 1)) (i := 6) (lv := [(0, vR 300), (2, vI l2), (3, vI l3), (4, vI l4), (5, vI l5)]) (fun x8 ex8 => ?_)
          replace h := h x8 ex8
          refine g_goto (tgt := 32) dX11_reached_90 (by decide) ?_
          refine g_lv (lv' := [(0, vR 300), (2, vI l2), (3, vI l3), (4, vI l4), (5, vI l5), (6, vI x8)]) [1, 2, 3, 4, 5, 0] rfl ?_
          exact hK32 ((l2, l3, l4, l5, x8)) m4 h
theorem eX11_reached_32 {E : TE} {K7 : (Int × Int × Int) → Mem → Prop} {K18 : (Int × Int × Int × Int) → Mem → Prop} (hK7 : ∀ (x : Int × Int × Int) (σ : Mem), K7 x σ → GW E cX11_reached 7 RX11 4 93 σ 7 [(0, vR 300), (2, vI x.1), (3, vI x.2.1), (4, vI x.2.2)] []) (hK18 : ∀ (x : Int × Int × Int × Int) (σ : Mem), K18 x σ → GW E cX11_reached 7 RX11 4 93 σ 18 [(0, vR 300), (2, vI x.1), (3, vI x.2.1), (4, vI x.2.2.1), (5, vI x.2.2.2)] []) {Q : Int → Mem → Prop} (hR : RI E (some .int) Q) {l2 : Int} {l3 : Int} {l4 : Int} {l5 : Int} {l6 : Int} {σ : Mem} (h : wLX11_reached_32 K7 K18 Q l2 l3 l4 l5 l6 σ) : GW E cX11_reached 7 RX11 4 93 σ 32 [(0, vR 300), (2, vI l2), (3, vI l3), (4, vI l4), (5, vI l5), (6, vI l6)] [] := by
  obtain ⟨n, h⟩ := h
  exact lp_GW (P := fun (x : Int × Int × Int × Int × Int) (σ : Mem) => GW E cX11_reached 7 RX11 4 93 σ 32 [(0, vR 300), (2, vI x.1), (3, vI x.2.1), (4, vI x.2.2.1), (5, vI x.2.2.2.1), (6, vI x.2.2.2.2)] []) (fun K hK x σ h  => bX11_reached_32 hK7 hK18 hK hR h) n _ σ h 
set_option maxHeartbeats 1000000 in
theorem bX11_reached_18 {E : TE} {K7 : (Int × Int × Int) → Mem → Prop} {K18 : (Int × Int × Int × Int) → Mem → Prop} (hK7 : ∀ (x : Int × Int × Int) (σ : Mem), K7 x σ → GW E cX11_reached 7 RX11 4 93 σ 7 [(0, vR 300), (2, vI x.1), (3, vI x.2.1), (4, vI x.2.2)] []) (hK18 : ∀ (x : Int × Int × Int × Int) (σ : Mem), K18 x σ → GW E cX11_reached 7 RX11 4 93 σ 18 [(0, vR 300), (2, vI x.1), (3, vI x.2.1), (4, vI x.2.2.1), (5, vI x.2.2.2)] []) {Q : Int → Mem → Prop} (hR : RI E (some .int) Q) {l2 : Int} {l3 : Int} {l4 : Int} {l5 : Int} {σ : Mem} (h : wX11_reached_18 K7 K18 Q l2 l3 l4 l5 σ) : GW E cX11_reached 7 RX11 4 93 σ 18 [(0, vR 300), (2, vI l2), (3, vI l3), (4, vI l4), (5, vI l5)] [] := by
  unfold wX11_reached_18 at h
  refine g_iload dX11_reached_18 rfl ?_
  refine g_aload_n dX11_reached_20 rfl ?_
  refine g_getR (r := 301) fl_11_9 kd_300 rfl dX11_reached_21 ?_
  refine g_iconst dX11_reached_24 0 rfl (by decide) ?_
  refine g_iald kd_301 (by decide) dX11_reached_25 ?_
  obtain ⟨hA, hB⟩ := h
  refine g_icmp_ge (tgt := 99) dX11_reached_26 (by decide) (fun hc => ?_) (fun hc => ?_)
  · replace h := hA hc
    refine g_goto (tgt := 7) dX11_reached_99 (by decide) ?_
    refine g_lv (lv' := [(0, vR 300), (2, vI l2), (3, vI l3), (4, vI l4)]) [0, 1, 2, 3] rfl ?_
    exact hK7 ((l2, l3, l4)) σ h
  · replace h := hB hc
    refine g_iconst dX11_reached_29 0 rfl (by decide) ?_
    refine g_istore (lv' := [(6, vI 0), (0, vR 300), (2, vI l2), (3, vI l3), (4, vI l4), (5, vI l5)]) dX11_reached_30 (by decide) rfl ?_
    refine g_lv (lv' := [(0, vR 300), (2, vI l2), (3, vI l3), (4, vI l4), (5, vI l5), (6, vI 0)]) [1, 2, 3, 4, 5, 0] rfl ?_
    exact eX11_reached_32 hK7 hK18 hR h
theorem eX11_reached_18 {E : TE} {K7 : (Int × Int × Int) → Mem → Prop} (hK7 : ∀ (x : Int × Int × Int) (σ : Mem), K7 x σ → GW E cX11_reached 7 RX11 4 93 σ 7 [(0, vR 300), (2, vI x.1), (3, vI x.2.1), (4, vI x.2.2)] []) {Q : Int → Mem → Prop} (hR : RI E (some .int) Q) {l2 : Int} {l3 : Int} {l4 : Int} {l5 : Int} {σ : Mem} (h : wLX11_reached_18 K7 Q l2 l3 l4 l5 σ) : GW E cX11_reached 7 RX11 4 93 σ 18 [(0, vR 300), (2, vI l2), (3, vI l3), (4, vI l4), (5, vI l5)] [] := by
  obtain ⟨n, h⟩ := h
  exact lp_GW (P := fun (x : Int × Int × Int × Int) (σ : Mem) => GW E cX11_reached 7 RX11 4 93 σ 18 [(0, vR 300), (2, vI x.1), (3, vI x.2.1), (4, vI x.2.2.1), (5, vI x.2.2.2)] []) (fun K hK x σ h  => bX11_reached_18 hK7 hK hR h) n _ σ h 
set_option maxHeartbeats 1000000 in
theorem bX11_reached_7 {E : TE} {K7 : (Int × Int × Int) → Mem → Prop} (hK7 : ∀ (x : Int × Int × Int) (σ : Mem), K7 x σ → GW E cX11_reached 7 RX11 4 93 σ 7 [(0, vR 300), (2, vI x.1), (3, vI x.2.1), (4, vI x.2.2)] []) {Q : Int → Mem → Prop} (hR : RI E (some .int) Q) {l2 : Int} {l3 : Int} {l4 : Int} {σ : Mem} (h : wX11_reached_7 K7 Q l2 l3 l4 σ) : GW E cX11_reached 7 RX11 4 93 σ 7 [(0, vR 300), (2, vI l2), (3, vI l3), (4, vI l4)] [] := by
  unfold wX11_reached_7 at h
  refine g_iload dX11_reached_7 rfl ?_
  obtain ⟨hA, hB⟩ := h
  refine g_if_eq (tgt := 102) dX11_reached_9 (by decide) (fun hc => ?_) (fun hc => ?_)
  · replace h := hA hc
    refine g_iload_n dX11_reached_102 rfl ?_
    exact g_iret hR dX11_reached_103 h
  · replace h := hB hc
    refine g_iconst dX11_reached_12 0 rfl (by decide) ?_
    refine g_istore (lv' := [(4, vI 0), (0, vR 300), (2, vI l2), (3, vI l3)]) dX11_reached_13 (by decide) rfl ?_
    refine g_iconst dX11_reached_15 0 rfl (by decide) ?_
    refine g_istore (lv' := [(5, vI 0), (4, vI 0), (0, vR 300), (2, vI l2), (3, vI l3)]) dX11_reached_16 (by decide) rfl ?_
    refine g_lv (lv' := [(0, vR 300), (2, vI l2), (3, vI l3), (4, vI 0), (5, vI 0)]) [2, 3, 4, 1, 0] rfl ?_
    exact eX11_reached_18 hK7 hR h
theorem eX11_reached_7 {E : TE} {Q : Int → Mem → Prop} (hR : RI E (some .int) Q) {l2 : Int} {l3 : Int} {l4 : Int} {σ : Mem} (h : wLX11_reached_7 Q l2 l3 l4 σ) : GW E cX11_reached 7 RX11 4 93 σ 7 [(0, vR 300), (2, vI l2), (3, vI l3), (4, vI l4)] [] := by
  obtain ⟨n, h⟩ := h
  exact lp_GW (P := fun (x : Int × Int × Int) (σ : Mem) => GW E cX11_reached 7 RX11 4 93 σ 7 [(0, vR 300), (2, vI x.1), (3, vI x.2.1), (4, vI x.2.2)] []) (fun K hK x σ h  => bX11_reached_7 hK hR h) n _ σ h 
set_option maxHeartbeats 1000000 in
theorem kX11_reached {l1 : Int} {l2 : Int} {σ : Mem} {Q : Int → Mem → Prop} (h : wX11_reached l1 l2 σ Q) (l : Launch) (D : va_G) (cy : Nat → ClassId) (ad : Nat → Nat) : MI l yX11_reached cX11_reached 7 (some .int) 4 93 D cy ad [vR 300, vI l1, vI l2] σ Q := by
  refine m_I (own := RX11) (lv := [(0, vR 300), (1, vI l1), (2, vI l2)]) (by decide +kernel) rfl (Nat.le_of_ble_eq_true rfl) rfl (fun E hR => ?_) l D cy ad
  unfold wX11_reached at h
  refine g_iconst dX11_reached_0 1 rfl (by decide) ?_
  refine g_iload_n dX11_reached_1 rfl ?_
  refine g_ishl dX11_reached_2 ?_
  refine g_topI (fun x1 ex1 => ?_)
  replace h := h x1 ex1
  refine g_istore_n (lv' := [(3, vI x1), (0, vR 300), (1, vI l1), (2, vI l2)]) dX11_reached_3 (by decide) rfl ?_
  refine g_iconst dX11_reached_4 1 rfl (by decide) ?_
  refine g_istore (lv' := [(4, vI 1), (3, vI x1), (0, vR 300), (1, vI l1), (2, vI l2)]) dX11_reached_5 (by decide) rfl ?_
  refine g_lv (lv' := [(0, vR 300), (2, vI l2), (3, vI x1), (4, vI 1)]) [2, 4, 1, 0] rfl ?_
  exact eX11_reached_7 hR h
def wX11_countBits_4 (K4 : (Int × Int) → Mem → Prop) (Q : Int → Mem → Prop) (l1 : Int) (l2 : Int) (σ : Mem) : Prop := ((l2 = 0 → Q l1 σ) ∧ (¬ l2 = 0 → (∀ x1 : Int, x1 = w32 (l1 + 1) → (∀ x2 : Int, x2 = band l2 (w32 (l2 - 1)) → K4 (x1, x2) σ))))
def wLX11_countBits_4 (Q : Int → Mem → Prop) (l1 : Int) (l2 : Int) (σ : Mem) : Prop := ∃ n, lp (fun (K4 : (Int × Int) → Mem → Prop) (x : Int × Int) (σ : Mem) => wX11_countBits_4 K4 Q x.1 x.2 σ) n (l1, l2) σ
def wX11_countBits (l0 : Int) (σ : Mem) (Q : Int → Mem → Prop) : Prop := wLX11_countBits_4 Q 0 l0 σ
set_option maxHeartbeats 1000000 in
theorem bX11_countBits_4 {E : TE} {K4 : (Int × Int) → Mem → Prop} (hK4 : ∀ (x : Int × Int) (σ : Mem), K4 x σ → GW E cX11_countBits 3 RX11 0 0 σ 4 [(1, vI x.1), (2, vI x.2)] []) {Q : Int → Mem → Prop} (hR : RI E (some .int) Q) {l1 : Int} {l2 : Int} {σ : Mem} (h : wX11_countBits_4 K4 Q l1 l2 σ) : GW E cX11_countBits 3 RX11 0 0 σ 4 [(1, vI l1), (2, vI l2)] [] := by
  unfold wX11_countBits_4 at h
  refine g_iload_n dX11_countBits_4 rfl ?_
  obtain ⟨hA, hB⟩ := h
  refine g_if_eq (tgt := 20) dX11_countBits_5 (by decide) (fun hc => ?_) (fun hc => ?_)
  · replace h := hA hc
    refine g_iload_n dX11_countBits_20 rfl ?_
    exact g_iret hR dX11_countBits_21 h
  · replace h := hB hc
    refine g_iinc (lv' := [(1, vI (w32 (l1 + 1))), (2, vI l2)]) dX11_countBits_8 rfl (by decide) rfl ?_
    refine g_loc (a := w32 (l1 + 1)) (i := 1) (lv := [(2, vI l2)]) (fun x1 ex1 => ?_)
    replace h := h x1 ex1
    refine g_iload_n dX11_countBits_11 rfl ?_
    refine g_iload_n dX11_countBits_12 rfl ?_
    refine g_iconst dX11_countBits_13 1 rfl (by decide) ?_
    refine g_isub dX11_countBits_14 ?_
    refine g_iand dX11_countBits_15 ?_
    refine g_topI (fun x2 ex2 => ?_)
    replace h := h x2 ex2
    refine g_istore_n (lv' := [(2, vI x2), (1, vI x1)]) dX11_countBits_16 (by decide) rfl ?_
    refine g_goto (tgt := 4) dX11_countBits_17 (by decide) ?_
    refine g_lv (lv' := [(1, vI x1), (2, vI x2)]) [1, 0] rfl ?_
    exact hK4 ((x1, x2)) σ h
theorem eX11_countBits_4 {E : TE} {Q : Int → Mem → Prop} (hR : RI E (some .int) Q) {l1 : Int} {l2 : Int} {σ : Mem} (h : wLX11_countBits_4 Q l1 l2 σ) : GW E cX11_countBits 3 RX11 0 0 σ 4 [(1, vI l1), (2, vI l2)] [] := by
  obtain ⟨n, h⟩ := h
  exact lp_GW (P := fun (x : Int × Int) (σ : Mem) => GW E cX11_countBits 3 RX11 0 0 σ 4 [(1, vI x.1), (2, vI x.2)] []) (fun K hK x σ h  => bX11_countBits_4 hK hR h) n _ σ h 
set_option maxHeartbeats 1000000 in
theorem kX11_countBits {l0 : Int} {σ : Mem} {Q : Int → Mem → Prop} (h : wX11_countBits l0 σ Q) (l : Launch) (D : va_G) (cy : Nat → ClassId) (ad : Nat → Nat) : MI l yX11_countBits cX11_countBits 3 (some .int) 0 0 D cy ad [vI l0] σ Q := by
  refine m_I (own := RX11) (lv := [(0, vI l0)]) (by decide +kernel) rfl (Nat.le_of_ble_eq_true rfl) rfl (fun E hR => ?_) l D cy ad
  unfold wX11_countBits at h
  refine g_iconst dX11_countBits_0 0 rfl (by decide) ?_
  refine g_istore_n (lv' := [(1, vI 0), (0, vI l0)]) dX11_countBits_1 (by decide) rfl ?_
  refine g_iload_n dX11_countBits_2 rfl ?_
  refine g_istore_n (lv' := [(2, vI l0), (1, vI 0), (0, vI l0)]) dX11_countBits_3 (by decide) rfl ?_
  refine g_lv (lv' := [(1, vI 0), (2, vI l0)]) [1, 0] rfl ?_
  exact eX11_countBits_4 hR h
def wX11_reach (l1 : Int) (l2 : Int) (σ : Mem) (Q : Int → Mem → Prop) : Prop := (∀ m1 : Mem, m1 = up2 σ 300 5 0 → (wX11_isMember l1 m1 (fun y3 m2 => ((y3 = 0 → Q ((-1)) m2) ∧ (¬ y3 = 0 → (wX11_in l2 1 9999 m2 (fun y5 m4 => ((¬ y5 = 0 → (wX11_reached l1 l2 m4 (fun y7 m6 => (∀ x8 : Int, x8 = band y7 (bxor (bshl 1 l1) ((-1))) → (∀ m9 : Mem, m9 = up2 m6 300 4 0 → (wX11_countBits x8 m9 (fun y11 m10 => (wX11_tell y11 m10 (fun m12 => Q x8 m12))))))))) ∧ (y5 = 0 → Q ((-1)) m4)))))))))
set_option maxHeartbeats 1000000 in
theorem kX11_reach {l1 : Int} {l2 : Int} {σ : Mem} {Q : Int → Mem → Prop} (h : wX11_reach l1 l2 σ Q) (l : Launch) (D : va_G) (cy : Nat → ClassId) (ad : Nat → Nat) : MI l yX11_reach cX11_reach 4 (some .int) 5 119 D cy ad [vR 300, vI l1, vI l2] σ Q := by
  refine m_I (own := RX11) (lv := [(0, vR 300), (1, vI l1), (2, vI l2)]) (by decide +kernel) rfl (Nat.le_of_ble_eq_true rfl) rfl (fun E hR => ?_) l D cy ad
  unfold wX11_reach at h
  refine g_aload_n dX11_reach_0 rfl ?_
  refine g_iconst dX11_reach_1 0 rfl (by decide) ?_
  refine g_putI fp_11_68 kd_300 rfl dX11_reach_2 ?_
  refine g_nm (fun m1 em1 => ?_)
  replace h := h m1 em1
  refine g_aload_n dX11_reach_5 rfl ?_
  refine g_iload_n dX11_reach_6 rfl ?_
  refine g_cVi (st := []) (av := [vI l1]) (kX11_isMember h) kd_300 rfl cw_RX11_78 (by decide) (by decide) (Nat.le_of_ble_eq_true rfl) rfl dX11_reach_7 (fun y3 m2 h => ?_)
  obtain ⟨hA, hB⟩ := h
  refine g_if_eq (tgt := 24) dX11_reach_10 (by decide) (fun hc => ?_) (fun hc => ?_)
  · replace h := hA hc
    refine g_iconst dX11_reach_24 (-1) rfl (by decide) ?_
    exact g_iret hR dX11_reach_25 h
  · replace h := hB hc
    refine g_iload_n dX11_reach_13 rfl ?_
    refine g_iconst dX11_reach_14 1 rfl (by decide) ?_
    refine g_sipush dX11_reach_15 9999 rfl (by decide) ?_
    refine g_cSi (st := []) (av := [vI l2, vI 1, vI 9999]) (kX11_in h) cw_RX11_74 (by decide) (by decide) (Nat.le_of_ble_eq_true rfl) rfl dX11_reach_18 (fun y5 m4 h => ?_)
    obtain ⟨hA, hB⟩ := h
    refine g_if_ne (tgt := 26) dX11_reach_21 (by decide) (fun hc => ?_) (fun hc => ?_)
    · replace h := hA hc
      refine g_aload_n dX11_reach_26 rfl ?_
      refine g_iload_n dX11_reach_27 rfl ?_
      refine g_iload_n dX11_reach_28 rfl ?_
      refine g_cVi (st := []) (av := [vI l1, vI l2]) (kX11_reached h) kd_300 rfl cw_RX11_201 (by decide) (by decide) (Nat.le_of_ble_eq_true rfl) rfl dX11_reach_29 (fun y7 m6 h => ?_)
      refine g_iconst dX11_reach_32 1 rfl (by decide) ?_
      refine g_iload_n dX11_reach_33 rfl ?_
      refine g_ishl dX11_reach_34 ?_
      refine g_iconst dX11_reach_35 (-1) rfl (by decide) ?_
      refine g_ixor dX11_reach_36 ?_
      refine g_iand dX11_reach_37 ?_
      refine g_topI (fun x8 ex8 => ?_)
      replace h := h x8 ex8
      refine g_istore_n (lv' := [(3, vI x8), (0, vR 300), (1, vI l1), (2, vI l2)]) dX11_reach_38 (by decide) rfl ?_
      refine g_aload_n dX11_reach_39 rfl ?_
      refine g_iconst dX11_reach_40 0 rfl (by decide) ?_
      refine g_putI fp_11_71 kd_300 rfl dX11_reach_41 ?_
      refine g_nm (fun m9 em9 => ?_)
      replace h := h m9 em9
      refine g_aload_n dX11_reach_44 rfl ?_
      refine g_iload_n dX11_reach_45 rfl ?_
      refine g_cSi (st := [vR 300]) (av := [vI x8]) (kX11_countBits h) cw_RX11_204 (by decide) (by decide) (Nat.le_of_ble_eq_true rfl) rfl dX11_reach_46 (fun y11 m10 h => ?_)
      refine g_i2l dX11_reach_49 ?_
      refine g_cVv (st := []) (av := [vL y11]) (kX11_tell h) kd_300 rfl cw_RX11_155 (by decide) (by decide) (Nat.le_of_ble_eq_true rfl) rfl dX11_reach_50 (fun m12 h => ?_)
      refine g_iload_n dX11_reach_53 rfl ?_
      exact g_iret hR dX11_reach_54 h
    · replace h := hB hc
      refine g_iconst dX11_reach_24 (-1) rfl (by decide) ?_
      exact g_iret hR dX11_reach_25 h
def wX11_layAside_2 (K2 : (Int × Int) → Mem → Prop) (Q : Mem → Prop) (l1 : Int) (l2 : Int) (σ : Mem) : Prop := ((405 ≤ l2 → Q σ) ∧ (¬ 405 ≤ l2 → ((0 ≤ l2 ∧ l2 < 405) ∧ ((0 ≤ w32 ((w32 (405 * l1)) + l2) ∧ w32 ((w32 (405 * l1)) + l2) < 1620) ∧ (∀ m1 : Mem, m1 = up2 σ 316 (w32 ((w32 (405 * l1)) + l2)).toNat (σ 301 l2.toNat) → (∀ x2 : Int, x2 = w32 (l2 + 1) → K2 (l1, x2) m1))))))
def wLX11_layAside_2 (Q : Mem → Prop) (l1 : Int) (l2 : Int) (σ : Mem) : Prop := ∃ n, lp (fun (K2 : (Int × Int) → Mem → Prop) (x : Int × Int) (σ : Mem) => wX11_layAside_2 K2 Q x.1 x.2 σ) n (l1, l2) σ
def wX11_layAside (l1 : Int) (σ : Mem) (Q : Mem → Prop) : Prop := wLX11_layAside_2 Q l1 0 σ
set_option maxHeartbeats 1000000 in
theorem bX11_layAside_2 {E : TE} {K2 : (Int × Int) → Mem → Prop} (hK2 : ∀ (x : Int × Int) (σ : Mem), K2 x σ → GW E cX11_layAside 3 RX11 0 0 σ 2 [(0, vR 300), (1, vI x.1), (2, vI x.2)] []) {Q : Mem → Prop} (hR : RV E none Q) {l1 : Int} {l2 : Int} {σ : Mem} (h : wX11_layAside_2 K2 Q l1 l2 σ) : GW E cX11_layAside 3 RX11 0 0 σ 2 [(0, vR 300), (1, vI l1), (2, vI l2)] [] := by
  unfold wX11_layAside_2 at h
  refine g_iload_n dX11_layAside_2 rfl ?_
  refine g_sipush dX11_layAside_3 405 rfl (by decide) ?_
  obtain ⟨hA, hB⟩ := h
  refine g_icmp_ge (tgt := 33) dX11_layAside_6 (by decide) (fun hc => ?_) (fun hc => ?_)
  · replace h := hA hc
    exact g_vret hR dX11_layAside_33 h
  · replace h := hB hc
    refine g_aload_n dX11_layAside_9 rfl ?_
    refine g_getR (r := 316) fl_11_37 kd_300 rfl dX11_layAside_10 ?_
    refine g_sipush dX11_layAside_13 405 rfl (by decide) ?_
    refine g_iload_n dX11_layAside_16 rfl ?_
    refine g_imul dX11_layAside_17 ?_
    refine g_iload_n dX11_layAside_18 rfl ?_
    refine g_iadd dX11_layAside_19 ?_
    refine g_aload_n dX11_layAside_20 rfl ?_
    refine g_getR (r := 301) fl_11_9 kd_300 rfl dX11_layAside_21 ?_
    refine g_iload_n dX11_layAside_24 rfl ?_
    obtain ⟨hin, h⟩ := h
    refine g_iald kd_301 hin dX11_layAside_25 ?_
    obtain ⟨hin, h⟩ := h
    refine g_iast kd_316 hin dX11_layAside_26 ?_
    refine g_nm (fun m1 em1 => ?_)
    replace h := h m1 em1
    refine g_iinc (lv' := [(2, vI (w32 (l2 + 1))), (0, vR 300), (1, vI l1)]) dX11_layAside_27 rfl (by decide) rfl ?_
    refine g_loc (a := w32 (l2 + 1)) (i := 2) (lv := [(0, vR 300), (1, vI l1)]) (fun x2 ex2 => ?_)
    replace h := h x2 ex2
    refine g_goto (tgt := 2) dX11_layAside_30 (by decide) ?_
    refine g_lv (lv' := [(0, vR 300), (1, vI l1), (2, vI x2)]) [1, 2, 0] rfl ?_
    exact hK2 ((l1, x2)) m1 h
theorem eX11_layAside_2 {E : TE} {Q : Mem → Prop} (hR : RV E none Q) {l1 : Int} {l2 : Int} {σ : Mem} (h : wLX11_layAside_2 Q l1 l2 σ) : GW E cX11_layAside 3 RX11 0 0 σ 2 [(0, vR 300), (1, vI l1), (2, vI l2)] [] := by
  obtain ⟨n, h⟩ := h
  exact lp_GW (P := fun (x : Int × Int) (σ : Mem) => GW E cX11_layAside 3 RX11 0 0 σ 2 [(0, vR 300), (1, vI x.1), (2, vI x.2)] []) (fun K hK x σ h  => bX11_layAside_2 hK hR h) n _ σ h 
set_option maxHeartbeats 1000000 in
theorem kX11_layAside {l1 : Int} {σ : Mem} {Q : Mem → Prop} (h : wX11_layAside l1 σ Q) (l : Launch) (D : va_G) (cy : Nat → ClassId) (ad : Nat → Nat) : MV l yX11_layAside cX11_layAside 3 none 0 0 D cy ad [vR 300, vI l1] σ Q := by
  refine m_V (own := RX11) (lv := [(0, vR 300), (1, vI l1)]) (by decide +kernel) rfl (Nat.le_of_ble_eq_true rfl) rfl (fun E hR => ?_) l D cy ad
  unfold wX11_layAside at h
  refine g_iconst dX11_layAside_0 0 rfl (by decide) ?_
  refine g_istore_n (lv' := [(2, vI 0), (0, vR 300), (1, vI l1)]) dX11_layAside_1 (by decide) rfl ?_
  refine g_lv (lv' := [(0, vR 300), (1, vI l1), (2, vI 0)]) [1, 2, 0] rfl ?_
  exact eX11_layAside_2 hR h
def wX11_comesBack_2 (K2 : (Int × Int) → Mem → Prop) (Q : Mem → Prop) (l1 : Int) (l2 : Int) (σ : Mem) : Prop := ((405 ≤ l2 → Q σ) ∧ (¬ 405 ≤ l2 → ((0 ≤ w32 ((w32 (405 * l1)) + l2) ∧ w32 ((w32 (405 * l1)) + l2) < 1620) ∧ ((0 ≤ l2 ∧ l2 < 405) ∧ (∀ m1 : Mem, m1 = up2 σ 301 l2.toNat (σ 316 (w32 ((w32 (405 * l1)) + l2)).toNat) → (∀ x2 : Int, x2 = w32 (l2 + 1) → K2 (l1, x2) m1))))))
def wLX11_comesBack_2 (Q : Mem → Prop) (l1 : Int) (l2 : Int) (σ : Mem) : Prop := ∃ n, lp (fun (K2 : (Int × Int) → Mem → Prop) (x : Int × Int) (σ : Mem) => wX11_comesBack_2 K2 Q x.1 x.2 σ) n (l1, l2) σ
def wX11_comesBack (l1 : Int) (σ : Mem) (Q : Mem → Prop) : Prop := wLX11_comesBack_2 Q l1 0 σ
set_option maxHeartbeats 1000000 in
theorem bX11_comesBack_2 {E : TE} {K2 : (Int × Int) → Mem → Prop} (hK2 : ∀ (x : Int × Int) (σ : Mem), K2 x σ → GW E cX11_comesBack 3 RX11 0 0 σ 2 [(0, vR 300), (1, vI x.1), (2, vI x.2)] []) {Q : Mem → Prop} (hR : RV E none Q) {l1 : Int} {l2 : Int} {σ : Mem} (h : wX11_comesBack_2 K2 Q l1 l2 σ) : GW E cX11_comesBack 3 RX11 0 0 σ 2 [(0, vR 300), (1, vI l1), (2, vI l2)] [] := by
  unfold wX11_comesBack_2 at h
  refine g_iload_n dX11_comesBack_2 rfl ?_
  refine g_sipush dX11_comesBack_3 405 rfl (by decide) ?_
  obtain ⟨hA, hB⟩ := h
  refine g_icmp_ge (tgt := 33) dX11_comesBack_6 (by decide) (fun hc => ?_) (fun hc => ?_)
  · replace h := hA hc
    exact g_vret hR dX11_comesBack_33 h
  · replace h := hB hc
    refine g_aload_n dX11_comesBack_9 rfl ?_
    refine g_getR (r := 301) fl_11_9 kd_300 rfl dX11_comesBack_10 ?_
    refine g_iload_n dX11_comesBack_13 rfl ?_
    refine g_aload_n dX11_comesBack_14 rfl ?_
    refine g_getR (r := 316) fl_11_37 kd_300 rfl dX11_comesBack_15 ?_
    refine g_sipush dX11_comesBack_18 405 rfl (by decide) ?_
    refine g_iload_n dX11_comesBack_21 rfl ?_
    refine g_imul dX11_comesBack_22 ?_
    refine g_iload_n dX11_comesBack_23 rfl ?_
    refine g_iadd dX11_comesBack_24 ?_
    obtain ⟨hin, h⟩ := h
    refine g_iald kd_316 hin dX11_comesBack_25 ?_
    obtain ⟨hin, h⟩ := h
    refine g_iast kd_301 hin dX11_comesBack_26 ?_
    refine g_nm (fun m1 em1 => ?_)
    replace h := h m1 em1
    refine g_iinc (lv' := [(2, vI (w32 (l2 + 1))), (0, vR 300), (1, vI l1)]) dX11_comesBack_27 rfl (by decide) rfl ?_
    refine g_loc (a := w32 (l2 + 1)) (i := 2) (lv := [(0, vR 300), (1, vI l1)]) (fun x2 ex2 => ?_)
    replace h := h x2 ex2
    refine g_goto (tgt := 2) dX11_comesBack_30 (by decide) ?_
    refine g_lv (lv' := [(0, vR 300), (1, vI l1), (2, vI x2)]) [1, 2, 0] rfl ?_
    exact hK2 ((l1, x2)) m1 h
theorem eX11_comesBack_2 {E : TE} {Q : Mem → Prop} (hR : RV E none Q) {l1 : Int} {l2 : Int} {σ : Mem} (h : wLX11_comesBack_2 Q l1 l2 σ) : GW E cX11_comesBack 3 RX11 0 0 σ 2 [(0, vR 300), (1, vI l1), (2, vI l2)] [] := by
  obtain ⟨n, h⟩ := h
  exact lp_GW (P := fun (x : Int × Int) (σ : Mem) => GW E cX11_comesBack 3 RX11 0 0 σ 2 [(0, vR 300), (1, vI x.1), (2, vI x.2)] []) (fun K hK x σ h  => bX11_comesBack_2 hK hR h) n _ σ h 
set_option maxHeartbeats 1000000 in
theorem kX11_comesBack {l1 : Int} {σ : Mem} {Q : Mem → Prop} (h : wX11_comesBack l1 σ Q) (l : Launch) (D : va_G) (cy : Nat → ClassId) (ad : Nat → Nat) : MV l yX11_comesBack cX11_comesBack 3 none 0 0 D cy ad [vR 300, vI l1] σ Q := by
  refine m_V (own := RX11) (lv := [(0, vR 300), (1, vI l1)]) (by decide +kernel) rfl (Nat.le_of_ble_eq_true rfl) rfl (fun E hR => ?_) l D cy ad
  unfold wX11_comesBack at h
  refine g_iconst dX11_comesBack_0 0 rfl (by decide) ?_
  refine g_istore_n (lv' := [(2, vI 0), (0, vR 300), (1, vI l1)]) dX11_comesBack_1 (by decide) rfl ?_
  refine g_lv (lv' := [(0, vR 300), (1, vI l1), (2, vI 0)]) [1, 2, 0] rfl ?_
  exact eX11_comesBack_2 hR h
def wX11_goParts_60 (K13 : (Int × Int × Int × Int × Int) → Mem → Prop) (Q : Int → Mem → Prop) (l1 : Int) (l2 : Int) (l3 : Int) (l4 : Int) (l5 : Int) (l6 : Int) (σ : Mem) : Prop := (∀ m1 : Mem, m1 = up2 σ 300 17 (max (σ 300 17) (σ 300 13)) → (wX11_goOnWay l6 m1 (fun m2 => (∀ x3 : Int, x3 = w32 (l5 - l6) → (∀ m4 : Mem, m4 = up2 m2 300 16 (w32 ((m2 300 16) + 1)) → K13 (l1, l2, l3, l4, x3) m4)))))
def wX11_goParts_101 (Q : Int → Mem → Prop) (l3 : Int) (l5 : Int) (σ : Mem) : Prop := Q (w32 (l3 - l5)) σ
def wX11_goParts_13 (K13 : (Int × Int × Int × Int × Int) → Mem → Prop) (Q : Int → Mem → Prop) (l1 : Int) (l2 : Int) (l3 : Int) (l4 : Int) (l5 : Int) (σ : Mem) : Prop := ((l5 ≤ 0 → wX11_goParts_101 Q l3 l5 σ) ∧ (¬ l5 ≤ 0 → (wX11_findWay l1 l2 1 σ (fun y2 m1 => ((y2 = 0 → wX11_goParts_101 Q l3 l5 m1) ∧ (¬ y2 = 0 → (wX11_leastRoom  m1 (fun y4 m3 => (∀ x5 : Int, x5 = min l5 y4 → ((l4 = 0 → wX11_goParts_60 K13 Q l1 l2 l3 l4 l5 x5 m3) ∧ (¬ l4 = 0 → (wX11_tell (m3 300 13) m3 (fun m6 => (wX11_tell x5 m6 (fun m7 => wX11_goParts_60 K13 Q l1 l2 l3 l4 l5 x5 m7)))))))))))))))
def wLX11_goParts_13 (Q : Int → Mem → Prop) (l1 : Int) (l2 : Int) (l3 : Int) (l4 : Int) (l5 : Int) (σ : Mem) : Prop := ∃ n, lp (fun (K13 : (Int × Int × Int × Int × Int) → Mem → Prop) (x : Int × Int × Int × Int × Int) (σ : Mem) => wX11_goParts_13 K13 Q x.1 x.2.1 x.2.2.1 x.2.2.2.1 x.2.2.2.2 σ) n (l1, l2, l3, l4, l5) σ
def wX11_goParts (l1 : Int) (l2 : Int) (l3 : Int) (l4 : Int) (σ : Mem) (Q : Int → Mem → Prop) : Prop := (∀ m1 : Mem, m1 = up2 σ 300 16 0 → (∀ m2 : Mem, m2 = up2 m1 300 17 0 → wLX11_goParts_13 Q l1 l2 l3 l4 l3 m2))
set_option maxHeartbeats 1000000 in
theorem bX11_goParts_60 {E : TE} {K13 : (Int × Int × Int × Int × Int) → Mem → Prop} (hK13 : ∀ (x : Int × Int × Int × Int × Int) (σ : Mem), K13 x σ → GW E cX11_goParts 7 RX11 6 143 σ 13 [(0, vR 300), (1, vI x.1), (2, vI x.2.1), (3, vI x.2.2.1), (4, vI x.2.2.2.1), (5, vI x.2.2.2.2)] []) {Q : Int → Mem → Prop} (hR : RI E (some .int) Q) {l1 : Int} {l2 : Int} {l3 : Int} {l4 : Int} {l5 : Int} {l6 : Int} {σ : Mem} (h : wX11_goParts_60 K13 Q l1 l2 l3 l4 l5 l6 σ) : GW E cX11_goParts 7 RX11 6 143 σ 60 [(0, vR 300), (1, vI l1), (2, vI l2), (3, vI l3), (4, vI l4), (5, vI l5), (6, vI l6)] [] := by
  unfold wX11_goParts_60 at h
  refine g_aload_n dX11_goParts_60 rfl ?_
  refine g_aload_n dX11_goParts_61 rfl ?_
  refine g_getI fl_11_210 kd_300 rfl dX11_goParts_62 ?_
  refine g_aload_n dX11_goParts_65 rfl ?_
  refine g_getI fl_11_182 kd_300 rfl dX11_goParts_66 ?_
  refine g_mmax q_1262 q_519 q_107 q_mmax (by decide) (Nat.le_of_ble_eq_true rfl) dX11_goParts_69 ?_
  refine g_putI fp_11_210 kd_300 rfl dX11_goParts_72 ?_
  refine g_nm (fun m1 em1 => ?_)
  replace h := h m1 em1
  refine g_aload_n dX11_goParts_75 rfl ?_
  refine g_iload dX11_goParts_76 rfl ?_
  refine g_cVv (st := []) (av := [vI l6]) (kX11_goOnWay h) kd_300 rfl cw_RX11_216 (by decide) (by decide) (Nat.le_of_ble_eq_true rfl) rfl dX11_goParts_78 (fun m2 h => ?_)
  refine g_iload dX11_goParts_81 rfl ?_
  refine g_iload dX11_goParts_83 rfl ?_
  refine g_isub dX11_goParts_85 ?_
  refine g_topI (fun x3 ex3 => ?_)
  replace h := h x3 ex3
  refine g_istore (lv' := [(5, vI x3), (0, vR 300), (1, vI l1), (2, vI l2), (3, vI l3), (4, vI l4), (6, vI l6)]) dX11_goParts_86 (by decide) rfl ?_
  refine g_aload_n dX11_goParts_88 rfl ?_
  refine g_dup dX11_goParts_89 rfl ?_
  refine g_getI fl_11_207 kd_300 rfl dX11_goParts_90 ?_
  refine g_iconst dX11_goParts_93 1 rfl (by decide) ?_
  refine g_iadd dX11_goParts_94 ?_
  refine g_putI fp_11_207 kd_300 rfl dX11_goParts_95 ?_
  refine g_nm (fun m4 em4 => ?_)
  replace h := h m4 em4
  refine g_goto (tgt := 13) dX11_goParts_98 (by decide) ?_
  refine g_lv (lv' := [(0, vR 300), (1, vI l1), (2, vI l2), (3, vI l3), (4, vI l4), (5, vI x3)]) [1, 2, 3, 4, 5, 0] rfl ?_
  exact hK13 ((l1, l2, l3, l4, x3)) m4 h
set_option maxHeartbeats 1000000 in
theorem bX11_goParts_101 {E : TE} {Q : Int → Mem → Prop} (hR : RI E (some .int) Q) {l3 : Int} {l5 : Int} {σ : Mem} (h : wX11_goParts_101 Q l3 l5 σ) : GW E cX11_goParts 7 RX11 6 143 σ 101 [(3, vI l3), (5, vI l5)] [] := by
  unfold wX11_goParts_101 at h
  refine g_iload_n dX11_goParts_101 rfl ?_
  refine g_iload dX11_goParts_102 rfl ?_
  refine g_isub dX11_goParts_104 ?_
  exact g_iret hR dX11_goParts_105 h
set_option maxHeartbeats 1000000 in
theorem bX11_goParts_13 {E : TE} {K13 : (Int × Int × Int × Int × Int) → Mem → Prop} (hK13 : ∀ (x : Int × Int × Int × Int × Int) (σ : Mem), K13 x σ → GW E cX11_goParts 7 RX11 6 143 σ 13 [(0, vR 300), (1, vI x.1), (2, vI x.2.1), (3, vI x.2.2.1), (4, vI x.2.2.2.1), (5, vI x.2.2.2.2)] []) {Q : Int → Mem → Prop} (hR : RI E (some .int) Q) {l1 : Int} {l2 : Int} {l3 : Int} {l4 : Int} {l5 : Int} {σ : Mem} (h : wX11_goParts_13 K13 Q l1 l2 l3 l4 l5 σ) : GW E cX11_goParts 7 RX11 6 143 σ 13 [(0, vR 300), (1, vI l1), (2, vI l2), (3, vI l3), (4, vI l4), (5, vI l5)] [] := by
  unfold wX11_goParts_13 at h
  refine g_iload dX11_goParts_13 rfl ?_
  obtain ⟨hA, hB⟩ := h
  refine g_if_le (tgt := 101) dX11_goParts_15 (by decide) (fun hc => ?_) (fun hc => ?_)
  · replace h := hA hc
    refine g_lv (lv' := [(3, vI l3), (5, vI l5)]) [3, 5] rfl ?_
    exact bX11_goParts_101 hR h
  · replace h := hB hc
    refine g_aload_n dX11_goParts_18 rfl ?_
    refine g_iload_n dX11_goParts_19 rfl ?_
    refine g_iload_n dX11_goParts_20 rfl ?_
    refine g_iconst dX11_goParts_21 1 rfl (by decide) ?_
    refine g_cVi (st := []) (av := [vI l1, vI l2, vI 1]) (kX11_findWay h) kd_300 rfl cw_RX11_195 (by decide) (by decide) (Nat.le_of_ble_eq_true rfl) rfl dX11_goParts_22 (fun y2 m1 h => ?_)
    obtain ⟨hA, hB⟩ := h
    refine g_if_eq (tgt := 101) dX11_goParts_25 (by decide) (fun hc => ?_) (fun hc => ?_)
    · replace h := hA hc
      refine g_lv (lv' := [(3, vI l3), (5, vI l5)]) [3, 5] rfl ?_
      exact bX11_goParts_101 hR h
    · replace h := hB hc
      refine g_iload dX11_goParts_28 rfl ?_
      refine g_aload_n dX11_goParts_30 rfl ?_
      refine g_cVi (st := [vI l5]) (av := []) (kX11_leastRoom h) kd_300 rfl cw_RX11_213 (by decide) (by decide) (Nat.le_of_ble_eq_true rfl) rfl dX11_goParts_31 (fun y4 m3 h => ?_)
      refine g_mmin q_1389 q_641 q_107 q_mmin (by decide) (Nat.le_of_ble_eq_true rfl) dX11_goParts_34 ?_
      refine g_topI (fun x5 ex5 => ?_)
      replace h := h x5 ex5
      refine g_istore (lv' := [(6, vI x5), (0, vR 300), (1, vI l1), (2, vI l2), (3, vI l3), (4, vI l4), (5, vI l5)]) dX11_goParts_37 (by decide) rfl ?_
      refine g_iload dX11_goParts_39 rfl ?_
      obtain ⟨hA, hB⟩ := h
      refine g_if_eq (tgt := 60) dX11_goParts_41 (by decide) (fun hc => ?_) (fun hc => ?_)
      · replace h := hA hc
        refine g_lv (lv' := [(0, vR 300), (1, vI l1), (2, vI l2), (3, vI l3), (4, vI l4), (5, vI l5), (6, vI x5)]) [1, 2, 3, 4, 5, 6, 0] rfl ?_
        exact bX11_goParts_60 hK13 hR h
      · replace h := hB hc
        refine g_aload_n dX11_goParts_44 rfl ?_
        refine g_aload_n dX11_goParts_45 rfl ?_
        refine g_getI fl_11_182 kd_300 rfl dX11_goParts_46 ?_
        refine g_i2l dX11_goParts_49 ?_
        refine g_cVv (st := []) (av := [vL (m3 300 13)]) (kX11_tell h) kd_300 rfl cw_RX11_155 (by decide) (by decide) (Nat.le_of_ble_eq_true rfl) rfl dX11_goParts_50 (fun m6 h => ?_)
        refine g_aload_n dX11_goParts_53 rfl ?_
        refine g_iload dX11_goParts_54 rfl ?_
        refine g_i2l dX11_goParts_56 ?_
        refine g_cVv (st := []) (av := [vL x5]) (kX11_tell h) kd_300 rfl cw_RX11_155 (by decide) (by decide) (Nat.le_of_ble_eq_true rfl) rfl dX11_goParts_57 (fun m7 h => ?_)
        refine g_lv (lv' := [(0, vR 300), (1, vI l1), (2, vI l2), (3, vI l3), (4, vI l4), (5, vI l5), (6, vI x5)]) [1, 2, 3, 4, 5, 6, 0] rfl ?_
        exact bX11_goParts_60 hK13 hR h
theorem eX11_goParts_13 {E : TE} {Q : Int → Mem → Prop} (hR : RI E (some .int) Q) {l1 : Int} {l2 : Int} {l3 : Int} {l4 : Int} {l5 : Int} {σ : Mem} (h : wLX11_goParts_13 Q l1 l2 l3 l4 l5 σ) : GW E cX11_goParts 7 RX11 6 143 σ 13 [(0, vR 300), (1, vI l1), (2, vI l2), (3, vI l3), (4, vI l4), (5, vI l5)] [] := by
  obtain ⟨n, h⟩ := h
  exact lp_GW (P := fun (x : Int × Int × Int × Int × Int) (σ : Mem) => GW E cX11_goParts 7 RX11 6 143 σ 13 [(0, vR 300), (1, vI x.1), (2, vI x.2.1), (3, vI x.2.2.1), (4, vI x.2.2.2.1), (5, vI x.2.2.2.2)] []) (fun K hK x σ h  => bX11_goParts_13 hK hR h) n _ σ h 
set_option maxHeartbeats 1000000 in
theorem kX11_goParts {l1 : Int} {l2 : Int} {l3 : Int} {l4 : Int} {σ : Mem} {Q : Int → Mem → Prop} (h : wX11_goParts l1 l2 l3 l4 σ Q) (l : Launch) (D : va_G) (cy : Nat → ClassId) (ad : Nat → Nat) : MI l yX11_goParts cX11_goParts 7 (some .int) 6 143 D cy ad [vR 300, vI l1, vI l2, vI l3, vI l4] σ Q := by
  refine m_I (own := RX11) (lv := [(0, vR 300), (1, vI l1), (2, vI l2), (3, vI l3), (4, vI l4)]) (by decide +kernel) rfl (Nat.le_of_ble_eq_true rfl) rfl (fun E hR => ?_) l D cy ad
  unfold wX11_goParts at h
  refine g_aload_n dX11_goParts_0 rfl ?_
  refine g_iconst dX11_goParts_1 0 rfl (by decide) ?_
  refine g_putI fp_11_207 kd_300 rfl dX11_goParts_2 ?_
  refine g_nm (fun m1 em1 => ?_)
  replace h := h m1 em1
  refine g_aload_n dX11_goParts_5 rfl ?_
  refine g_iconst dX11_goParts_6 0 rfl (by decide) ?_
  refine g_putI fp_11_210 kd_300 rfl dX11_goParts_7 ?_
  refine g_nm (fun m2 em2 => ?_)
  replace h := h m2 em2
  refine g_iload_n dX11_goParts_10 rfl ?_
  refine g_istore (lv' := [(5, vI l3), (0, vR 300), (1, vI l1), (2, vI l2), (3, vI l3), (4, vI l4)]) dX11_goParts_11 (by decide) rfl ?_
  refine g_lv (lv' := [(0, vR 300), (1, vI l1), (2, vI l2), (3, vI l3), (4, vI l4), (5, vI l3)]) [1, 2, 3, 4, 5, 0] rfl ?_
  exact eX11_goParts_13 hR h
def wX11_mostOf (l1 : Int) (l2 : Int) (σ : Mem) (Q : Int → Mem → Prop) : Prop := (wX11_layAside 0 σ (fun m1 => (wX11_goParts l1 l2 2147483647 0 m1 (fun y3 m2 => (wX11_reached l1 1 m2 (fun y5 m4 => (∀ m6 : Mem, m6 = up2 m4 300 18 y5 → (wX11_comesBack 0 m6 (fun m7 => Q y3 m7)))))))))
set_option maxHeartbeats 1000000 in
theorem kX11_mostOf {l1 : Int} {l2 : Int} {σ : Mem} {Q : Int → Mem → Prop} (h : wX11_mostOf l1 l2 σ Q) (l : Launch) (D : va_G) (cy : Nat → ClassId) (ad : Nat → Nat) : MI l yX11_mostOf cX11_mostOf 4 (some .int) 7 169 D cy ad [vR 300, vI l1, vI l2] σ Q := by
  refine m_I (own := RX11) (lv := [(0, vR 300), (1, vI l1), (2, vI l2)]) (by decide +kernel) rfl (Nat.le_of_ble_eq_true rfl) rfl (fun E hR => ?_) l D cy ad
  unfold wX11_mostOf at h
  refine g_aload_n dX11_mostOf_0 rfl ?_
  refine g_iconst dX11_mostOf_1 0 rfl (by decide) ?_
  refine g_cVv (st := []) (av := [vI 0]) (kX11_layAside h) kd_300 rfl cw_RX11_219 (by decide) (by decide) (Nat.le_of_ble_eq_true rfl) rfl dX11_mostOf_2 (fun m1 h => ?_)
  refine g_aload_n dX11_mostOf_5 rfl ?_
  refine g_iload_n dX11_mostOf_6 rfl ?_
  refine g_iload_n dX11_mostOf_7 rfl ?_
  refine g_ldc dX11_mostOf_8 2147483647 q_1380 (by decide) ?_
  refine g_iconst dX11_mostOf_10 0 rfl (by decide) ?_
  refine g_cVi (st := []) (av := [vI l1, vI l2, vI 2147483647, vI 0]) (kX11_goParts h) kd_300 rfl cw_RX11_225 (by decide) (by decide) (Nat.le_of_ble_eq_true rfl) rfl dX11_mostOf_11 (fun y3 m2 h => ?_)
  refine g_istore_n (lv' := [(3, vI y3), (0, vR 300), (1, vI l1), (2, vI l2)]) dX11_mostOf_14 (by decide) rfl ?_
  refine g_aload_n dX11_mostOf_15 rfl ?_
  refine g_aload_n dX11_mostOf_16 rfl ?_
  refine g_iload_n dX11_mostOf_17 rfl ?_
  refine g_iconst dX11_mostOf_18 1 rfl (by decide) ?_
  refine g_cVi (st := [vR 300]) (av := [vI l1, vI 1]) (kX11_reached h) kd_300 rfl cw_RX11_201 (by decide) (by decide) (Nat.le_of_ble_eq_true rfl) rfl dX11_mostOf_19 (fun y5 m4 h => ?_)
  refine g_putI fp_11_229 kd_300 rfl dX11_mostOf_22 ?_
  refine g_nm (fun m6 em6 => ?_)
  replace h := h m6 em6
  refine g_aload_n dX11_mostOf_25 rfl ?_
  refine g_iconst dX11_mostOf_26 0 rfl (by decide) ?_
  refine g_cVv (st := []) (av := [vI 0]) (kX11_comesBack h) kd_300 rfl cw_RX11_232 (by decide) (by decide) (Nat.le_of_ble_eq_true rfl) rfl dX11_mostOf_27 (fun m7 h => ?_)
  refine g_iload_n dX11_mostOf_30 rfl ?_
  exact g_iret hR dX11_mostOf_31 h
def wX11_most (l1 : Int) (l2 : Int) (σ : Mem) (Q : Int → Mem → Prop) : Prop := (∀ m1 : Mem, m1 = up2 σ 300 5 0 → (wX11_areTwo l1 l2 m1 (fun y3 m2 => ((¬ y3 = 0 → (wX11_mostOf l1 l2 m2 (fun y5 m4 => (∀ m6 : Mem, m6 = up2 m4 300 4 0 → (wX11_tell (m6 300 18) m6 (fun m7 => (wX11_tell (m7 300 16) m7 (fun m8 => (wX11_tell (m8 300 17) m8 (fun m9 => Q y5 m9)))))))))) ∧ (y3 = 0 → Q ((-1)) m2)))))
set_option maxHeartbeats 1000000 in
theorem kX11_most {l1 : Int} {l2 : Int} {σ : Mem} {Q : Int → Mem → Prop} (h : wX11_most l1 l2 σ Q) (l : Launch) (D : va_G) (cy : Nat → ClassId) (ad : Nat → Nat) : MI l yX11_most cX11_most 4 (some .int) 8 192 D cy ad [vR 300, vI l1, vI l2] σ Q := by
  refine m_I (own := RX11) (lv := [(0, vR 300), (1, vI l1), (2, vI l2)]) (by decide +kernel) rfl (Nat.le_of_ble_eq_true rfl) rfl (fun E hR => ?_) l D cy ad
  unfold wX11_most at h
  refine g_aload_n dX11_most_0 rfl ?_
  refine g_iconst dX11_most_1 0 rfl (by decide) ?_
  refine g_putI fp_11_68 kd_300 rfl dX11_most_2 ?_
  refine g_nm (fun m1 em1 => ?_)
  replace h := h m1 em1
  refine g_aload_n dX11_most_5 rfl ?_
  refine g_iload_n dX11_most_6 rfl ?_
  refine g_iload_n dX11_most_7 rfl ?_
  refine g_cVi (st := []) (av := [vI l1, vI l2]) (kX11_areTwo h) kd_300 rfl cw_RX11_159 (by decide) (by decide) (Nat.le_of_ble_eq_true rfl) rfl dX11_most_8 (fun y3 m2 h => ?_)
  obtain ⟨hA, hB⟩ := h
  refine g_if_ne (tgt := 16) dX11_most_11 (by decide) (fun hc => ?_) (fun hc => ?_)
  · replace h := hA hc
    refine g_aload_n dX11_most_16 rfl ?_
    refine g_iload_n dX11_most_17 rfl ?_
    refine g_iload_n dX11_most_18 rfl ?_
    refine g_cVi (st := []) (av := [vI l1, vI l2]) (kX11_mostOf h) kd_300 rfl cw_RX11_235 (by decide) (by decide) (Nat.le_of_ble_eq_true rfl) rfl dX11_most_19 (fun y5 m4 h => ?_)
    refine g_istore_n (lv' := [(3, vI y5), (0, vR 300), (1, vI l1), (2, vI l2)]) dX11_most_22 (by decide) rfl ?_
    refine g_aload_n dX11_most_23 rfl ?_
    refine g_iconst dX11_most_24 0 rfl (by decide) ?_
    refine g_putI fp_11_71 kd_300 rfl dX11_most_25 ?_
    refine g_nm (fun m6 em6 => ?_)
    replace h := h m6 em6
    refine g_aload_n dX11_most_28 rfl ?_
    refine g_aload_n dX11_most_29 rfl ?_
    refine g_getI fl_11_229 kd_300 rfl dX11_most_30 ?_
    refine g_i2l dX11_most_33 ?_
    refine g_cVv (st := []) (av := [vL (m6 300 18)]) (kX11_tell h) kd_300 rfl cw_RX11_155 (by decide) (by decide) (Nat.le_of_ble_eq_true rfl) rfl dX11_most_34 (fun m7 h => ?_)
    refine g_aload_n dX11_most_37 rfl ?_
    refine g_aload_n dX11_most_38 rfl ?_
    refine g_getI fl_11_207 kd_300 rfl dX11_most_39 ?_
    refine g_i2l dX11_most_42 ?_
    refine g_cVv (st := []) (av := [vL (m7 300 16)]) (kX11_tell h) kd_300 rfl cw_RX11_155 (by decide) (by decide) (Nat.le_of_ble_eq_true rfl) rfl dX11_most_43 (fun m8 h => ?_)
    refine g_aload_n dX11_most_46 rfl ?_
    refine g_aload_n dX11_most_47 rfl ?_
    refine g_getI fl_11_210 kd_300 rfl dX11_most_48 ?_
    refine g_i2l dX11_most_51 ?_
    refine g_cVv (st := []) (av := [vL (m8 300 17)]) (kX11_tell h) kd_300 rfl cw_RX11_155 (by decide) (by decide) (Nat.le_of_ble_eq_true rfl) rfl dX11_most_52 (fun m9 h => ?_)
    refine g_iload_n dX11_most_55 rfl ?_
    exact g_iret hR dX11_most_56 h
  · replace h := hB hc
    refine g_iconst dX11_most_14 (-1) rfl (by decide) ?_
    exact g_iret hR dX11_most_15 h
def wX11_isOnRing_2 (K2 : (Int × Int × Int) → Mem → Prop) (Q : Int → Mem → Prop) (l1 : Int) (l2 : Int) (l3 : Int) (σ : Mem) : Prop := ((l2 ≤ l3 → Q 0 σ) ∧ (¬ l2 ≤ l3 → ((0 ≤ l3 ∧ l3 < 8) ∧ ((¬ σ 320 l3.toNat = l1 → (∀ x1 : Int, x1 = w32 (l3 + 1) → K2 (l1, l2, x1) σ)) ∧ (σ 320 l3.toNat = l1 → Q 1 σ)))))
def wLX11_isOnRing_2 (Q : Int → Mem → Prop) (l1 : Int) (l2 : Int) (l3 : Int) (σ : Mem) : Prop := ∃ n, lp (fun (K2 : (Int × Int × Int) → Mem → Prop) (x : Int × Int × Int) (σ : Mem) => wX11_isOnRing_2 K2 Q x.1 x.2.1 x.2.2 σ) n (l1, l2, l3) σ
def wX11_isOnRing (l1 : Int) (l2 : Int) (σ : Mem) (Q : Int → Mem → Prop) : Prop := wLX11_isOnRing_2 Q l1 l2 0 σ
set_option maxHeartbeats 1000000 in
theorem bX11_isOnRing_2 {E : TE} {K2 : (Int × Int × Int) → Mem → Prop} (hK2 : ∀ (x : Int × Int × Int) (σ : Mem), K2 x σ → GW E cX11_isOnRing 4 RX11 0 0 σ 2 [(0, vR 300), (1, vI x.1), (2, vI x.2.1), (3, vI x.2.2)] []) {Q : Int → Mem → Prop} (hR : RI E (some .boolean) Q) {l1 : Int} {l2 : Int} {l3 : Int} {σ : Mem} (h : wX11_isOnRing_2 K2 Q l1 l2 l3 σ) : GW E cX11_isOnRing 4 RX11 0 0 σ 2 [(0, vR 300), (1, vI l1), (2, vI l2), (3, vI l3)] [] := by
  unfold wX11_isOnRing_2 at h
  refine g_iload_n dX11_isOnRing_2 rfl ?_
  refine g_iload_n dX11_isOnRing_3 rfl ?_
  obtain ⟨hA, hB⟩ := h
  refine g_icmp_ge (tgt := 25) dX11_isOnRing_4 (by decide) (fun hc => ?_) (fun hc => ?_)
  · replace h := hA hc
    refine g_iconst dX11_isOnRing_25 0 rfl (by decide) ?_
    exact g_zret hR dX11_isOnRing_26 (by decide) h
  · replace h := hB hc
    refine g_aload_n dX11_isOnRing_7 rfl ?_
    refine g_getR (r := 320) fl_11_40 kd_300 rfl dX11_isOnRing_8 ?_
    refine g_iload_n dX11_isOnRing_11 rfl ?_
    obtain ⟨hin, h⟩ := h
    refine g_iald kd_320 hin dX11_isOnRing_12 ?_
    refine g_iload_n dX11_isOnRing_13 rfl ?_
    obtain ⟨hA, hB⟩ := h
    refine g_icmp_ne (tgt := 19) dX11_isOnRing_14 (by decide) (fun hc => ?_) (fun hc => ?_)
    · replace h := hA hc
      refine g_iinc (lv' := [(3, vI (w32 (l3 + 1))), (0, vR 300), (1, vI l1), (2, vI l2)]) dX11_isOnRing_19 rfl (by decide) rfl ?_
      refine g_loc (a := w32 (l3 + 1)) (i := 3) (lv := [(0, vR 300), (1, vI l1), (2, vI l2)]) (fun x1 ex1 => ?_)
      replace h := h x1 ex1
      refine g_goto (tgt := 2) dX11_isOnRing_22 (by decide) ?_
      refine g_lv (lv' := [(0, vR 300), (1, vI l1), (2, vI l2), (3, vI x1)]) [1, 2, 3, 0] rfl ?_
      exact hK2 ((l1, l2, x1)) σ h
    · replace h := hB hc
      refine g_iconst dX11_isOnRing_17 1 rfl (by decide) ?_
      exact g_zret hR dX11_isOnRing_18 (by decide) h
theorem eX11_isOnRing_2 {E : TE} {Q : Int → Mem → Prop} (hR : RI E (some .boolean) Q) {l1 : Int} {l2 : Int} {l3 : Int} {σ : Mem} (h : wLX11_isOnRing_2 Q l1 l2 l3 σ) : GW E cX11_isOnRing 4 RX11 0 0 σ 2 [(0, vR 300), (1, vI l1), (2, vI l2), (3, vI l3)] [] := by
  obtain ⟨n, h⟩ := h
  exact lp_GW (P := fun (x : Int × Int × Int) (σ : Mem) => GW E cX11_isOnRing 4 RX11 0 0 σ 2 [(0, vR 300), (1, vI x.1), (2, vI x.2.1), (3, vI x.2.2)] []) (fun K hK x σ h  => bX11_isOnRing_2 hK hR h) n _ σ h 
set_option maxHeartbeats 1000000 in
theorem kX11_isOnRing {l1 : Int} {l2 : Int} {σ : Mem} {Q : Int → Mem → Prop} (h : wX11_isOnRing l1 l2 σ Q) (l : Launch) (D : va_G) (cy : Nat → ClassId) (ad : Nat → Nat) : MI l yX11_isOnRing cX11_isOnRing 4 (some .boolean) 0 0 D cy ad [vR 300, vI l1, vI l2] σ Q := by
  refine m_I (own := RX11) (lv := [(0, vR 300), (1, vI l1), (2, vI l2)]) (by decide +kernel) rfl (Nat.le_of_ble_eq_true rfl) rfl (fun E hR => ?_) l D cy ad
  unfold wX11_isOnRing at h
  refine g_iconst dX11_isOnRing_0 0 rfl (by decide) ?_
  refine g_istore_n (lv' := [(3, vI 0), (0, vR 300), (1, vI l1), (2, vI l2)]) dX11_isOnRing_1 (by decide) rfl ?_
  refine g_lv (lv' := [(0, vR 300), (1, vI l1), (2, vI l2), (3, vI 0)]) [1, 2, 3, 0] rfl ?_
  exact eX11_isOnRing_2 hR h
def wX11_isRing_41 (R : Int → Int → Mem → (Int → Mem → Prop) → Prop) (K41 : (Int × Int × Int) → Mem → Prop) (Q : Int → Mem → Prop) (l1 : Int) (l2 : Int) (l3 : Int) (σ : Mem) : Prop := ((σ 301 0 ≤ l3 → Q 0 σ) ∧ (¬ σ 301 0 ≤ l3 → ((0 ≤ w32 (l1 - 1) ∧ w32 (l1 - 1) < 8) ∧ (wX11_owes (σ 320 (w32 (l1 - 1)).toNat) l3 σ (fun y2 m1 => ((y2 = 0 → (∀ x3 : Int, x3 = w32 (l3 + 1) → K41 (l1, l2, x3) m1)) ∧ (¬ y2 = 0 → (wX11_isOnRing l3 l1 m1 (fun y5 m4 => ((y5 = 0 → ((0 ≤ l1 ∧ l1 < 8) ∧ (∀ m6 : Mem, m6 = up2 m4 320 l1.toNat l3 → (R (w32 (l1 + 1)) l2 m6 (fun y8 m7 => ((y8 = 0 → (∀ x9 : Int, x9 = w32 (l3 + 1) → K41 (l1, l2, x9) m7)) ∧ (¬ y8 = 0 → Q 1 m7))))))) ∧ (¬ y5 = 0 → (∀ x10 : Int, x10 = w32 (l3 + 1) → K41 (l1, l2, x10) m4))))))))))))
def wLX11_isRing_41 (R : Int → Int → Mem → (Int → Mem → Prop) → Prop) (Q : Int → Mem → Prop) (l1 : Int) (l2 : Int) (l3 : Int) (σ : Mem) : Prop := ∃ n, lp (fun (K41 : (Int × Int × Int) → Mem → Prop) (x : Int × Int × Int) (σ : Mem) => wX11_isRing_41 R K41 Q x.1 x.2.1 x.2.2 σ) n (l1, l2, l3) σ
def wBX11_isRing (R : Int → Int → Mem → (Int → Mem → Prop) → Prop) (l1 : Int) (l2 : Int) (σ : Mem) (Q : Int → Mem → Prop) : Prop := ((¬ l1 = l2 → (∀ x1 : Int, x1 = w32 ((σ 320 0) + 1) → wLX11_isRing_41 R Q l1 l2 x1 σ)) ∧ (l1 = l2 → ((0 ≤ w32 (l2 - 1) ∧ w32 (l2 - 1) < 8) ∧ (wX11_owes (σ 320 (w32 (l2 - 1)).toNat) (σ 320 0) σ (fun y3 m2 => ((y3 ≤ 0 → Q 0 m2) ∧ (¬ y3 ≤ 0 → Q 1 m2)))))))
def wRX11_isRing : Nat → Int → Int → Mem → (Int → Mem → Prop) → Prop
  | 0, _, _, _, _ => False
  | d + 1, l1, l2, σ, Q => wBX11_isRing (wRX11_isRing d) l1 l2 σ Q
def wX11_isRing (l1 : Int) (l2 : Int) (σ : Mem) (Q : Int → Mem → Prop) : Prop := wRX11_isRing 10 l1 l2 σ Q
set_option maxHeartbeats 1000000 in
theorem bX11_isRing_41 {E : TE} {fr lo fr2 lo2 : Nat} (hfl : 2 ≤ fr ∧ 46 ≤ lo ∧ fr2 + 1 ≤ fr ∧ 8 + (4 + 11) + lo2 ≤ lo) {R : Int → Int → Mem → (Int → Mem → Prop) → Prop} (hRec : ∀ {l1 l2 : Int} {σ : Mem} {Q : Int → Mem → Prop}, R l1 l2 σ Q → ∀ (l : Launch) (D : va_G) (cy : Nat → ClassId) (ad : Nat → Nat), MI l yX11_isRing cX11_isRing 4 (some .boolean) fr2 lo2 D cy ad [vR 300, vI l1, vI l2] σ Q) {K41 : (Int × Int × Int) → Mem → Prop} (hK41 : ∀ (x : Int × Int × Int) (σ : Mem), K41 x σ → GW E cX11_isRing 4 RX11 fr lo σ 41 [(0, vR 300), (1, vI x.1), (2, vI x.2.1), (3, vI x.2.2)] []) {Q : Int → Mem → Prop} (hR : RI E (some .boolean) Q) {l1 : Int} {l2 : Int} {l3 : Int} {σ : Mem} (h : wX11_isRing_41 R K41 Q l1 l2 l3 σ) : GW E cX11_isRing 4 RX11 fr lo σ 41 [(0, vR 300), (1, vI l1), (2, vI l2), (3, vI l3)] [] := by
  unfold wX11_isRing_41 at h
  refine g_iload_n dX11_isRing_41 rfl ?_
  refine g_aload_n dX11_isRing_42 rfl ?_
  refine g_getR (r := 301) fl_11_9 kd_300 rfl dX11_isRing_43 ?_
  refine g_iconst dX11_isRing_46 0 rfl (by decide) ?_
  refine g_iald kd_301 (by decide) dX11_isRing_47 ?_
  obtain ⟨hA, hB⟩ := h
  refine g_icmp_ge (tgt := 105) dX11_isRing_48 (by decide) (fun hc => ?_) (fun hc => ?_)
  · replace h := hA hc
    refine g_iconst dX11_isRing_105 0 rfl (by decide) ?_
    exact g_zret hR dX11_isRing_106 (by decide) h
  · replace h := hB hc
    refine g_aload_n dX11_isRing_51 rfl ?_
    refine g_aload_n dX11_isRing_52 rfl ?_
    refine g_getR (r := 320) fl_11_40 kd_300 rfl dX11_isRing_53 ?_
    refine g_iload_n dX11_isRing_56 rfl ?_
    refine g_iconst dX11_isRing_57 1 rfl (by decide) ?_
    refine g_isub dX11_isRing_58 ?_
    obtain ⟨hin, h⟩ := h
    refine g_iald kd_320 hin dX11_isRing_59 ?_
    refine g_iload_n dX11_isRing_60 rfl ?_
    refine g_cVi (st := []) (av := [vI (σ 320 (w32 (l1 - 1)).toNat), vI l3]) (kX11_owes h) kd_300 rfl cw_RX11_141 (by omega) (by omega) (Nat.le_of_ble_eq_true rfl) rfl dX11_isRing_61 (fun y2 m1 h => ?_)
    obtain ⟨hA, hB⟩ := h
    refine g_if_eq (tgt := 99) dX11_isRing_64 (by decide) (fun hc => ?_) (fun hc => ?_)
    · replace h := hA hc
      refine g_iinc (lv' := [(3, vI (w32 (l3 + 1))), (0, vR 300), (1, vI l1), (2, vI l2)]) dX11_isRing_99 rfl (by decide) rfl ?_
      refine g_loc (a := w32 (l3 + 1)) (i := 3) (lv := [(0, vR 300), (1, vI l1), (2, vI l2)]) (fun x3 ex3 => ?_)
      replace h := h x3 ex3
      refine g_goto (tgt := 41) dX11_isRing_102 (by decide) ?_
      refine g_lv (lv' := [(0, vR 300), (1, vI l1), (2, vI l2), (3, vI x3)]) [1, 2, 3, 0] rfl ?_
      exact hK41 ((l1, l2, x3)) m1 h
    · replace h := hB hc
      refine g_aload_n dX11_isRing_67 rfl ?_
      refine g_iload_n dX11_isRing_68 rfl ?_
      refine g_iload_n dX11_isRing_69 rfl ?_
      refine g_cVi (st := []) (av := [vI l3, vI l1]) (kX11_isOnRing h) kd_300 rfl cw_RX11_238 (by omega) (by omega) (Nat.le_of_ble_eq_true rfl) rfl dX11_isRing_70 (fun y5 m4 h => ?_)
      obtain ⟨hA, hB⟩ := h
      refine g_if_eq (tgt := 79) dX11_isRing_73 (by decide) (fun hc => ?_) (fun hc => ?_)
      · replace h := hA hc
        refine g_aload_n dX11_isRing_79 rfl ?_
        refine g_getR (r := 320) fl_11_40 kd_300 rfl dX11_isRing_80 ?_
        refine g_iload_n dX11_isRing_83 rfl ?_
        refine g_iload_n dX11_isRing_84 rfl ?_
        obtain ⟨hin, h⟩ := h
        refine g_iast kd_320 hin dX11_isRing_85 ?_
        refine g_nm (fun m6 em6 => ?_)
        replace h := h m6 em6
        refine g_aload_n dX11_isRing_86 rfl ?_
        refine g_iload_n dX11_isRing_87 rfl ?_
        refine g_iconst dX11_isRing_88 1 rfl (by decide) ?_
        refine g_iadd dX11_isRing_89 ?_
        refine g_iload_n dX11_isRing_90 rfl ?_
        refine g_cVi (st := []) (av := [vI (w32 (l1 + 1)), vI l2]) (hRec h) kd_300 rfl cw_RX11_241 (by omega) (by omega) (Nat.le_of_ble_eq_true rfl) rfl dX11_isRing_91 (fun y8 m7 h => ?_)
        obtain ⟨hA, hB⟩ := h
        refine g_if_eq (tgt := 99) dX11_isRing_94 (by decide) (fun hc => ?_) (fun hc => ?_)
        · replace h := hA hc
          refine g_iinc (lv' := [(3, vI (w32 (l3 + 1))), (0, vR 300), (1, vI l1), (2, vI l2)]) dX11_isRing_99 rfl (by decide) rfl ?_
          refine g_loc (a := w32 (l3 + 1)) (i := 3) (lv := [(0, vR 300), (1, vI l1), (2, vI l2)]) (fun x9 ex9 => ?_)
          replace h := h x9 ex9
          refine g_goto (tgt := 41) dX11_isRing_102 (by decide) ?_
          refine g_lv (lv' := [(0, vR 300), (1, vI l1), (2, vI l2), (3, vI x9)]) [1, 2, 3, 0] rfl ?_
          exact hK41 ((l1, l2, x9)) m7 h
        · replace h := hB hc
          refine g_iconst dX11_isRing_97 1 rfl (by decide) ?_
          exact g_zret hR dX11_isRing_98 (by decide) h
      · replace h := hB hc
        refine g_goto (tgt := 99) dX11_isRing_76 (by decide) ?_
        refine g_iinc (lv' := [(3, vI (w32 (l3 + 1))), (0, vR 300), (1, vI l1), (2, vI l2)]) dX11_isRing_99 rfl (by decide) rfl ?_
        refine g_loc (a := w32 (l3 + 1)) (i := 3) (lv := [(0, vR 300), (1, vI l1), (2, vI l2)]) (fun x10 ex10 => ?_)
        replace h := h x10 ex10
        refine g_goto (tgt := 41) dX11_isRing_102 (by decide) ?_
        refine g_lv (lv' := [(0, vR 300), (1, vI l1), (2, vI l2), (3, vI x10)]) [1, 2, 3, 0] rfl ?_
        exact hK41 ((l1, l2, x10)) m4 h
theorem eX11_isRing_41 {E : TE} {fr lo fr2 lo2 : Nat} (hfl : 2 ≤ fr ∧ 46 ≤ lo ∧ fr2 + 1 ≤ fr ∧ 8 + (4 + 11) + lo2 ≤ lo) {R : Int → Int → Mem → (Int → Mem → Prop) → Prop} (hRec : ∀ {l1 l2 : Int} {σ : Mem} {Q : Int → Mem → Prop}, R l1 l2 σ Q → ∀ (l : Launch) (D : va_G) (cy : Nat → ClassId) (ad : Nat → Nat), MI l yX11_isRing cX11_isRing 4 (some .boolean) fr2 lo2 D cy ad [vR 300, vI l1, vI l2] σ Q) {Q : Int → Mem → Prop} (hR : RI E (some .boolean) Q) {l1 : Int} {l2 : Int} {l3 : Int} {σ : Mem} (h : wLX11_isRing_41 R Q l1 l2 l3 σ) : GW E cX11_isRing 4 RX11 fr lo σ 41 [(0, vR 300), (1, vI l1), (2, vI l2), (3, vI l3)] [] := by
  obtain ⟨n, h⟩ := h
  exact lp_GW (P := fun (x : Int × Int × Int) (σ : Mem) => GW E cX11_isRing 4 RX11 fr lo σ 41 [(0, vR 300), (1, vI x.1), (2, vI x.2.1), (3, vI x.2.2)] []) (fun K hK x σ h  => bX11_isRing_41 hfl hRec hK hR h) n _ σ h 
set_option maxHeartbeats 1000000 in
theorem kBX11_isRing {fr lo fr2 lo2 : Nat} (hfl : 2 ≤ fr ∧ 46 ≤ lo ∧ fr2 + 1 ≤ fr ∧ 8 + (4 + 11) + lo2 ≤ lo) {R : Int → Int → Mem → (Int → Mem → Prop) → Prop} (hRec : ∀ {l1 l2 : Int} {σ : Mem} {Q : Int → Mem → Prop}, R l1 l2 σ Q → ∀ (l : Launch) (D : va_G) (cy : Nat → ClassId) (ad : Nat → Nat), MI l yX11_isRing cX11_isRing 4 (some .boolean) fr2 lo2 D cy ad [vR 300, vI l1, vI l2] σ Q) {l1 : Int} {l2 : Int} {σ : Mem} {Q : Int → Mem → Prop} (h : wBX11_isRing R l1 l2 σ Q) (l : Launch) (D : va_G) (cy : Nat → ClassId) (ad : Nat → Nat) : MI l yX11_isRing cX11_isRing 4 (some .boolean) fr lo D cy ad [vR 300, vI l1, vI l2] σ Q := by
  refine m_I (own := RX11) (lv := [(0, vR 300), (1, vI l1), (2, vI l2)]) (by decide +kernel) rfl (Nat.le_of_ble_eq_true rfl) rfl (fun E hR => ?_) l D cy ad
  unfold wBX11_isRing at h
  refine g_iload_n dX11_isRing_0 rfl ?_
  refine g_iload_n dX11_isRing_1 rfl ?_
  obtain ⟨hA, hB⟩ := h
  refine g_icmp_ne (tgt := 32) dX11_isRing_2 (by decide) (fun hc => ?_) (fun hc => ?_)
  · replace h := hA hc
    refine g_aload_n dX11_isRing_32 rfl ?_
    refine g_getR (r := 320) fl_11_40 kd_300 rfl dX11_isRing_33 ?_
    refine g_iconst dX11_isRing_36 0 rfl (by decide) ?_
    refine g_iald kd_320 (by decide) dX11_isRing_37 ?_
    refine g_iconst dX11_isRing_38 1 rfl (by decide) ?_
    refine g_iadd dX11_isRing_39 ?_
    refine g_topI (fun x1 ex1 => ?_)
    replace h := h x1 ex1
    refine g_istore_n (lv' := [(3, vI x1), (0, vR 300), (1, vI l1), (2, vI l2)]) dX11_isRing_40 (by decide) rfl ?_
    refine g_lv (lv' := [(0, vR 300), (1, vI l1), (2, vI l2), (3, vI x1)]) [1, 2, 3, 0] rfl ?_
    exact eX11_isRing_41 hfl hRec hR h
  · replace h := hB hc
    refine g_aload_n dX11_isRing_5 rfl ?_
    refine g_aload_n dX11_isRing_6 rfl ?_
    refine g_getR (r := 320) fl_11_40 kd_300 rfl dX11_isRing_7 ?_
    refine g_iload_n dX11_isRing_10 rfl ?_
    refine g_iconst dX11_isRing_11 1 rfl (by decide) ?_
    refine g_isub dX11_isRing_12 ?_
    obtain ⟨hin, h⟩ := h
    refine g_iald kd_320 hin dX11_isRing_13 ?_
    refine g_aload_n dX11_isRing_14 rfl ?_
    refine g_getR (r := 320) fl_11_40 kd_300 rfl dX11_isRing_15 ?_
    refine g_iconst dX11_isRing_18 0 rfl (by decide) ?_
    refine g_iald kd_320 (by decide) dX11_isRing_19 ?_
    refine g_cVi (st := []) (av := [vI (σ 320 (w32 (l2 - 1)).toNat), vI (σ 320 0)]) (kX11_owes h) kd_300 rfl cw_RX11_141 (by omega) (by omega) (Nat.le_of_ble_eq_true rfl) rfl dX11_isRing_20 (fun y3 m2 h => ?_)
    obtain ⟨hA, hB⟩ := h
    refine g_if_le (tgt := 30) dX11_isRing_23 (by decide) (fun hc => ?_) (fun hc => ?_)
    · replace h := hA hc
      refine g_iconst dX11_isRing_30 0 rfl (by decide) ?_
      exact g_zret hR dX11_isRing_31 (by decide) h
    · replace h := hB hc
      refine g_iconst dX11_isRing_26 1 rfl (by decide) ?_
      refine g_goto (tgt := 31) dX11_isRing_27 (by decide) ?_
      exact g_zret hR dX11_isRing_31 (by decide) h
theorem kRX11_isRing : ∀ (d : Nat) {l1 l2 : Int} {σ : Mem} {Q : Int → Mem → Prop}, wRX11_isRing d l1 l2 σ Q → ∀ (l : Launch) (D : va_G) (cy : Nat → ClassId) (ad : Nat → Nat), MI l yX11_isRing cX11_isRing 4 (some .boolean) (2 + d) (46 + d * 23) D cy ad [vR 300, vI l1, vI l2] σ Q
  | 0, _, _, _, _, h => h.elim
  | d + 1, _, _, _, _, h => kBX11_isRing (R := wRX11_isRing d) (fr2 := 2 + d) (lo2 := 46 + d * 23) ⟨by omega, by omega, by omega, by omega⟩ (fun h => kRX11_isRing d h) h
theorem kX11_isRing {l1 l2 : Int} {σ : Mem} {Q : Int → Mem → Prop} (h : wX11_isRing l1 l2 σ Q) (l : Launch) (D : va_G) (cy : Nat → ClassId) (ad : Nat → Nat) : MI l yX11_isRing cX11_isRing 4 (some .boolean) 12 276 D cy ad [vR 300, vI l1, vI l2] σ Q := kRX11_isRing 10 h l D cy ad
def wX11_findRing_14 (K2 : Int → Mem → Prop) (K14 : (Int × Int) → Mem → Prop) (Q : Int → Mem → Prop) (l1 : Int) (l2 : Int) (σ : Mem) : Prop := ((σ 301 0 ≤ l2 → (∀ x1 : Int, x1 = w32 (l1 + 1) → K2 x1 σ)) ∧ (¬ σ 301 0 ≤ l2 → (∀ m2 : Mem, m2 = up2 σ 320 0 l2 → (wX11_isRing 1 l1 m2 (fun y4 m3 => ((y4 = 0 → (∀ x5 : Int, x5 = w32 (l2 + 1) → K14 (l1, x5) m3)) ∧ (¬ y4 = 0 → Q l1 m3)))))))
def wLX11_findRing_14 (K2 : Int → Mem → Prop) (Q : Int → Mem → Prop) (l1 : Int) (l2 : Int) (σ : Mem) : Prop := ∃ n, lp (fun (K14 : (Int × Int) → Mem → Prop) (x : Int × Int) (σ : Mem) => wX11_findRing_14 K2 K14 Q x.1 x.2 σ) n (l1, l2) σ
def wX11_findRing_2 (K2 : Int → Mem → Prop) (Q : Int → Mem → Prop) (l1 : Int) (σ : Mem) : Prop := ((σ 301 0 < l1 → Q 0 σ) ∧ (¬ σ 301 0 < l1 → wLX11_findRing_14 K2 Q l1 0 σ))
def wLX11_findRing_2 (Q : Int → Mem → Prop) (l1 : Int) (σ : Mem) : Prop := ∃ n, lp (fun (K2 : Int → Mem → Prop) (x : Int) (σ : Mem) => wX11_findRing_2 K2 Q x σ) n l1 σ
def wX11_findRing (σ : Mem) (Q : Int → Mem → Prop) : Prop := wLX11_findRing_2 Q 3 σ
set_option maxHeartbeats 1000000 in
theorem bX11_findRing_14 {E : TE} {K2 : Int → Mem → Prop} {K14 : (Int × Int) → Mem → Prop} (hK2 : ∀ (x : Int) (σ : Mem), K2 x σ → GW E cX11_findRing 3 RX11 13 299 σ 2 [(0, vR 300), (1, vI x)] []) (hK14 : ∀ (x : Int × Int) (σ : Mem), K14 x σ → GW E cX11_findRing 3 RX11 13 299 σ 14 [(0, vR 300), (1, vI x.1), (2, vI x.2)] []) {Q : Int → Mem → Prop} (hR : RI E (some .int) Q) {l1 : Int} {l2 : Int} {σ : Mem} (h : wX11_findRing_14 K2 K14 Q l1 l2 σ) : GW E cX11_findRing 3 RX11 13 299 σ 14 [(0, vR 300), (1, vI l1), (2, vI l2)] [] := by
  unfold wX11_findRing_14 at h
  refine g_iload_n dX11_findRing_14 rfl ?_
  refine g_aload_n dX11_findRing_15 rfl ?_
  refine g_getR (r := 301) fl_11_9 kd_300 rfl dX11_findRing_16 ?_
  refine g_iconst dX11_findRing_19 0 rfl (by decide) ?_
  refine g_iald kd_301 (by decide) dX11_findRing_20 ?_
  obtain ⟨hA, hB⟩ := h
  refine g_icmp_ge (tgt := 48) dX11_findRing_21 (by decide) (fun hc => ?_) (fun hc => ?_)
  · replace h := hA hc
    refine g_iinc (lv' := [(1, vI (w32 (l1 + 1))), (0, vR 300), (2, vI l2)]) dX11_findRing_48 rfl (by decide) rfl ?_
    refine g_loc (a := w32 (l1 + 1)) (i := 1) (lv := [(0, vR 300), (2, vI l2)]) (fun x1 ex1 => ?_)
    replace h := h x1 ex1
    refine g_goto (tgt := 2) dX11_findRing_51 (by decide) ?_
    refine g_lv (lv' := [(0, vR 300), (1, vI x1)]) [1, 0] rfl ?_
    exact hK2 x1 σ h
  · replace h := hB hc
    refine g_aload_n dX11_findRing_24 rfl ?_
    refine g_getR (r := 320) fl_11_40 kd_300 rfl dX11_findRing_25 ?_
    refine g_iconst dX11_findRing_28 0 rfl (by decide) ?_
    refine g_iload_n dX11_findRing_29 rfl ?_
    refine g_iast kd_320 (by decide) dX11_findRing_30 ?_
    refine g_nm (fun m2 em2 => ?_)
    replace h := h m2 em2
    refine g_aload_n dX11_findRing_31 rfl ?_
    refine g_iconst dX11_findRing_32 1 rfl (by decide) ?_
    refine g_iload_n dX11_findRing_33 rfl ?_
    refine g_cVi (st := []) (av := [vI 1, vI l1]) (kX11_isRing h) kd_300 rfl cw_RX11_241 (by decide) (by decide) (Nat.le_of_ble_eq_true rfl) rfl dX11_findRing_34 (fun y4 m3 h => ?_)
    obtain ⟨hA, hB⟩ := h
    refine g_if_eq (tgt := 42) dX11_findRing_37 (by decide) (fun hc => ?_) (fun hc => ?_)
    · replace h := hA hc
      refine g_iinc (lv' := [(2, vI (w32 (l2 + 1))), (0, vR 300), (1, vI l1)]) dX11_findRing_42 rfl (by decide) rfl ?_
      refine g_loc (a := w32 (l2 + 1)) (i := 2) (lv := [(0, vR 300), (1, vI l1)]) (fun x5 ex5 => ?_)
      replace h := h x5 ex5
      refine g_goto (tgt := 14) dX11_findRing_45 (by decide) ?_
      refine g_lv (lv' := [(0, vR 300), (1, vI l1), (2, vI x5)]) [1, 2, 0] rfl ?_
      exact hK14 ((l1, x5)) m3 h
    · replace h := hB hc
      refine g_iload_n dX11_findRing_40 rfl ?_
      exact g_iret hR dX11_findRing_41 h
theorem eX11_findRing_14 {E : TE} {K2 : Int → Mem → Prop} (hK2 : ∀ (x : Int) (σ : Mem), K2 x σ → GW E cX11_findRing 3 RX11 13 299 σ 2 [(0, vR 300), (1, vI x)] []) {Q : Int → Mem → Prop} (hR : RI E (some .int) Q) {l1 : Int} {l2 : Int} {σ : Mem} (h : wLX11_findRing_14 K2 Q l1 l2 σ) : GW E cX11_findRing 3 RX11 13 299 σ 14 [(0, vR 300), (1, vI l1), (2, vI l2)] [] := by
  obtain ⟨n, h⟩ := h
  exact lp_GW (P := fun (x : Int × Int) (σ : Mem) => GW E cX11_findRing 3 RX11 13 299 σ 14 [(0, vR 300), (1, vI x.1), (2, vI x.2)] []) (fun K hK x σ h  => bX11_findRing_14 hK2 hK hR h) n _ σ h 
set_option maxHeartbeats 1000000 in
theorem bX11_findRing_2 {E : TE} {K2 : Int → Mem → Prop} (hK2 : ∀ (x : Int) (σ : Mem), K2 x σ → GW E cX11_findRing 3 RX11 13 299 σ 2 [(0, vR 300), (1, vI x)] []) {Q : Int → Mem → Prop} (hR : RI E (some .int) Q) {l1 : Int} {σ : Mem} (h : wX11_findRing_2 K2 Q l1 σ) : GW E cX11_findRing 3 RX11 13 299 σ 2 [(0, vR 300), (1, vI l1)] [] := by
  unfold wX11_findRing_2 at h
  refine g_iload_n dX11_findRing_2 rfl ?_
  refine g_aload_n dX11_findRing_3 rfl ?_
  refine g_getR (r := 301) fl_11_9 kd_300 rfl dX11_findRing_4 ?_
  refine g_iconst dX11_findRing_7 0 rfl (by decide) ?_
  refine g_iald kd_301 (by decide) dX11_findRing_8 ?_
  obtain ⟨hA, hB⟩ := h
  refine g_icmp_gt (tgt := 54) dX11_findRing_9 (by decide) (fun hc => ?_) (fun hc => ?_)
  · replace h := hA hc
    refine g_iconst dX11_findRing_54 0 rfl (by decide) ?_
    exact g_iret hR dX11_findRing_55 h
  · replace h := hB hc
    refine g_iconst dX11_findRing_12 0 rfl (by decide) ?_
    refine g_istore_n (lv' := [(2, vI 0), (0, vR 300), (1, vI l1)]) dX11_findRing_13 (by decide) rfl ?_
    refine g_lv (lv' := [(0, vR 300), (1, vI l1), (2, vI 0)]) [1, 2, 0] rfl ?_
    exact eX11_findRing_14 hK2 hR h
theorem eX11_findRing_2 {E : TE} {Q : Int → Mem → Prop} (hR : RI E (some .int) Q) {l1 : Int} {σ : Mem} (h : wLX11_findRing_2 Q l1 σ) : GW E cX11_findRing 3 RX11 13 299 σ 2 [(0, vR 300), (1, vI l1)] [] := by
  obtain ⟨n, h⟩ := h
  exact lp_GW (P := fun (x : Int) (σ : Mem) => GW E cX11_findRing 3 RX11 13 299 σ 2 [(0, vR 300), (1, vI x)] []) (fun K hK x σ h  => bX11_findRing_2 hK hR h) n _ σ h 
set_option maxHeartbeats 1000000 in
theorem kX11_findRing {σ : Mem} {Q : Int → Mem → Prop} (h : wX11_findRing σ Q) (l : Launch) (D : va_G) (cy : Nat → ClassId) (ad : Nat → Nat) : MI l yX11_findRing cX11_findRing 3 (some .int) 13 299 D cy ad [vR 300] σ Q := by
  refine m_I (own := RX11) (lv := [(0, vR 300)]) (by decide +kernel) rfl (Nat.le_of_ble_eq_true rfl) rfl (fun E hR => ?_) l D cy ad
  unfold wX11_findRing at h
  refine g_iconst dX11_findRing_0 3 rfl (by decide) ?_
  refine g_istore_n (lv' := [(1, vI 3), (0, vR 300)]) dX11_findRing_1 (by decide) rfl ?_
  refine g_lv (lv' := [(0, vR 300), (1, vI 3)]) [1, 0] rfl ?_
  exact eX11_findRing_2 hR h
def wX11_leastDebt_5 (K5 : (Int × Int × Int) → Mem → Prop) (Q : Int → Mem → Prop) (l1 : Int) (l2 : Int) (l3 : Int) (σ : Mem) : Prop := ((l1 ≤ l3 → Q l2 σ) ∧ (¬ l1 ≤ l3 → ((0 ≤ l3 ∧ l3 < 8) ∧ (l1 ≠ 0 ∧ ((0 ≤ brem (w32 (l3 + 1)) l1 ∧ brem (w32 (l3 + 1)) l1 < 8) ∧ (wX11_owes (σ 320 l3.toNat) (σ 320 (brem (w32 (l3 + 1)) l1).toNat) σ (fun y2 m1 => (∀ x3 : Int, x3 = min l2 y2 → (∀ x4 : Int, x4 = w32 (l3 + 1) → K5 (l1, x3, x4) m1)))))))))
def wLX11_leastDebt_5 (Q : Int → Mem → Prop) (l1 : Int) (l2 : Int) (l3 : Int) (σ : Mem) : Prop := ∃ n, lp (fun (K5 : (Int × Int × Int) → Mem → Prop) (x : Int × Int × Int) (σ : Mem) => wX11_leastDebt_5 K5 Q x.1 x.2.1 x.2.2 σ) n (l1, l2, l3) σ
def wX11_leastDebt (l1 : Int) (σ : Mem) (Q : Int → Mem → Prop) : Prop := wLX11_leastDebt_5 Q l1 2147483647 0 σ
set_option maxHeartbeats 1000000 in
theorem bX11_leastDebt_5 {E : TE} {K5 : (Int × Int × Int) → Mem → Prop} (hK5 : ∀ (x : Int × Int × Int) (σ : Mem), K5 x σ → GW E cX11_leastDebt 4 RX11 2 46 σ 5 [(0, vR 300), (1, vI x.1), (2, vI x.2.1), (3, vI x.2.2)] []) {Q : Int → Mem → Prop} (hR : RI E (some .int) Q) {l1 : Int} {l2 : Int} {l3 : Int} {σ : Mem} (h : wX11_leastDebt_5 K5 Q l1 l2 l3 σ) : GW E cX11_leastDebt 4 RX11 2 46 σ 5 [(0, vR 300), (1, vI l1), (2, vI l2), (3, vI l3)] [] := by
  unfold wX11_leastDebt_5 at h
  refine g_iload_n dX11_leastDebt_5 rfl ?_
  refine g_iload_n dX11_leastDebt_6 rfl ?_
  obtain ⟨hA, hB⟩ := h
  refine g_icmp_ge (tgt := 41) dX11_leastDebt_7 (by decide) (fun hc => ?_) (fun hc => ?_)
  · replace h := hA hc
    refine g_iload_n dX11_leastDebt_41 rfl ?_
    exact g_iret hR dX11_leastDebt_42 h
  · replace h := hB hc
    refine g_iload_n dX11_leastDebt_10 rfl ?_
    refine g_aload_n dX11_leastDebt_11 rfl ?_
    refine g_aload_n dX11_leastDebt_12 rfl ?_
    refine g_getR (r := 320) fl_11_40 kd_300 rfl dX11_leastDebt_13 ?_
    refine g_iload_n dX11_leastDebt_16 rfl ?_
    obtain ⟨hin, h⟩ := h
    refine g_iald kd_320 hin dX11_leastDebt_17 ?_
    refine g_aload_n dX11_leastDebt_18 rfl ?_
    refine g_getR (r := 320) fl_11_40 kd_300 rfl dX11_leastDebt_19 ?_
    refine g_iload_n dX11_leastDebt_22 rfl ?_
    refine g_iconst dX11_leastDebt_23 1 rfl (by decide) ?_
    refine g_iadd dX11_leastDebt_24 ?_
    refine g_iload_n dX11_leastDebt_25 rfl ?_
    obtain ⟨hne, h⟩ := h
    refine g_irem dX11_leastDebt_26 hne ?_
    obtain ⟨hin, h⟩ := h
    refine g_iald kd_320 hin dX11_leastDebt_27 ?_
    refine g_cVi (st := [vI l2]) (av := [vI (σ 320 l3.toNat), vI (σ 320 (brem (w32 (l3 + 1)) l1).toNat)]) (kX11_owes h) kd_300 rfl cw_RX11_141 (by decide) (by decide) (Nat.le_of_ble_eq_true rfl) rfl dX11_leastDebt_28 (fun y2 m1 h => ?_)
    refine g_mmin q_1389 q_641 q_107 q_mmin (by decide) (Nat.le_of_ble_eq_true rfl) dX11_leastDebt_31 ?_
    refine g_topI (fun x3 ex3 => ?_)
    replace h := h x3 ex3
    refine g_istore_n (lv' := [(2, vI x3), (0, vR 300), (1, vI l1), (3, vI l3)]) dX11_leastDebt_34 (by decide) rfl ?_
    refine g_iinc (lv' := [(3, vI (w32 (l3 + 1))), (2, vI x3), (0, vR 300), (1, vI l1)]) dX11_leastDebt_35 rfl (by decide) rfl ?_
    refine g_loc (a := w32 (l3 + 1)) (i := 3) (lv := [(2, vI x3), (0, vR 300), (1, vI l1)]) (fun x4 ex4 => ?_)
    replace h := h x4 ex4
    refine g_goto (tgt := 5) dX11_leastDebt_38 (by decide) ?_
    refine g_lv (lv' := [(0, vR 300), (1, vI l1), (2, vI x3), (3, vI x4)]) [2, 3, 1, 0] rfl ?_
    exact hK5 ((l1, x3, x4)) m1 h
theorem eX11_leastDebt_5 {E : TE} {Q : Int → Mem → Prop} (hR : RI E (some .int) Q) {l1 : Int} {l2 : Int} {l3 : Int} {σ : Mem} (h : wLX11_leastDebt_5 Q l1 l2 l3 σ) : GW E cX11_leastDebt 4 RX11 2 46 σ 5 [(0, vR 300), (1, vI l1), (2, vI l2), (3, vI l3)] [] := by
  obtain ⟨n, h⟩ := h
  exact lp_GW (P := fun (x : Int × Int × Int) (σ : Mem) => GW E cX11_leastDebt 4 RX11 2 46 σ 5 [(0, vR 300), (1, vI x.1), (2, vI x.2.1), (3, vI x.2.2)] []) (fun K hK x σ h  => bX11_leastDebt_5 hK hR h) n _ σ h 
set_option maxHeartbeats 1000000 in
theorem kX11_leastDebt {l1 : Int} {σ : Mem} {Q : Int → Mem → Prop} (h : wX11_leastDebt l1 σ Q) (l : Launch) (D : va_G) (cy : Nat → ClassId) (ad : Nat → Nat) : MI l yX11_leastDebt cX11_leastDebt 4 (some .int) 2 46 D cy ad [vR 300, vI l1] σ Q := by
  refine m_I (own := RX11) (lv := [(0, vR 300), (1, vI l1)]) (by decide +kernel) rfl (Nat.le_of_ble_eq_true rfl) rfl (fun E hR => ?_) l D cy ad
  unfold wX11_leastDebt at h
  refine g_ldc dX11_leastDebt_0 2147483647 q_1380 (by decide) ?_
  refine g_istore_n (lv' := [(2, vI 2147483647), (0, vR 300), (1, vI l1)]) dX11_leastDebt_2 (by decide) rfl ?_
  refine g_iconst dX11_leastDebt_3 0 rfl (by decide) ?_
  refine g_istore_n (lv' := [(3, vI 0), (2, vI 2147483647), (0, vR 300), (1, vI l1)]) dX11_leastDebt_4 (by decide) rfl ?_
  refine g_lv (lv' := [(0, vR 300), (1, vI l1), (2, vI 2147483647), (3, vI 0)]) [2, 3, 1, 0] rfl ?_
  exact eX11_leastDebt_5 hR h
def wX11_ring_24 (K24 : (Int × Int) → Mem → Prop) (Q : Int → Mem → Prop) (l1 : Int) (l2 : Int) (σ : Mem) : Prop := ((l1 ≤ l2 → (wX11_leastDebt l1 σ (fun y2 m1 => (wX11_tell y2 m1 (fun m3 => Q l1 m3))))) ∧ (¬ l1 ≤ l2 → ((0 ≤ l2 ∧ l2 < 8) ∧ (wX11_tell (σ 320 l2.toNat) σ (fun m4 => (∀ x5 : Int, x5 = w32 (l2 + 1) → K24 (l1, x5) m4))))))
def wLX11_ring_24 (Q : Int → Mem → Prop) (l1 : Int) (l2 : Int) (σ : Mem) : Prop := ∃ n, lp (fun (K24 : (Int × Int) → Mem → Prop) (x : Int × Int) (σ : Mem) => wX11_ring_24 K24 Q x.1 x.2 σ) n (l1, l2) σ
def wX11_ring (σ : Mem) (Q : Int → Mem → Prop) : Prop := (∀ m1 : Mem, m1 = up2 σ 300 5 0 → (wX11_findRing  m1 (fun y3 m2 => ((¬ y3 = 0 → (∀ m4 : Mem, m4 = up2 m2 300 4 0 → wLX11_ring_24 Q y3 0 m4)) ∧ (y3 = 0 → Q ((-2)) m2)))))
set_option maxHeartbeats 1000000 in
theorem bX11_ring_24 {E : TE} {K24 : (Int × Int) → Mem → Prop} (hK24 : ∀ (x : Int × Int) (σ : Mem), K24 x σ → GW E cX11_ring 3 RX11 14 321 σ 24 [(0, vR 300), (1, vI x.1), (2, vI x.2)] []) {Q : Int → Mem → Prop} (hR : RI E (some .int) Q) {l1 : Int} {l2 : Int} {σ : Mem} (h : wX11_ring_24 K24 Q l1 l2 σ) : GW E cX11_ring 3 RX11 14 321 σ 24 [(0, vR 300), (1, vI l1), (2, vI l2)] [] := by
  unfold wX11_ring_24 at h
  refine g_iload_n dX11_ring_24 rfl ?_
  refine g_iload_n dX11_ring_25 rfl ?_
  obtain ⟨hA, hB⟩ := h
  refine g_icmp_ge (tgt := 46) dX11_ring_26 (by decide) (fun hc => ?_) (fun hc => ?_)
  · replace h := hA hc
    refine g_aload_n dX11_ring_46 rfl ?_
    refine g_aload_n dX11_ring_47 rfl ?_
    refine g_iload_n dX11_ring_48 rfl ?_
    refine g_cVi (st := [vR 300]) (av := [vI l1]) (kX11_leastDebt h) kd_300 rfl cw_RX11_247 (by decide) (by decide) (Nat.le_of_ble_eq_true rfl) rfl dX11_ring_49 (fun y2 m1 h => ?_)
    refine g_i2l dX11_ring_52 ?_
    refine g_cVv (st := []) (av := [vL y2]) (kX11_tell h) kd_300 rfl cw_RX11_155 (by decide) (by decide) (Nat.le_of_ble_eq_true rfl) rfl dX11_ring_53 (fun m3 h => ?_)
    refine g_iload_n dX11_ring_56 rfl ?_
    exact g_iret hR dX11_ring_57 h
  · replace h := hB hc
    refine g_aload_n dX11_ring_29 rfl ?_
    refine g_aload_n dX11_ring_30 rfl ?_
    refine g_getR (r := 320) fl_11_40 kd_300 rfl dX11_ring_31 ?_
    refine g_iload_n dX11_ring_34 rfl ?_
    obtain ⟨hin, h⟩ := h
    refine g_iald kd_320 hin dX11_ring_35 ?_
    refine g_i2l dX11_ring_36 ?_
    refine g_cVv (st := []) (av := [vL (σ 320 l2.toNat)]) (kX11_tell h) kd_300 rfl cw_RX11_155 (by decide) (by decide) (Nat.le_of_ble_eq_true rfl) rfl dX11_ring_37 (fun m4 h => ?_)
    refine g_iinc (lv' := [(2, vI (w32 (l2 + 1))), (0, vR 300), (1, vI l1)]) dX11_ring_40 rfl (by decide) rfl ?_
    refine g_loc (a := w32 (l2 + 1)) (i := 2) (lv := [(0, vR 300), (1, vI l1)]) (fun x5 ex5 => ?_)
    replace h := h x5 ex5
    refine g_goto (tgt := 24) dX11_ring_43 (by decide) ?_
    refine g_lv (lv' := [(0, vR 300), (1, vI l1), (2, vI x5)]) [1, 2, 0] rfl ?_
    exact hK24 ((l1, x5)) m4 h
theorem eX11_ring_24 {E : TE} {Q : Int → Mem → Prop} (hR : RI E (some .int) Q) {l1 : Int} {l2 : Int} {σ : Mem} (h : wLX11_ring_24 Q l1 l2 σ) : GW E cX11_ring 3 RX11 14 321 σ 24 [(0, vR 300), (1, vI l1), (2, vI l2)] [] := by
  obtain ⟨n, h⟩ := h
  exact lp_GW (P := fun (x : Int × Int) (σ : Mem) => GW E cX11_ring 3 RX11 14 321 σ 24 [(0, vR 300), (1, vI x.1), (2, vI x.2)] []) (fun K hK x σ h  => bX11_ring_24 hK hR h) n _ σ h 
set_option maxHeartbeats 1000000 in
theorem kX11_ring {σ : Mem} {Q : Int → Mem → Prop} (h : wX11_ring σ Q) (l : Launch) (D : va_G) (cy : Nat → ClassId) (ad : Nat → Nat) : MI l yX11_ring cX11_ring 3 (some .int) 14 321 D cy ad [vR 300] σ Q := by
  refine m_I (own := RX11) (lv := [(0, vR 300)]) (by decide +kernel) rfl (Nat.le_of_ble_eq_true rfl) rfl (fun E hR => ?_) l D cy ad
  unfold wX11_ring at h
  refine g_aload_n dX11_ring_0 rfl ?_
  refine g_iconst dX11_ring_1 0 rfl (by decide) ?_
  refine g_putI fp_11_68 kd_300 rfl dX11_ring_2 ?_
  refine g_nm (fun m1 em1 => ?_)
  replace h := h m1 em1
  refine g_aload_n dX11_ring_5 rfl ?_
  refine g_cVi (st := []) (av := []) (kX11_findRing h) kd_300 rfl cw_RX11_244 (by decide) (by decide) (Nat.le_of_ble_eq_true rfl) rfl dX11_ring_6 (fun y3 m2 h => ?_)
  refine g_istore_n (lv' := [(1, vI y3), (0, vR 300)]) dX11_ring_9 (by decide) rfl ?_
  refine g_iload_n dX11_ring_10 rfl ?_
  obtain ⟨hA, hB⟩ := h
  refine g_if_ne (tgt := 17) dX11_ring_11 (by decide) (fun hc => ?_) (fun hc => ?_)
  · replace h := hA hc
    refine g_aload_n dX11_ring_17 rfl ?_
    refine g_iconst dX11_ring_18 0 rfl (by decide) ?_
    refine g_putI fp_11_71 kd_300 rfl dX11_ring_19 ?_
    refine g_nm (fun m4 em4 => ?_)
    replace h := h m4 em4
    refine g_iconst dX11_ring_22 0 rfl (by decide) ?_
    refine g_istore_n (lv' := [(2, vI 0), (1, vI y3), (0, vR 300)]) dX11_ring_23 (by decide) rfl ?_
    refine g_lv (lv' := [(0, vR 300), (1, vI y3), (2, vI 0)]) [2, 1, 0] rfl ?_
    exact eX11_ring_24 hR h
  · replace h := hB hc
    refine g_bipush dX11_ring_14 (-2) rfl (by decide) ?_
    exact g_iret hR dX11_ring_16 h
def wX11_goSettle_20 (K7 : (Int × Int) → Mem → Prop) (K20 : (Int × Int × Int × Int) → Mem → Prop) (Q : Int → Mem → Prop) (l1 : Int) (l2 : Int) (l3 : Int) (l4 : Int) (σ : Mem) : Prop := ((l2 ≤ l4 → (∀ x1 : Int, x1 = w32 (l1 + 1) → (wX11_findRing  σ (fun y3 m2 => K7 (x1, y3) m2)))) ∧ (¬ l2 ≤ l4 → (l2 ≠ 0 ∧ ((0 ≤ brem (w32 (l4 + 1)) l2 ∧ brem (w32 (l4 + 1)) l2 < 8) ∧ ((0 ≤ l4 ∧ l4 < 8) ∧ (wX11_straight (σ 320 (brem (w32 (l4 + 1)) l2).toNat) (σ 320 l4.toNat) l3 σ (fun m4 => (∀ x5 : Int, x5 = w32 (l4 + 1) → K20 (l1, l2, l3, x5) m4))))))))
def wLX11_goSettle_20 (K7 : (Int × Int) → Mem → Prop) (Q : Int → Mem → Prop) (l1 : Int) (l2 : Int) (l3 : Int) (l4 : Int) (σ : Mem) : Prop := ∃ n, lp (fun (K20 : (Int × Int × Int × Int) → Mem → Prop) (x : Int × Int × Int × Int) (σ : Mem) => wX11_goSettle_20 K7 K20 Q x.1 x.2.1 x.2.2.1 x.2.2.2 σ) n (l1, l2, l3, l4) σ
def wX11_goSettle_7 (K7 : (Int × Int) → Mem → Prop) (Q : Int → Mem → Prop) (l1 : Int) (l2 : Int) (σ : Mem) : Prop := ((l2 ≤ 0 → Q l1 σ) ∧ (¬ l2 ≤ 0 → (wX11_leastDebt l2 σ (fun y2 m1 => wLX11_goSettle_20 K7 Q l1 l2 y2 0 m1))))
def wLX11_goSettle_7 (Q : Int → Mem → Prop) (l1 : Int) (l2 : Int) (σ : Mem) : Prop := ∃ n, lp (fun (K7 : (Int × Int) → Mem → Prop) (x : Int × Int) (σ : Mem) => wX11_goSettle_7 K7 Q x.1 x.2 σ) n (l1, l2) σ
def wX11_goSettle (σ : Mem) (Q : Int → Mem → Prop) : Prop := (wX11_findRing  σ (fun y2 m1 => wLX11_goSettle_7 Q 0 y2 m1))
set_option maxHeartbeats 1000000 in
theorem bX11_goSettle_20 {E : TE} {K7 : (Int × Int) → Mem → Prop} {K20 : (Int × Int × Int × Int) → Mem → Prop} (hK7 : ∀ (x : Int × Int) (σ : Mem), K7 x σ → GW E cX11_goSettle 5 RX11 14 321 σ 7 [(0, vR 300), (1, vI x.1), (2, vI x.2)] []) (hK20 : ∀ (x : Int × Int × Int × Int) (σ : Mem), K20 x σ → GW E cX11_goSettle 5 RX11 14 321 σ 20 [(0, vR 300), (1, vI x.1), (2, vI x.2.1), (3, vI x.2.2.1), (4, vI x.2.2.2)] []) {Q : Int → Mem → Prop} (hR : RI E (some .int) Q) {l1 : Int} {l2 : Int} {l3 : Int} {l4 : Int} {σ : Mem} (h : wX11_goSettle_20 K7 K20 Q l1 l2 l3 l4 σ) : GW E cX11_goSettle 5 RX11 14 321 σ 20 [(0, vR 300), (1, vI l1), (2, vI l2), (3, vI l3), (4, vI l4)] [] := by
  unfold wX11_goSettle_20 at h
  refine g_iload dX11_goSettle_20 rfl ?_
  refine g_iload_n dX11_goSettle_22 rfl ?_
  obtain ⟨hA, hB⟩ := h
  refine g_icmp_ge (tgt := 55) dX11_goSettle_23 (by decide) (fun hc => ?_) (fun hc => ?_)
  · replace h := hA hc
    refine g_iinc (lv' := [(1, vI (w32 (l1 + 1))), (0, vR 300), (2, vI l2), (3, vI l3), (4, vI l4)]) dX11_goSettle_55 rfl (by decide) rfl ?_
    refine g_loc (a := w32 (l1 + 1)) (i := 1) (lv := [(0, vR 300), (2, vI l2), (3, vI l3), (4, vI l4)]) (fun x1 ex1 => ?_)
    replace h := h x1 ex1
    refine g_aload_n dX11_goSettle_58 rfl ?_
    refine g_cVi (st := []) (av := []) (kX11_findRing h) kd_300 rfl cw_RX11_244 (by decide) (by decide) (Nat.le_of_ble_eq_true rfl) rfl dX11_goSettle_59 (fun y3 m2 h => ?_)
    refine g_istore_n (lv' := [(2, vI y3), (1, vI x1), (0, vR 300), (3, vI l3), (4, vI l4)]) dX11_goSettle_62 (by decide) rfl ?_
    refine g_goto (tgt := 7) dX11_goSettle_63 (by decide) ?_
    refine g_lv (lv' := [(0, vR 300), (1, vI x1), (2, vI y3)]) [2, 1, 0] rfl ?_
    exact hK7 ((x1, y3)) m2 h
  · replace h := hB hc
    refine g_aload_n dX11_goSettle_26 rfl ?_
    refine g_aload_n dX11_goSettle_27 rfl ?_
    refine g_getR (r := 320) fl_11_40 kd_300 rfl dX11_goSettle_28 ?_
    refine g_iload dX11_goSettle_31 rfl ?_
    refine g_iconst dX11_goSettle_33 1 rfl (by decide) ?_
    refine g_iadd dX11_goSettle_34 ?_
    refine g_iload_n dX11_goSettle_35 rfl ?_
    obtain ⟨hne, h⟩ := h
    refine g_irem dX11_goSettle_36 hne ?_
    obtain ⟨hin, h⟩ := h
    refine g_iald kd_320 hin dX11_goSettle_37 ?_
    refine g_aload_n dX11_goSettle_38 rfl ?_
    refine g_getR (r := 320) fl_11_40 kd_300 rfl dX11_goSettle_39 ?_
    refine g_iload dX11_goSettle_42 rfl ?_
    obtain ⟨hin, h⟩ := h
    refine g_iald kd_320 hin dX11_goSettle_44 ?_
    refine g_iload_n dX11_goSettle_45 rfl ?_
    refine g_cVv (st := []) (av := [vI (σ 320 (brem (w32 (l4 + 1)) l2).toNat), vI (σ 320 l4.toNat), vI l3]) (kX11_straight h) kd_300 rfl cw_RX11_188 (by decide) (by decide) (Nat.le_of_ble_eq_true rfl) rfl dX11_goSettle_46 (fun m4 h => ?_)
    refine g_iinc (lv' := [(4, vI (w32 (l4 + 1))), (0, vR 300), (1, vI l1), (2, vI l2), (3, vI l3)]) dX11_goSettle_49 rfl (by decide) rfl ?_
    refine g_loc (a := w32 (l4 + 1)) (i := 4) (lv := [(0, vR 300), (1, vI l1), (2, vI l2), (3, vI l3)]) (fun x5 ex5 => ?_)
    replace h := h x5 ex5
    refine g_goto (tgt := 20) dX11_goSettle_52 (by decide) ?_
    refine g_lv (lv' := [(0, vR 300), (1, vI l1), (2, vI l2), (3, vI l3), (4, vI x5)]) [1, 2, 3, 4, 0] rfl ?_
    exact hK20 ((l1, l2, l3, x5)) m4 h
theorem eX11_goSettle_20 {E : TE} {K7 : (Int × Int) → Mem → Prop} (hK7 : ∀ (x : Int × Int) (σ : Mem), K7 x σ → GW E cX11_goSettle 5 RX11 14 321 σ 7 [(0, vR 300), (1, vI x.1), (2, vI x.2)] []) {Q : Int → Mem → Prop} (hR : RI E (some .int) Q) {l1 : Int} {l2 : Int} {l3 : Int} {l4 : Int} {σ : Mem} (h : wLX11_goSettle_20 K7 Q l1 l2 l3 l4 σ) : GW E cX11_goSettle 5 RX11 14 321 σ 20 [(0, vR 300), (1, vI l1), (2, vI l2), (3, vI l3), (4, vI l4)] [] := by
  obtain ⟨n, h⟩ := h
  exact lp_GW (P := fun (x : Int × Int × Int × Int) (σ : Mem) => GW E cX11_goSettle 5 RX11 14 321 σ 20 [(0, vR 300), (1, vI x.1), (2, vI x.2.1), (3, vI x.2.2.1), (4, vI x.2.2.2)] []) (fun K hK x σ h  => bX11_goSettle_20 hK7 hK hR h) n _ σ h 
set_option maxHeartbeats 1000000 in
theorem bX11_goSettle_7 {E : TE} {K7 : (Int × Int) → Mem → Prop} (hK7 : ∀ (x : Int × Int) (σ : Mem), K7 x σ → GW E cX11_goSettle 5 RX11 14 321 σ 7 [(0, vR 300), (1, vI x.1), (2, vI x.2)] []) {Q : Int → Mem → Prop} (hR : RI E (some .int) Q) {l1 : Int} {l2 : Int} {σ : Mem} (h : wX11_goSettle_7 K7 Q l1 l2 σ) : GW E cX11_goSettle 5 RX11 14 321 σ 7 [(0, vR 300), (1, vI l1), (2, vI l2)] [] := by
  unfold wX11_goSettle_7 at h
  refine g_iload_n dX11_goSettle_7 rfl ?_
  obtain ⟨hA, hB⟩ := h
  refine g_if_le (tgt := 66) dX11_goSettle_8 (by decide) (fun hc => ?_) (fun hc => ?_)
  · replace h := hA hc
    refine g_iload_n dX11_goSettle_66 rfl ?_
    exact g_iret hR dX11_goSettle_67 h
  · replace h := hB hc
    refine g_aload_n dX11_goSettle_11 rfl ?_
    refine g_iload_n dX11_goSettle_12 rfl ?_
    refine g_cVi (st := []) (av := [vI l2]) (kX11_leastDebt h) kd_300 rfl cw_RX11_247 (by decide) (by decide) (Nat.le_of_ble_eq_true rfl) rfl dX11_goSettle_13 (fun y2 m1 h => ?_)
    refine g_istore_n (lv' := [(3, vI y2), (0, vR 300), (1, vI l1), (2, vI l2)]) dX11_goSettle_16 (by decide) rfl ?_
    refine g_iconst dX11_goSettle_17 0 rfl (by decide) ?_
    refine g_istore (lv' := [(4, vI 0), (3, vI y2), (0, vR 300), (1, vI l1), (2, vI l2)]) dX11_goSettle_18 (by decide) rfl ?_
    refine g_lv (lv' := [(0, vR 300), (1, vI l1), (2, vI l2), (3, vI y2), (4, vI 0)]) [2, 3, 4, 1, 0] rfl ?_
    exact eX11_goSettle_20 hK7 hR h
theorem eX11_goSettle_7 {E : TE} {Q : Int → Mem → Prop} (hR : RI E (some .int) Q) {l1 : Int} {l2 : Int} {σ : Mem} (h : wLX11_goSettle_7 Q l1 l2 σ) : GW E cX11_goSettle 5 RX11 14 321 σ 7 [(0, vR 300), (1, vI l1), (2, vI l2)] [] := by
  obtain ⟨n, h⟩ := h
  exact lp_GW (P := fun (x : Int × Int) (σ : Mem) => GW E cX11_goSettle 5 RX11 14 321 σ 7 [(0, vR 300), (1, vI x.1), (2, vI x.2)] []) (fun K hK x σ h  => bX11_goSettle_7 hK hR h) n _ σ h 
set_option maxHeartbeats 1000000 in
theorem kX11_goSettle {σ : Mem} {Q : Int → Mem → Prop} (h : wX11_goSettle σ Q) (l : Launch) (D : va_G) (cy : Nat → ClassId) (ad : Nat → Nat) : MI l yX11_goSettle cX11_goSettle 5 (some .int) 14 321 D cy ad [vR 300] σ Q := by
  refine m_I (own := RX11) (lv := [(0, vR 300)]) (by decide +kernel) rfl (Nat.le_of_ble_eq_true rfl) rfl (fun E hR => ?_) l D cy ad
  unfold wX11_goSettle at h
  refine g_iconst dX11_goSettle_0 0 rfl (by decide) ?_
  refine g_istore_n (lv' := [(1, vI 0), (0, vR 300)]) dX11_goSettle_1 (by decide) rfl ?_
  refine g_aload_n dX11_goSettle_2 rfl ?_
  refine g_cVi (st := []) (av := []) (kX11_findRing h) kd_300 rfl cw_RX11_244 (by decide) (by decide) (Nat.le_of_ble_eq_true rfl) rfl dX11_goSettle_3 (fun y2 m1 h => ?_)
  refine g_istore_n (lv' := [(2, vI y2), (1, vI 0), (0, vR 300)]) dX11_goSettle_6 (by decide) rfl ?_
  refine g_lv (lv' := [(0, vR 300), (1, vI 0), (2, vI y2)]) [2, 1, 0] rfl ?_
  exact eX11_goSettle_7 hR h
def wX11_rings (σ : Mem) (Q : Int → Mem → Prop) : Prop := (∀ m1 : Mem, m1 = up2 σ 300 5 0 → (wX11_layAside 0 m1 (fun m2 => (wX11_goSettle  m2 (fun y4 m3 => (∀ m5 : Mem, m5 = up2 m3 300 4 0 → (wX11_allDebts  m5 (fun y7 m6 => (wX11_tell y7 m6 (fun m8 => (wX11_comesBack 0 m8 (fun m9 => Q y4 m9))))))))))))
set_option maxHeartbeats 1000000 in
theorem kX11_rings {σ : Mem} {Q : Int → Mem → Prop} (h : wX11_rings σ Q) (l : Launch) (D : va_G) (cy : Nat → ClassId) (ad : Nat → Nat) : MI l yX11_rings cX11_rings 2 (some .int) 15 345 D cy ad [vR 300] σ Q := by
  refine m_I (own := RX11) (lv := [(0, vR 300)]) (by decide +kernel) rfl (Nat.le_of_ble_eq_true rfl) rfl (fun E hR => ?_) l D cy ad
  unfold wX11_rings at h
  refine g_aload_n dX11_rings_0 rfl ?_
  refine g_iconst dX11_rings_1 0 rfl (by decide) ?_
  refine g_putI fp_11_68 kd_300 rfl dX11_rings_2 ?_
  refine g_nm (fun m1 em1 => ?_)
  replace h := h m1 em1
  refine g_aload_n dX11_rings_5 rfl ?_
  refine g_iconst dX11_rings_6 0 rfl (by decide) ?_
  refine g_cVv (st := []) (av := [vI 0]) (kX11_layAside h) kd_300 rfl cw_RX11_219 (by decide) (by decide) (Nat.le_of_ble_eq_true rfl) rfl dX11_rings_7 (fun m2 h => ?_)
  refine g_aload_n dX11_rings_10 rfl ?_
  refine g_cVi (st := []) (av := []) (kX11_goSettle h) kd_300 rfl cw_RX11_250 (by decide) (by decide) (Nat.le_of_ble_eq_true rfl) rfl dX11_rings_11 (fun y4 m3 h => ?_)
  refine g_istore_n (lv' := [(1, vI y4), (0, vR 300)]) dX11_rings_14 (by decide) rfl ?_
  refine g_aload_n dX11_rings_15 rfl ?_
  refine g_iconst dX11_rings_16 0 rfl (by decide) ?_
  refine g_putI fp_11_71 kd_300 rfl dX11_rings_17 ?_
  refine g_nm (fun m5 em5 => ?_)
  replace h := h m5 em5
  refine g_aload_n dX11_rings_20 rfl ?_
  refine g_aload_n dX11_rings_21 rfl ?_
  refine g_cVi (st := [vR 300]) (av := []) (kX11_allDebts h) kd_300 rfl cw_RX11_172 (by decide) (by decide) (Nat.le_of_ble_eq_true rfl) rfl dX11_rings_22 (fun y7 m6 h => ?_)
  refine g_i2l dX11_rings_25 ?_
  refine g_cVv (st := []) (av := [vL y7]) (kX11_tell h) kd_300 rfl cw_RX11_155 (by decide) (by decide) (Nat.le_of_ble_eq_true rfl) rfl dX11_rings_26 (fun m8 h => ?_)
  refine g_aload_n dX11_rings_29 rfl ?_
  refine g_iconst dX11_rings_30 0 rfl (by decide) ?_
  refine g_cVv (st := []) (av := [vI 0]) (kX11_comesBack h) kd_300 rfl cw_RX11_232 (by decide) (by decide) (Nat.le_of_ble_eq_true rfl) rfl dX11_rings_31 (fun m9 h => ?_)
  refine g_iload_n dX11_rings_34 rfl ?_
  exact g_iret hR dX11_rings_35 h
def wX11_goPay (l1 : Int) (l2 : Int) (l3 : Int) (σ : Mem) (Q : Int → Mem → Prop) : Prop := (wX11_layAside 1 σ (fun m1 => (wX11_goParts l1 l2 l3 0 m1 (fun y3 m2 => ((¬ y3 = l3 → (wX11_comesBack 1 m2 (fun m4 => Q 0 m4))) ∧ (y3 = l3 → Q 1 m2))))))
set_option maxHeartbeats 1000000 in
theorem kX11_goPay {l1 : Int} {l2 : Int} {l3 : Int} {σ : Mem} {Q : Int → Mem → Prop} (h : wX11_goPay l1 l2 l3 σ Q) (l : Launch) (D : va_G) (cy : Nat → ClassId) (ad : Nat → Nat) : MI l yX11_goPay cX11_goPay 4 (some .boolean) 7 169 D cy ad [vR 300, vI l1, vI l2, vI l3] σ Q := by
  refine m_I (own := RX11) (lv := [(0, vR 300), (1, vI l1), (2, vI l2), (3, vI l3)]) (by decide +kernel) rfl (Nat.le_of_ble_eq_true rfl) rfl (fun E hR => ?_) l D cy ad
  unfold wX11_goPay at h
  refine g_aload_n dX11_goPay_0 rfl ?_
  refine g_iconst dX11_goPay_1 1 rfl (by decide) ?_
  refine g_cVv (st := []) (av := [vI 1]) (kX11_layAside h) kd_300 rfl cw_RX11_219 (by decide) (by decide) (Nat.le_of_ble_eq_true rfl) rfl dX11_goPay_2 (fun m1 h => ?_)
  refine g_aload_n dX11_goPay_5 rfl ?_
  refine g_iload_n dX11_goPay_6 rfl ?_
  refine g_iload_n dX11_goPay_7 rfl ?_
  refine g_iload_n dX11_goPay_8 rfl ?_
  refine g_iconst dX11_goPay_9 0 rfl (by decide) ?_
  refine g_cVi (st := []) (av := [vI l1, vI l2, vI l3, vI 0]) (kX11_goParts h) kd_300 rfl cw_RX11_225 (by decide) (by decide) (Nat.le_of_ble_eq_true rfl) rfl dX11_goPay_10 (fun y3 m2 h => ?_)
  refine g_iload_n dX11_goPay_13 rfl ?_
  obtain ⟨hA, hB⟩ := h
  refine g_icmp_ne (tgt := 19) dX11_goPay_14 (by decide) (fun hc => ?_) (fun hc => ?_)
  · replace h := hA hc
    refine g_aload_n dX11_goPay_19 rfl ?_
    refine g_iconst dX11_goPay_20 1 rfl (by decide) ?_
    refine g_cVv (st := []) (av := [vI 1]) (kX11_comesBack h) kd_300 rfl cw_RX11_232 (by decide) (by decide) (Nat.le_of_ble_eq_true rfl) rfl dX11_goPay_21 (fun m4 h => ?_)
    refine g_iconst dX11_goPay_24 0 rfl (by decide) ?_
    exact g_zret hR dX11_goPay_25 (by decide) h
  · replace h := hB hc
    refine g_iconst dX11_goPay_17 1 rfl (by decide) ?_
    exact g_zret hR dX11_goPay_18 (by decide) h
def wX11_pays (l1 : Int) (l2 : Int) (l3 : Int) (σ : Mem) (Q : Int → Mem → Prop) : Prop := (∀ m1 : Mem, m1 = up2 σ 300 5 0 → (wX11_isPayment l1 l2 l3 m1 (fun y3 m2 => ((¬ y3 = 0 → (wX11_mostOf l1 l2 m2 (fun y5 m4 => (∀ m6 : Mem, m6 = up2 m4 300 4 0 → ((l3 ≤ y5 → (wX11_change  m6 (fun m7 => (wX11_goParts l1 l2 l3 1 m7 (fun y9 m8 => ((¬ y9 = l3 → Q 0 m8) ∧ (y9 = l3 → Q (m8 300 16) m8))))))) ∧ (¬ l3 ≤ y5 → (wX11_tell y5 m6 (fun m10 => Q ((-4)) m10)))))))) ∧ (y3 = 0 → Q ((-1)) m2)))))
set_option maxHeartbeats 1000000 in
theorem kX11_pays {l1 : Int} {l2 : Int} {l3 : Int} {σ : Mem} {Q : Int → Mem → Prop} (h : wX11_pays l1 l2 l3 σ Q) (l : Launch) (D : va_G) (cy : Nat → ClassId) (ad : Nat → Nat) : MI l yX11_pays cX11_pays 6 (some .int) 8 192 D cy ad [vR 300, vI l1, vI l2, vI l3] σ Q := by
  refine m_I (own := RX11) (lv := [(0, vR 300), (1, vI l1), (2, vI l2), (3, vI l3)]) (by decide +kernel) rfl (Nat.le_of_ble_eq_true rfl) rfl (fun E hR => ?_) l D cy ad
  unfold wX11_pays at h
  refine g_aload_n dX11_pays_0 rfl ?_
  refine g_iconst dX11_pays_1 0 rfl (by decide) ?_
  refine g_putI fp_11_68 kd_300 rfl dX11_pays_2 ?_
  refine g_nm (fun m1 em1 => ?_)
  replace h := h m1 em1
  refine g_aload_n dX11_pays_5 rfl ?_
  refine g_iload_n dX11_pays_6 rfl ?_
  refine g_iload_n dX11_pays_7 rfl ?_
  refine g_iload_n dX11_pays_8 rfl ?_
  refine g_cVi (st := []) (av := [vI l1, vI l2, vI l3]) (kX11_isPayment h) kd_300 rfl cw_RX11_192 (by decide) (by decide) (Nat.le_of_ble_eq_true rfl) rfl dX11_pays_9 (fun y3 m2 h => ?_)
  obtain ⟨hA, hB⟩ := h
  refine g_if_ne (tgt := 17) dX11_pays_12 (by decide) (fun hc => ?_) (fun hc => ?_)
  · replace h := hA hc
    refine g_aload_n dX11_pays_17 rfl ?_
    refine g_iload_n dX11_pays_18 rfl ?_
    refine g_iload_n dX11_pays_19 rfl ?_
    refine g_cVi (st := []) (av := [vI l1, vI l2]) (kX11_mostOf h) kd_300 rfl cw_RX11_235 (by decide) (by decide) (Nat.le_of_ble_eq_true rfl) rfl dX11_pays_20 (fun y5 m4 h => ?_)
    refine g_istore (lv' := [(4, vI y5), (0, vR 300), (1, vI l1), (2, vI l2), (3, vI l3)]) dX11_pays_23 (by decide) rfl ?_
    refine g_aload_n dX11_pays_25 rfl ?_
    refine g_iconst dX11_pays_26 0 rfl (by decide) ?_
    refine g_putI fp_11_71 kd_300 rfl dX11_pays_27 ?_
    refine g_nm (fun m6 em6 => ?_)
    replace h := h m6 em6
    refine g_iload dX11_pays_30 rfl ?_
    refine g_iload_n dX11_pays_32 rfl ?_
    obtain ⟨hA, hB⟩ := h
    refine g_icmp_ge (tgt := 46) dX11_pays_33 (by decide) (fun hc => ?_) (fun hc => ?_)
    · replace h := hA hc
      refine g_aload_n dX11_pays_46 rfl ?_
      refine g_cVv (st := []) (av := []) (kX11_change h) kd_300 rfl cw_RX11_138 (by decide) (by decide) (Nat.le_of_ble_eq_true rfl) rfl dX11_pays_47 (fun m7 h => ?_)
      refine g_aload_n dX11_pays_50 rfl ?_
      refine g_iload_n dX11_pays_51 rfl ?_
      refine g_iload_n dX11_pays_52 rfl ?_
      refine g_iload_n dX11_pays_53 rfl ?_
      refine g_iconst dX11_pays_54 1 rfl (by decide) ?_
      refine g_cVi (st := []) (av := [vI l1, vI l2, vI l3, vI 1]) (kX11_goParts h) kd_300 rfl cw_RX11_225 (by decide) (by decide) (Nat.le_of_ble_eq_true rfl) rfl dX11_pays_55 (fun y9 m8 h => ?_)
      refine g_istore (lv' := [(5, vI y9), (4, vI y5), (0, vR 300), (1, vI l1), (2, vI l2), (3, vI l3)]) dX11_pays_58 (by decide) rfl ?_
      refine g_iload dX11_pays_60 rfl ?_
      refine g_iload_n dX11_pays_62 rfl ?_
      obtain ⟨hA, hB⟩ := h
      refine g_icmp_ne (tgt := 73) dX11_pays_63 (by decide) (fun hc => ?_) (fun hc => ?_)
      · replace h := hA hc
        refine g_iconst dX11_pays_73 0 rfl (by decide) ?_
        exact g_iret hR dX11_pays_74 h
      · replace h := hB hc
        refine g_aload_n dX11_pays_66 rfl ?_
        refine g_getI fl_11_207 kd_300 rfl dX11_pays_67 ?_
        refine g_goto (tgt := 74) dX11_pays_70 (by decide) ?_
        exact g_iret hR dX11_pays_74 h
    · replace h := hB hc
      refine g_aload_n dX11_pays_36 rfl ?_
      refine g_iload dX11_pays_37 rfl ?_
      refine g_i2l dX11_pays_39 ?_
      refine g_cVv (st := []) (av := [vL y5]) (kX11_tell h) kd_300 rfl cw_RX11_155 (by decide) (by decide) (Nat.le_of_ble_eq_true rfl) rfl dX11_pays_40 (fun m10 h => ?_)
      refine g_bipush dX11_pays_43 (-4) rfl (by decide) ?_
      exact g_iret hR dX11_pays_45 h
  · replace h := hB hc
    refine g_iconst dX11_pays_15 (-1) rfl (by decide) ?_
    exact g_iret hR dX11_pays_16 h
def wX11_widest_7 (K7 : (Int × Int × Int × Int) → Mem → Prop) (Q : Int → Mem → Prop) (l1 : Int) (l2 : Int) (l3 : Int) (l4 : Int) (σ : Mem) : Prop := ((l4 ≤ l3 → Q l3 σ) ∧ (¬ l4 ≤ l3 → (∀ x1 : Int, x1 = bdiv (w32 ((w32 (l3 + l4)) + 1)) 2 → (wX11_findWay l1 l2 x1 σ (fun y3 m2 => ((y3 = 0 → (∀ x4 : Int, x4 = w32 (x1 - 1) → K7 (l1, l2, l3, x4) m2)) ∧ (¬ y3 = 0 → K7 (l1, l2, x1, l4) m2)))))))
def wLX11_widest_7 (Q : Int → Mem → Prop) (l1 : Int) (l2 : Int) (l3 : Int) (l4 : Int) (σ : Mem) : Prop := ∃ n, lp (fun (K7 : (Int × Int × Int × Int) → Mem → Prop) (x : Int × Int × Int × Int) (σ : Mem) => wX11_widest_7 K7 Q x.1 x.2.1 x.2.2.1 x.2.2.2 σ) n (l1, l2, l3, l4) σ
def wX11_widest (l1 : Int) (l2 : Int) (σ : Mem) (Q : Int → Mem → Prop) : Prop := wLX11_widest_7 Q l1 l2 0 9999 σ
set_option maxHeartbeats 1000000 in
theorem bX11_widest_7 {E : TE} {K7 : (Int × Int × Int × Int) → Mem → Prop} (hK7 : ∀ (x : Int × Int × Int × Int) (σ : Mem), K7 x σ → GW E cX11_widest 6 RX11 6 143 σ 7 [(0, vR 300), (1, vI x.1), (2, vI x.2.1), (3, vI x.2.2.1), (4, vI x.2.2.2)] []) {Q : Int → Mem → Prop} (hR : RI E (some .int) Q) {l1 : Int} {l2 : Int} {l3 : Int} {l4 : Int} {σ : Mem} (h : wX11_widest_7 K7 Q l1 l2 l3 l4 σ) : GW E cX11_widest 6 RX11 6 143 σ 7 [(0, vR 300), (1, vI l1), (2, vI l2), (3, vI l3), (4, vI l4)] [] := by
  unfold wX11_widest_7 at h
  refine g_iload_n dX11_widest_7 rfl ?_
  refine g_iload dX11_widest_8 rfl ?_
  obtain ⟨hA, hB⟩ := h
  refine g_icmp_ge (tgt := 49) dX11_widest_10 (by decide) (fun hc => ?_) (fun hc => ?_)
  · replace h := hA hc
    refine g_iload_n dX11_widest_49 rfl ?_
    exact g_iret hR dX11_widest_50 h
  · replace h := hB hc
    refine g_iload_n dX11_widest_13 rfl ?_
    refine g_iload dX11_widest_14 rfl ?_
    refine g_iadd dX11_widest_16 ?_
    refine g_iconst dX11_widest_17 1 rfl (by decide) ?_
    refine g_iadd dX11_widest_18 ?_
    refine g_iconst dX11_widest_19 2 rfl (by decide) ?_
    refine g_idiv dX11_widest_20 (by decide) ?_
    refine g_topI (fun x1 ex1 => ?_)
    replace h := h x1 ex1
    refine g_istore (lv' := [(5, vI x1), (0, vR 300), (1, vI l1), (2, vI l2), (3, vI l3), (4, vI l4)]) dX11_widest_21 (by decide) rfl ?_
    refine g_aload_n dX11_widest_23 rfl ?_
    refine g_iload_n dX11_widest_24 rfl ?_
    refine g_iload_n dX11_widest_25 rfl ?_
    refine g_iload dX11_widest_26 rfl ?_
    refine g_cVi (st := []) (av := [vI l1, vI l2, vI x1]) (kX11_findWay h) kd_300 rfl cw_RX11_195 (by decide) (by decide) (Nat.le_of_ble_eq_true rfl) rfl dX11_widest_28 (fun y3 m2 h => ?_)
    obtain ⟨hA, hB⟩ := h
    refine g_if_eq (tgt := 40) dX11_widest_31 (by decide) (fun hc => ?_) (fun hc => ?_)
    · replace h := hA hc
      refine g_iload dX11_widest_40 rfl ?_
      refine g_iconst dX11_widest_42 1 rfl (by decide) ?_
      refine g_isub dX11_widest_43 ?_
      refine g_topI (fun x4 ex4 => ?_)
      replace h := h x4 ex4
      refine g_istore (lv' := [(4, vI x4), (5, vI x1), (0, vR 300), (1, vI l1), (2, vI l2), (3, vI l3)]) dX11_widest_44 (by decide) rfl ?_
      refine g_goto (tgt := 7) dX11_widest_46 (by decide) ?_
      refine g_lv (lv' := [(0, vR 300), (1, vI l1), (2, vI l2), (3, vI l3), (4, vI x4)]) [2, 3, 4, 5, 0] rfl ?_
      exact hK7 ((l1, l2, l3, x4)) m2 h
    · replace h := hB hc
      refine g_iload dX11_widest_34 rfl ?_
      refine g_istore_n (lv' := [(3, vI x1), (5, vI x1), (0, vR 300), (1, vI l1), (2, vI l2), (4, vI l4)]) dX11_widest_36 (by decide) rfl ?_
      refine g_goto (tgt := 46) dX11_widest_37 (by decide) ?_
      refine g_goto (tgt := 7) dX11_widest_46 (by decide) ?_
      refine g_lv (lv' := [(0, vR 300), (1, vI l1), (2, vI l2), (3, vI x1), (4, vI l4)]) [2, 3, 4, 0, 5] rfl ?_
      exact hK7 ((l1, l2, x1, l4)) m2 h
theorem eX11_widest_7 {E : TE} {Q : Int → Mem → Prop} (hR : RI E (some .int) Q) {l1 : Int} {l2 : Int} {l3 : Int} {l4 : Int} {σ : Mem} (h : wLX11_widest_7 Q l1 l2 l3 l4 σ) : GW E cX11_widest 6 RX11 6 143 σ 7 [(0, vR 300), (1, vI l1), (2, vI l2), (3, vI l3), (4, vI l4)] [] := by
  obtain ⟨n, h⟩ := h
  exact lp_GW (P := fun (x : Int × Int × Int × Int) (σ : Mem) => GW E cX11_widest 6 RX11 6 143 σ 7 [(0, vR 300), (1, vI x.1), (2, vI x.2.1), (3, vI x.2.2.1), (4, vI x.2.2.2)] []) (fun K hK x σ h  => bX11_widest_7 hK hR h) n _ σ h 
set_option maxHeartbeats 1000000 in
theorem kX11_widest {l1 : Int} {l2 : Int} {σ : Mem} {Q : Int → Mem → Prop} (h : wX11_widest l1 l2 σ Q) (l : Launch) (D : va_G) (cy : Nat → ClassId) (ad : Nat → Nat) : MI l yX11_widest cX11_widest 6 (some .int) 6 143 D cy ad [vR 300, vI l1, vI l2] σ Q := by
  refine m_I (own := RX11) (lv := [(0, vR 300), (1, vI l1), (2, vI l2)]) (by decide +kernel) rfl (Nat.le_of_ble_eq_true rfl) rfl (fun E hR => ?_) l D cy ad
  unfold wX11_widest at h
  refine g_iconst dX11_widest_0 0 rfl (by decide) ?_
  refine g_istore_n (lv' := [(3, vI 0), (0, vR 300), (1, vI l1), (2, vI l2)]) dX11_widest_1 (by decide) rfl ?_
  refine g_sipush dX11_widest_2 9999 rfl (by decide) ?_
  refine g_istore (lv' := [(4, vI 9999), (3, vI 0), (0, vR 300), (1, vI l1), (2, vI l2)]) dX11_widest_5 (by decide) rfl ?_
  refine g_lv (lv' := [(0, vR 300), (1, vI l1), (2, vI l2), (3, vI 0), (4, vI 9999)]) [2, 3, 4, 1, 0] rfl ?_
  exact eX11_widest_7 hR h
def wX11_whole (l1 : Int) (l2 : Int) (l3 : Int) (σ : Mem) (Q : Int → Mem → Prop) : Prop := (∀ m1 : Mem, m1 = up2 σ 300 5 0 → (wX11_isPayment l1 l2 l3 m1 (fun y3 m2 => ((¬ y3 = 0 → (∀ m4 : Mem, m4 = up2 m2 300 4 0 → (wX11_findWay l1 l2 l3 m4 (fun y6 m5 => ((¬ y6 = 0 → (wX11_change  m5 (fun m7 => (wX11_goOnWay l3 m7 (fun m8 => (wX11_tellWay  m8 (fun m9 => Q (m9 300 13) m9))))))) ∧ (y6 = 0 → (wX11_widest l1 l2 m5 (fun y11 m10 => (wX11_tell y11 m10 (fun m12 => Q ((-4)) m12)))))))))) ∧ (y3 = 0 → Q ((-1)) m2)))))
set_option maxHeartbeats 1000000 in
theorem kX11_whole {l1 : Int} {l2 : Int} {l3 : Int} {σ : Mem} {Q : Int → Mem → Prop} (h : wX11_whole l1 l2 l3 σ Q) (l : Launch) (D : va_G) (cy : Nat → ClassId) (ad : Nat → Nat) : MI l yX11_whole cX11_whole 4 (some .int) 7 168 D cy ad [vR 300, vI l1, vI l2, vI l3] σ Q := by
  refine m_I (own := RX11) (lv := [(0, vR 300), (1, vI l1), (2, vI l2), (3, vI l3)]) (by decide +kernel) rfl (Nat.le_of_ble_eq_true rfl) rfl (fun E hR => ?_) l D cy ad
  unfold wX11_whole at h
  refine g_aload_n dX11_whole_0 rfl ?_
  refine g_iconst dX11_whole_1 0 rfl (by decide) ?_
  refine g_putI fp_11_68 kd_300 rfl dX11_whole_2 ?_
  refine g_nm (fun m1 em1 => ?_)
  replace h := h m1 em1
  refine g_aload_n dX11_whole_5 rfl ?_
  refine g_iload_n dX11_whole_6 rfl ?_
  refine g_iload_n dX11_whole_7 rfl ?_
  refine g_iload_n dX11_whole_8 rfl ?_
  refine g_cVi (st := []) (av := [vI l1, vI l2, vI l3]) (kX11_isPayment h) kd_300 rfl cw_RX11_192 (by decide) (by decide) (Nat.le_of_ble_eq_true rfl) rfl dX11_whole_9 (fun y3 m2 h => ?_)
  obtain ⟨hA, hB⟩ := h
  refine g_if_ne (tgt := 17) dX11_whole_12 (by decide) (fun hc => ?_) (fun hc => ?_)
  · replace h := hA hc
    refine g_aload_n dX11_whole_17 rfl ?_
    refine g_iconst dX11_whole_18 0 rfl (by decide) ?_
    refine g_putI fp_11_71 kd_300 rfl dX11_whole_19 ?_
    refine g_nm (fun m4 em4 => ?_)
    replace h := h m4 em4
    refine g_aload_n dX11_whole_22 rfl ?_
    refine g_iload_n dX11_whole_23 rfl ?_
    refine g_iload_n dX11_whole_24 rfl ?_
    refine g_iload_n dX11_whole_25 rfl ?_
    refine g_cVi (st := []) (av := [vI l1, vI l2, vI l3]) (kX11_findWay h) kd_300 rfl cw_RX11_195 (by decide) (by decide) (Nat.le_of_ble_eq_true rfl) rfl dX11_whole_26 (fun y6 m5 h => ?_)
    obtain ⟨hA, hB⟩ := h
    refine g_if_ne (tgt := 46) dX11_whole_29 (by decide) (fun hc => ?_) (fun hc => ?_)
    · replace h := hA hc
      refine g_aload_n dX11_whole_46 rfl ?_
      refine g_cVv (st := []) (av := []) (kX11_change h) kd_300 rfl cw_RX11_138 (by decide) (by decide) (Nat.le_of_ble_eq_true rfl) rfl dX11_whole_47 (fun m7 h => ?_)
      refine g_aload_n dX11_whole_50 rfl ?_
      refine g_iload_n dX11_whole_51 rfl ?_
      refine g_cVv (st := []) (av := [vI l3]) (kX11_goOnWay h) kd_300 rfl cw_RX11_216 (by decide) (by decide) (Nat.le_of_ble_eq_true rfl) rfl dX11_whole_52 (fun m8 h => ?_)
      refine g_aload_n dX11_whole_55 rfl ?_
      refine g_cVv (st := []) (av := []) (kX11_tellWay h) kd_300 rfl cw_RX11_198 (by decide) (by decide) (Nat.le_of_ble_eq_true rfl) rfl dX11_whole_56 (fun m9 h => ?_)
      refine g_aload_n dX11_whole_59 rfl ?_
      refine g_getI fl_11_182 kd_300 rfl dX11_whole_60 ?_
      exact g_iret hR dX11_whole_63 h
    · replace h := hB hc
      refine g_aload_n dX11_whole_32 rfl ?_
      refine g_aload_n dX11_whole_33 rfl ?_
      refine g_iload_n dX11_whole_34 rfl ?_
      refine g_iload_n dX11_whole_35 rfl ?_
      refine g_cVi (st := [vR 300]) (av := [vI l1, vI l2]) (kX11_widest h) kd_300 rfl cw_RX11_253 (by decide) (by decide) (Nat.le_of_ble_eq_true rfl) rfl dX11_whole_36 (fun y11 m10 h => ?_)
      refine g_i2l dX11_whole_39 ?_
      refine g_cVv (st := []) (av := [vL y11]) (kX11_tell h) kd_300 rfl cw_RX11_155 (by decide) (by decide) (Nat.le_of_ble_eq_true rfl) rfl dX11_whole_40 (fun m12 h => ?_)
      refine g_bipush dX11_whole_43 (-4) rfl (by decide) ?_
      exact g_iret hR dX11_whole_45 h
  · replace h := hB hc
    refine g_iconst dX11_whole_15 (-1) rfl (by decide) ?_
    exact g_iret hR dX11_whole_16 h
def wX11_readPayments_119 (K6 : (Int × Int) → Mem → Prop) (Q : Int → Mem → Prop) (l1 : Int) (l2 : Int) (l3 : Int) (l4 : Int) (l5 : Int) (σ : Mem) : Prop := ((0 ≤ w32 (3 * l2) ∧ w32 (3 * l2) < 320) ∧ (∀ m1 : Mem, m1 = up2 σ 310 (w32 (3 * l2)).toNat l3 → ((0 ≤ w32 ((w32 (3 * l2)) + 1) ∧ w32 ((w32 (3 * l2)) + 1) < 320) ∧ (∀ m2 : Mem, m2 = up2 m1 310 (w32 ((w32 (3 * l2)) + 1)).toNat l4 → ((0 ≤ w32 ((w32 (3 * l2)) + 2) ∧ w32 ((w32 (3 * l2)) + 2) < 320) ∧ (∀ m3 : Mem, m3 = up2 m2 310 (w32 ((w32 (3 * l2)) + 2)).toNat l5 → (∀ x4 : Int, x4 = w32 (l2 + 1) → K6 (l1, x4) m3)))))))
def wX11_readPayments_90 (K6 : (Int × Int) → Mem → Prop) (Q : Int → Mem → Prop) (l1 : Int) (l2 : Int) (l3 : Int) (l4 : Int) (σ : Mem) : Prop := (wX11_digits 4 σ (fun y2 m1 => (wX11_fine  m1 (fun y4 m3 => ((y4 = 0 → wX11_readPayments_119 K6 Q l1 l2 l3 l4 y2 m3) ∧ (¬ y4 = 0 → ((¬ y2 = 0 → wX11_readPayments_119 K6 Q l1 l2 l3 l4 y2 m3) ∧ (y2 = 0 → (wX11_fault (w32 ((m3 300 7) - 1)) m3 (fun m5 => wX11_readPayments_119 K6 Q l1 l2 l3 l4 y2 m5))))))))))
def wX11_readPayments_158 (Q : Int → Mem → Prop) (l2 : Int) (σ : Mem) : Prop := (wX11_wasRight  σ (fun y2 m1 => ((y2 = 0 → Q ((-1)) m1) ∧ (¬ y2 = 0 → Q l2 m1))))
def wX11_readPayments_6 (K6 : (Int × Int) → Mem → Prop) (Q : Int → Mem → Prop) (l1 : Int) (l2 : Int) (σ : Mem) : Prop := (wX11_fine  σ (fun y2 m1 => ((y2 = 0 → wX11_readPayments_158 Q l2 m1) ∧ (¬ y2 = 0 → ((m1 300 6 ≤ m1 300 7 → wX11_readPayments_158 Q l2 m1) ∧ (¬ m1 300 6 ≤ m1 300 7 → ((¬ l2 = l1 → (wX11_oneOf 97 (m1 301 0) m1 (fun y4 m3 => (wX11_oneOf 97 (m3 301 0) m3 (fun y6 m5 => (wX11_fine  m5 (fun y8 m7 => ((y8 = 0 → wX11_readPayments_90 K6 Q l1 l2 y4 y6 m7) ∧ (¬ y8 = 0 → ((¬ y4 = y6 → wX11_readPayments_90 K6 Q l1 l2 y4 y6 m7) ∧ (y4 = y6 → (wX11_fault (w32 ((m7 300 7) - 1)) m7 (fun m9 => wX11_readPayments_90 K6 Q l1 l2 y4 y6 m9))))))))))))) ∧ (l2 = l1 → (wX11_fault (m1 300 7) m1 (fun m10 => K6 (l1, l2) m10))))))))))
def wLX11_readPayments_6 (Q : Int → Mem → Prop) (l1 : Int) (l2 : Int) (σ : Mem) : Prop := ∃ n, lp (fun (K6 : (Int × Int) → Mem → Prop) (x : Int × Int) (σ : Mem) => wX11_readPayments_6 K6 Q x.1 x.2 σ) n (l1, l2) σ
def wX11_readPayments (l1 : Int) (σ : Mem) (Q : Int → Mem → Prop) : Prop := (wX11_begin  σ (fun m1 => wLX11_readPayments_6 Q l1 0 m1))
set_option maxHeartbeats 1000000 in
theorem bX11_readPayments_119 {E : TE} {K6 : (Int × Int) → Mem → Prop} (hK6 : ∀ (x : Int × Int) (σ : Mem), K6 x σ → GW E cX11_readPayments 6 RX11 4 86 σ 6 [(0, vR 300), (1, vI x.1), (2, vI x.2)] []) {Q : Int → Mem → Prop} (hR : RI E (some .int) Q) {l1 : Int} {l2 : Int} {l3 : Int} {l4 : Int} {l5 : Int} {σ : Mem} (h : wX11_readPayments_119 K6 Q l1 l2 l3 l4 l5 σ) : GW E cX11_readPayments 6 RX11 4 86 σ 119 [(0, vR 300), (1, vI l1), (2, vI l2), (3, vI l3), (4, vI l4), (5, vI l5)] [] := by
  unfold wX11_readPayments_119 at h
  refine g_aload_n dX11_readPayments_119 rfl ?_
  refine g_getR (r := 310) fl_11_21 kd_300 rfl dX11_readPayments_120 ?_
  refine g_iconst dX11_readPayments_123 3 rfl (by decide) ?_
  refine g_iload_n dX11_readPayments_124 rfl ?_
  refine g_imul dX11_readPayments_125 ?_
  refine g_iload_n dX11_readPayments_126 rfl ?_
  obtain ⟨hin, h⟩ := h
  refine g_iast kd_310 hin dX11_readPayments_127 ?_
  refine g_nm (fun m1 em1 => ?_)
  replace h := h m1 em1
  refine g_aload_n dX11_readPayments_128 rfl ?_
  refine g_getR (r := 310) fl_11_21 kd_300 rfl dX11_readPayments_129 ?_
  refine g_iconst dX11_readPayments_132 3 rfl (by decide) ?_
  refine g_iload_n dX11_readPayments_133 rfl ?_
  refine g_imul dX11_readPayments_134 ?_
  refine g_iconst dX11_readPayments_135 1 rfl (by decide) ?_
  refine g_iadd dX11_readPayments_136 ?_
  refine g_iload dX11_readPayments_137 rfl ?_
  obtain ⟨hin, h⟩ := h
  refine g_iast kd_310 hin dX11_readPayments_139 ?_
  refine g_nm (fun m2 em2 => ?_)
  replace h := h m2 em2
  refine g_aload_n dX11_readPayments_140 rfl ?_
  refine g_getR (r := 310) fl_11_21 kd_300 rfl dX11_readPayments_141 ?_
  refine g_iconst dX11_readPayments_144 3 rfl (by decide) ?_
  refine g_iload_n dX11_readPayments_145 rfl ?_
  refine g_imul dX11_readPayments_146 ?_
  refine g_iconst dX11_readPayments_147 2 rfl (by decide) ?_
  refine g_iadd dX11_readPayments_148 ?_
  refine g_iload dX11_readPayments_149 rfl ?_
  obtain ⟨hin, h⟩ := h
  refine g_iast kd_310 hin dX11_readPayments_151 ?_
  refine g_nm (fun m3 em3 => ?_)
  replace h := h m3 em3
  refine g_iinc (lv' := [(2, vI (w32 (l2 + 1))), (0, vR 300), (1, vI l1), (3, vI l3), (4, vI l4), (5, vI l5)]) dX11_readPayments_152 rfl (by decide) rfl ?_
  refine g_loc (a := w32 (l2 + 1)) (i := 2) (lv := [(0, vR 300), (1, vI l1), (3, vI l3), (4, vI l4), (5, vI l5)]) (fun x4 ex4 => ?_)
  replace h := h x4 ex4
  refine g_goto (tgt := 6) dX11_readPayments_155 (by decide) ?_
  refine g_lv (lv' := [(0, vR 300), (1, vI l1), (2, vI x4)]) [1, 2, 0] rfl ?_
  exact hK6 ((l1, x4)) m3 h
set_option maxHeartbeats 1000000 in
theorem bX11_readPayments_90 {E : TE} {K6 : (Int × Int) → Mem → Prop} (hK6 : ∀ (x : Int × Int) (σ : Mem), K6 x σ → GW E cX11_readPayments 6 RX11 4 86 σ 6 [(0, vR 300), (1, vI x.1), (2, vI x.2)] []) {Q : Int → Mem → Prop} (hR : RI E (some .int) Q) {l1 : Int} {l2 : Int} {l3 : Int} {l4 : Int} {σ : Mem} (h : wX11_readPayments_90 K6 Q l1 l2 l3 l4 σ) : GW E cX11_readPayments 6 RX11 4 86 σ 90 [(0, vR 300), (1, vI l1), (2, vI l2), (3, vI l3), (4, vI l4)] [] := by
  unfold wX11_readPayments_90 at h
  refine g_aload_n dX11_readPayments_90 rfl ?_
  refine g_iconst dX11_readPayments_91 4 rfl (by decide) ?_
  refine g_cVi (st := []) (av := [vI 4]) (kX11_digits h) kd_300 rfl cw_RX11_132 (by decide) (by decide) (Nat.le_of_ble_eq_true rfl) rfl dX11_readPayments_92 (fun y2 m1 h => ?_)
  refine g_istore (lv' := [(5, vI y2), (0, vR 300), (1, vI l1), (2, vI l2), (3, vI l3), (4, vI l4)]) dX11_readPayments_95 (by decide) rfl ?_
  refine g_aload_n dX11_readPayments_97 rfl ?_
  refine g_cVi (st := []) (av := []) (kX11_fine h) kd_300 rfl cw_RX11_113 (by decide) (by decide) (Nat.le_of_ble_eq_true rfl) rfl dX11_readPayments_98 (fun y4 m3 h => ?_)
  obtain ⟨hA, hB⟩ := h
  refine g_if_eq (tgt := 119) dX11_readPayments_101 (by decide) (fun hc => ?_) (fun hc => ?_)
  · replace h := hA hc
    refine g_lv (lv' := [(0, vR 300), (1, vI l1), (2, vI l2), (3, vI l3), (4, vI l4), (5, vI y2)]) [1, 2, 3, 4, 5, 0] rfl ?_
    exact bX11_readPayments_119 hK6 hR h
  · replace h := hB hc
    refine g_iload dX11_readPayments_104 rfl ?_
    obtain ⟨hA, hB⟩ := h
    refine g_if_ne (tgt := 119) dX11_readPayments_106 (by decide) (fun hc => ?_) (fun hc => ?_)
    · replace h := hA hc
      refine g_lv (lv' := [(0, vR 300), (1, vI l1), (2, vI l2), (3, vI l3), (4, vI l4), (5, vI y2)]) [1, 2, 3, 4, 5, 0] rfl ?_
      exact bX11_readPayments_119 hK6 hR h
    · replace h := hB hc
      refine g_aload_n dX11_readPayments_109 rfl ?_
      refine g_aload_n dX11_readPayments_110 rfl ?_
      refine g_getI fl_11_107 kd_300 rfl dX11_readPayments_111 ?_
      refine g_iconst dX11_readPayments_114 1 rfl (by decide) ?_
      refine g_isub dX11_readPayments_115 ?_
      refine g_cVv (st := []) (av := [vI (w32 ((m3 300 7) - 1))]) (kX11_fault h) kd_300 rfl cw_RX11_121 (by decide) (by decide) (Nat.le_of_ble_eq_true rfl) rfl dX11_readPayments_116 (fun m5 h => ?_)
      refine g_lv (lv' := [(0, vR 300), (1, vI l1), (2, vI l2), (3, vI l3), (4, vI l4), (5, vI y2)]) [1, 2, 3, 4, 5, 0] rfl ?_
      exact bX11_readPayments_119 hK6 hR h
set_option maxHeartbeats 1000000 in
theorem bX11_readPayments_158 {E : TE} {Q : Int → Mem → Prop} (hR : RI E (some .int) Q) {l2 : Int} {σ : Mem} (h : wX11_readPayments_158 Q l2 σ) : GW E cX11_readPayments 6 RX11 4 86 σ 158 [(0, vR 300), (2, vI l2)] [] := by
  unfold wX11_readPayments_158 at h
  refine g_aload_n dX11_readPayments_158 rfl ?_
  refine g_cVi (st := []) (av := []) (kX11_wasRight h) kd_300 rfl cw_RX11_135 (by decide) (by decide) (Nat.le_of_ble_eq_true rfl) rfl dX11_readPayments_159 (fun y2 m1 h => ?_)
  obtain ⟨hA, hB⟩ := h
  refine g_if_eq (tgt := 169) dX11_readPayments_162 (by decide) (fun hc => ?_) (fun hc => ?_)
  · replace h := hA hc
    refine g_iconst dX11_readPayments_169 (-1) rfl (by decide) ?_
    exact g_iret hR dX11_readPayments_170 h
  · replace h := hB hc
    refine g_iload_n dX11_readPayments_165 rfl ?_
    refine g_goto (tgt := 170) dX11_readPayments_166 (by decide) ?_
    exact g_iret hR dX11_readPayments_170 h
set_option maxHeartbeats 1000000 in
theorem bX11_readPayments_6 {E : TE} {K6 : (Int × Int) → Mem → Prop} (hK6 : ∀ (x : Int × Int) (σ : Mem), K6 x σ → GW E cX11_readPayments 6 RX11 4 86 σ 6 [(0, vR 300), (1, vI x.1), (2, vI x.2)] []) {Q : Int → Mem → Prop} (hR : RI E (some .int) Q) {l1 : Int} {l2 : Int} {σ : Mem} (h : wX11_readPayments_6 K6 Q l1 l2 σ) : GW E cX11_readPayments 6 RX11 4 86 σ 6 [(0, vR 300), (1, vI l1), (2, vI l2)] [] := by
  unfold wX11_readPayments_6 at h
  refine g_aload_n dX11_readPayments_6 rfl ?_
  refine g_cVi (st := []) (av := []) (kX11_fine h) kd_300 rfl cw_RX11_113 (by decide) (by decide) (Nat.le_of_ble_eq_true rfl) rfl dX11_readPayments_7 (fun y2 m1 h => ?_)
  obtain ⟨hA, hB⟩ := h
  refine g_if_eq (tgt := 158) dX11_readPayments_10 (by decide) (fun hc => ?_) (fun hc => ?_)
  · replace h := hA hc
    refine g_lv (lv' := [(0, vR 300), (2, vI l2)]) [0, 2] rfl ?_
    exact bX11_readPayments_158 hR h
  · replace h := hB hc
    refine g_aload_n dX11_readPayments_13 rfl ?_
    refine g_getI fl_11_107 kd_300 rfl dX11_readPayments_14 ?_
    refine g_aload_n dX11_readPayments_17 rfl ?_
    refine g_getI fl_11_104 kd_300 rfl dX11_readPayments_18 ?_
    obtain ⟨hA, hB⟩ := h
    refine g_icmp_ge (tgt := 158) dX11_readPayments_21 (by decide) (fun hc => ?_) (fun hc => ?_)
    · replace h := hA hc
      refine g_lv (lv' := [(0, vR 300), (2, vI l2)]) [0, 2] rfl ?_
      exact bX11_readPayments_158 hR h
    · replace h := hB hc
      refine g_iload_n dX11_readPayments_24 rfl ?_
      refine g_iload_n dX11_readPayments_25 rfl ?_
      obtain ⟨hA, hB⟩ := h
      refine g_icmp_ne (tgt := 40) dX11_readPayments_26 (by decide) (fun hc => ?_) (fun hc => ?_)
      · replace h := hA hc
        refine g_aload_n dX11_readPayments_40 rfl ?_
        refine g_bipush dX11_readPayments_41 97 rfl (by decide) ?_
        refine g_aload_n dX11_readPayments_43 rfl ?_
        refine g_getR (r := 301) fl_11_9 kd_300 rfl dX11_readPayments_44 ?_
        refine g_iconst dX11_readPayments_47 0 rfl (by decide) ?_
        refine g_iald kd_301 (by decide) dX11_readPayments_48 ?_
        refine g_cVi (st := []) (av := [vI 97, vI (m1 301 0)]) (kX11_oneOf h) kd_300 rfl cw_RX11_125 (by decide) (by decide) (Nat.le_of_ble_eq_true rfl) rfl dX11_readPayments_49 (fun y4 m3 h => ?_)
        refine g_istore_n (lv' := [(3, vI y4), (0, vR 300), (1, vI l1), (2, vI l2)]) dX11_readPayments_52 (by decide) rfl ?_
        refine g_aload_n dX11_readPayments_53 rfl ?_
        refine g_bipush dX11_readPayments_54 97 rfl (by decide) ?_
        refine g_aload_n dX11_readPayments_56 rfl ?_
        refine g_getR (r := 301) fl_11_9 kd_300 rfl dX11_readPayments_57 ?_
        refine g_iconst dX11_readPayments_60 0 rfl (by decide) ?_
        refine g_iald kd_301 (by decide) dX11_readPayments_61 ?_
        refine g_cVi (st := []) (av := [vI 97, vI (m3 301 0)]) (kX11_oneOf h) kd_300 rfl cw_RX11_125 (by decide) (by decide) (Nat.le_of_ble_eq_true rfl) rfl dX11_readPayments_62 (fun y6 m5 h => ?_)
        refine g_istore (lv' := [(4, vI y6), (3, vI y4), (0, vR 300), (1, vI l1), (2, vI l2)]) dX11_readPayments_65 (by decide) rfl ?_
        refine g_aload_n dX11_readPayments_67 rfl ?_
        refine g_cVi (st := []) (av := []) (kX11_fine h) kd_300 rfl cw_RX11_113 (by decide) (by decide) (Nat.le_of_ble_eq_true rfl) rfl dX11_readPayments_68 (fun y8 m7 h => ?_)
        obtain ⟨hA, hB⟩ := h
        refine g_if_eq (tgt := 90) dX11_readPayments_71 (by decide) (fun hc => ?_) (fun hc => ?_)
        · replace h := hA hc
          refine g_lv (lv' := [(0, vR 300), (1, vI l1), (2, vI l2), (3, vI y4), (4, vI y6)]) [2, 3, 4, 1, 0] rfl ?_
          exact bX11_readPayments_90 hK6 hR h
        · replace h := hB hc
          refine g_iload_n dX11_readPayments_74 rfl ?_
          refine g_iload dX11_readPayments_75 rfl ?_
          obtain ⟨hA, hB⟩ := h
          refine g_icmp_ne (tgt := 90) dX11_readPayments_77 (by decide) (fun hc => ?_) (fun hc => ?_)
          · replace h := hA hc
            refine g_lv (lv' := [(0, vR 300), (1, vI l1), (2, vI l2), (3, vI y4), (4, vI y6)]) [2, 3, 4, 1, 0] rfl ?_
            exact bX11_readPayments_90 hK6 hR h
          · replace h := hB hc
            refine g_aload_n dX11_readPayments_80 rfl ?_
            refine g_aload_n dX11_readPayments_81 rfl ?_
            refine g_getI fl_11_107 kd_300 rfl dX11_readPayments_82 ?_
            refine g_iconst dX11_readPayments_85 1 rfl (by decide) ?_
            refine g_isub dX11_readPayments_86 ?_
            refine g_cVv (st := []) (av := [vI (w32 ((m7 300 7) - 1))]) (kX11_fault h) kd_300 rfl cw_RX11_121 (by decide) (by decide) (Nat.le_of_ble_eq_true rfl) rfl dX11_readPayments_87 (fun m9 h => ?_)
            refine g_lv (lv' := [(0, vR 300), (1, vI l1), (2, vI l2), (3, vI y4), (4, vI y6)]) [2, 3, 4, 1, 0] rfl ?_
            exact bX11_readPayments_90 hK6 hR h
      · replace h := hB hc
        refine g_aload_n dX11_readPayments_29 rfl ?_
        refine g_aload_n dX11_readPayments_30 rfl ?_
        refine g_getI fl_11_107 kd_300 rfl dX11_readPayments_31 ?_
        refine g_cVv (st := []) (av := [vI (m1 300 7)]) (kX11_fault h) kd_300 rfl cw_RX11_121 (by decide) (by decide) (Nat.le_of_ble_eq_true rfl) rfl dX11_readPayments_34 (fun m10 h => ?_)
        refine g_goto (tgt := 6) dX11_readPayments_37 (by decide) ?_
        exact hK6 ((l1, l2)) m10 h
theorem eX11_readPayments_6 {E : TE} {Q : Int → Mem → Prop} (hR : RI E (some .int) Q) {l1 : Int} {l2 : Int} {σ : Mem} (h : wLX11_readPayments_6 Q l1 l2 σ) : GW E cX11_readPayments 6 RX11 4 86 σ 6 [(0, vR 300), (1, vI l1), (2, vI l2)] [] := by
  obtain ⟨n, h⟩ := h
  exact lp_GW (P := fun (x : Int × Int) (σ : Mem) => GW E cX11_readPayments 6 RX11 4 86 σ 6 [(0, vR 300), (1, vI x.1), (2, vI x.2)] []) (fun K hK x σ h  => bX11_readPayments_6 hK hR h) n _ σ h 
set_option maxHeartbeats 1000000 in
theorem kX11_readPayments {l1 : Int} {σ : Mem} {Q : Int → Mem → Prop} (h : wX11_readPayments l1 σ Q) (l : Launch) (D : va_G) (cy : Nat → ClassId) (ad : Nat → Nat) : MI l yX11_readPayments cX11_readPayments 6 (some .int) 4 86 D cy ad [vR 300, vI l1] σ Q := by
  refine m_I (own := RX11) (lv := [(0, vR 300), (1, vI l1)]) (by decide +kernel) rfl (Nat.le_of_ble_eq_true rfl) rfl (fun E hR => ?_) l D cy ad
  unfold wX11_readPayments at h
  refine g_aload_n dX11_readPayments_0 rfl ?_
  refine g_cVv (st := []) (av := []) (kX11_begin h) kd_300 rfl cw_RX11_129 (by decide) (by decide) (Nat.le_of_ble_eq_true rfl) rfl dX11_readPayments_1 (fun m1 h => ?_)
  refine g_iconst dX11_readPayments_4 0 rfl (by decide) ?_
  refine g_istore_n (lv' := [(2, vI 0), (0, vR 300), (1, vI l1)]) dX11_readPayments_5 (by decide) rfl ?_
  refine g_lv (lv' := [(0, vR 300), (1, vI l1), (2, vI 0)]) [1, 2, 0] rfl ?_
  exact eX11_readPayments_6 hR h
def wX11_goRead (l1 : Int) (σ : Mem) (Q : Int → Mem → Prop) : Prop := ((0 ≤ w32 (3 * l1) ∧ w32 (3 * l1) < 320) ∧ ((0 ≤ w32 ((w32 (3 * l1)) + 1) ∧ w32 ((w32 (3 * l1)) + 1) < 320) ∧ ((0 ≤ w32 ((w32 (3 * l1)) + 2) ∧ w32 ((w32 (3 * l1)) + 2) < 320) ∧ (wX11_goPay (σ 310 (w32 (3 * l1)).toNat) (σ 310 (w32 ((w32 (3 * l1)) + 1)).toNat) (σ 310 (w32 ((w32 (3 * l1)) + 2)).toNat) σ (fun y2 m1 => ((y2 = 0 ∨ y2 = 1) ∧ Q y2 m1))))))
set_option maxHeartbeats 1000000 in
theorem kX11_goRead {l1 : Int} {σ : Mem} {Q : Int → Mem → Prop} (h : wX11_goRead l1 σ Q) (l : Launch) (D : va_G) (cy : Nat → ClassId) (ad : Nat → Nat) : MI l yX11_goRead cX11_goRead 2 (some .boolean) 8 192 D cy ad [vR 300, vI l1] σ Q := by
  refine m_I (own := RX11) (lv := [(0, vR 300), (1, vI l1)]) (by decide +kernel) rfl (Nat.le_of_ble_eq_true rfl) rfl (fun E hR => ?_) l D cy ad
  unfold wX11_goRead at h
  refine g_aload_n dX11_goRead_0 rfl ?_
  refine g_aload_n dX11_goRead_1 rfl ?_
  refine g_getR (r := 310) fl_11_21 kd_300 rfl dX11_goRead_2 ?_
  refine g_iconst dX11_goRead_5 3 rfl (by decide) ?_
  refine g_iload_n dX11_goRead_6 rfl ?_
  refine g_imul dX11_goRead_7 ?_
  obtain ⟨hin, h⟩ := h
  refine g_iald kd_310 hin dX11_goRead_8 ?_
  refine g_aload_n dX11_goRead_9 rfl ?_
  refine g_getR (r := 310) fl_11_21 kd_300 rfl dX11_goRead_10 ?_
  refine g_iconst dX11_goRead_13 3 rfl (by decide) ?_
  refine g_iload_n dX11_goRead_14 rfl ?_
  refine g_imul dX11_goRead_15 ?_
  refine g_iconst dX11_goRead_16 1 rfl (by decide) ?_
  refine g_iadd dX11_goRead_17 ?_
  obtain ⟨hin, h⟩ := h
  refine g_iald kd_310 hin dX11_goRead_18 ?_
  refine g_aload_n dX11_goRead_19 rfl ?_
  refine g_getR (r := 310) fl_11_21 kd_300 rfl dX11_goRead_20 ?_
  refine g_iconst dX11_goRead_23 3 rfl (by decide) ?_
  refine g_iload_n dX11_goRead_24 rfl ?_
  refine g_imul dX11_goRead_25 ?_
  refine g_iconst dX11_goRead_26 2 rfl (by decide) ?_
  refine g_iadd dX11_goRead_27 ?_
  obtain ⟨hin, h⟩ := h
  refine g_iald kd_310 hin dX11_goRead_28 ?_
  refine g_cVi (st := []) (av := [vI (σ 310 (w32 (3 * l1)).toNat), vI (σ 310 (w32 ((w32 (3 * l1)) + 1)).toNat), vI (σ 310 (w32 ((w32 (3 * l1)) + 2)).toNat)]) (kX11_goPay h) kd_300 rfl cw_RX11_256 (by decide) (by decide) (Nat.le_of_ble_eq_true rfl) rfl dX11_goRead_29 (fun y2 m1 h => ?_)
  exact g_zret hR dX11_goRead_32 h.1 h.2
def wX11_batch_80 (K80 : (Int × Int × Int) → Mem → Prop) (Q : Int → Mem → Prop) (l2 : Int) (l3 : Int) (l4 : Int) (σ : Mem) : Prop := ((405 ≤ l4 → (∀ m1 : Mem, m1 = up2 σ 300 4 0 → (wX11_tell l3 m1 (fun m2 => Q (w32 (((-100)) - l2)) m2)))) ∧ (¬ 405 ≤ l4 → ((0 ≤ l4 ∧ l4 < 405) ∧ ((0 ≤ l4 ∧ l4 < 405) ∧ (∀ m3 : Mem, m3 = up2 σ 301 l4.toNat (σ 328 l4.toNat) → (∀ x4 : Int, x4 = w32 (l4 + 1) → K80 (l2, l3, x4) m3))))))
def wLX11_batch_80 (Q : Int → Mem → Prop) (l2 : Int) (l3 : Int) (l4 : Int) (σ : Mem) : Prop := ∃ n, lp (fun (K80 : (Int × Int × Int) → Mem → Prop) (x : Int × Int × Int) (σ : Mem) => wX11_batch_80 K80 Q x.1 x.2.1 x.2.2 σ) n (l2, l3, l4) σ
def wX11_batch_49 (Q : Int → Mem → Prop) (l1 : Int) (l2 : Int) (σ : Mem) : Prop := ((l1 ≤ l2 → ((l1 ≤ 0 → Q l1 σ) ∧ (¬ l1 ≤ 0 → (wX11_note  σ (fun m1 => Q l1 m1))))) ∧ (¬ l1 ≤ l2 → ((0 ≤ w32 (3 * l2) ∧ w32 (3 * l2) < 320) ∧ ((0 ≤ w32 ((w32 (3 * l2)) + 1) ∧ w32 ((w32 (3 * l2)) + 1) < 320) ∧ (wX11_mostOf (σ 310 (w32 (3 * l2)).toNat) (σ 310 (w32 ((w32 (3 * l2)) + 1)).toNat) σ (fun y3 m2 => wLX11_batch_80 Q l2 y3 0 m2))))))
def wX11_batch_30 (K30 : (Int × Int) → Mem → Prop) (Q : Int → Mem → Prop) (l1 : Int) (l2 : Int) (σ : Mem) : Prop := ((l1 ≤ l2 → wX11_batch_49 Q l1 l2 σ) ∧ (¬ l1 ≤ l2 → (wX11_goRead l2 σ (fun y2 m1 => ((y2 = 0 → wX11_batch_49 Q l1 l2 m1) ∧ (¬ y2 = 0 → (∀ x3 : Int, x3 = w32 (l2 + 1) → K30 (l1, x3) m1)))))))
def wLX11_batch_30 (Q : Int → Mem → Prop) (l1 : Int) (l2 : Int) (σ : Mem) : Prop := ∃ n, lp (fun (K30 : (Int × Int) → Mem → Prop) (x : Int × Int) (σ : Mem) => wX11_batch_30 K30 Q x.1 x.2 σ) n (l1, l2) σ
def wX11_batch (σ : Mem) (Q : Int → Mem → Prop) : Prop := (∀ m1 : Mem, m1 = up2 σ 300 5 0 → (wX11_readPayments 8 m1 (fun y3 m2 => ((¬ y3 = (-1) → (wX11_lay  m2 (fun m4 => wLX11_batch_30 Q y3 0 m4))) ∧ (y3 = (-1) → Q (w32 (((-1)) - (m2 300 8))) m2)))))
set_option maxHeartbeats 1000000 in
theorem bX11_batch_80 {E : TE} {K80 : (Int × Int × Int) → Mem → Prop} (hK80 : ∀ (x : Int × Int × Int) (σ : Mem), K80 x σ → GW E cX11_batch 5 RX11 9 213 σ 80 [(0, vR 300), (2, vI x.1), (3, vI x.2.1), (4, vI x.2.2)] []) {Q : Int → Mem → Prop} (hR : RI E (some .int) Q) {l2 : Int} {l3 : Int} {l4 : Int} {σ : Mem} (h : wX11_batch_80 K80 Q l2 l3 l4 σ) : GW E cX11_batch 5 RX11 9 213 σ 80 [(0, vR 300), (2, vI l2), (3, vI l3), (4, vI l4)] [] := by
  unfold wX11_batch_80 at h
  refine g_iload dX11_batch_80 rfl ?_
  refine g_sipush dX11_batch_82 405 rfl (by decide) ?_
  obtain ⟨hA, hB⟩ := h
  refine g_icmp_ge (tgt := 108) dX11_batch_85 (by decide) (fun hc => ?_) (fun hc => ?_)
  · replace h := hA hc
    refine g_aload_n dX11_batch_108 rfl ?_
    refine g_iconst dX11_batch_109 0 rfl (by decide) ?_
    refine g_putI fp_11_71 kd_300 rfl dX11_batch_110 ?_
    refine g_nm (fun m1 em1 => ?_)
    replace h := h m1 em1
    refine g_aload_n dX11_batch_113 rfl ?_
    refine g_iload_n dX11_batch_114 rfl ?_
    refine g_i2l dX11_batch_115 ?_
    refine g_cVv (st := []) (av := [vL l3]) (kX11_tell h) kd_300 rfl cw_RX11_155 (by decide) (by decide) (Nat.le_of_ble_eq_true rfl) rfl dX11_batch_116 (fun m2 h => ?_)
    refine g_bipush dX11_batch_119 (-100) rfl (by decide) ?_
    refine g_iload_n dX11_batch_121 rfl ?_
    refine g_isub dX11_batch_122 ?_
    exact g_iret hR dX11_batch_123 h
  · replace h := hB hc
    refine g_aload_n dX11_batch_88 rfl ?_
    refine g_getR (r := 301) fl_11_9 kd_300 rfl dX11_batch_89 ?_
    refine g_iload dX11_batch_92 rfl ?_
    refine g_aload_n dX11_batch_94 rfl ?_
    refine g_getR (r := 328) fl_11_58 kd_300 rfl dX11_batch_95 ?_
    refine g_iload dX11_batch_98 rfl ?_
    obtain ⟨hin, h⟩ := h
    refine g_iald kd_328 hin dX11_batch_100 ?_
    obtain ⟨hin, h⟩ := h
    refine g_iast kd_301 hin dX11_batch_101 ?_
    refine g_nm (fun m3 em3 => ?_)
    replace h := h m3 em3
    refine g_iinc (lv' := [(4, vI (w32 (l4 + 1))), (0, vR 300), (2, vI l2), (3, vI l3)]) dX11_batch_102 rfl (by decide) rfl ?_
    refine g_loc (a := w32 (l4 + 1)) (i := 4) (lv := [(0, vR 300), (2, vI l2), (3, vI l3)]) (fun x4 ex4 => ?_)
    replace h := h x4 ex4
    refine g_goto (tgt := 80) dX11_batch_105 (by decide) ?_
    refine g_lv (lv' := [(0, vR 300), (2, vI l2), (3, vI l3), (4, vI x4)]) [1, 2, 3, 0] rfl ?_
    exact hK80 ((l2, l3, x4)) m3 h
theorem eX11_batch_80 {E : TE} {Q : Int → Mem → Prop} (hR : RI E (some .int) Q) {l2 : Int} {l3 : Int} {l4 : Int} {σ : Mem} (h : wLX11_batch_80 Q l2 l3 l4 σ) : GW E cX11_batch 5 RX11 9 213 σ 80 [(0, vR 300), (2, vI l2), (3, vI l3), (4, vI l4)] [] := by
  obtain ⟨n, h⟩ := h
  exact lp_GW (P := fun (x : Int × Int × Int) (σ : Mem) => GW E cX11_batch 5 RX11 9 213 σ 80 [(0, vR 300), (2, vI x.1), (3, vI x.2.1), (4, vI x.2.2)] []) (fun K hK x σ h  => bX11_batch_80 hK hR h) n _ σ h 
set_option maxHeartbeats 1000000 in
theorem bX11_batch_49 {E : TE} {Q : Int → Mem → Prop} (hR : RI E (some .int) Q) {l1 : Int} {l2 : Int} {σ : Mem} (h : wX11_batch_49 Q l1 l2 σ) : GW E cX11_batch 5 RX11 9 213 σ 49 [(0, vR 300), (1, vI l1), (2, vI l2)] [] := by
  unfold wX11_batch_49 at h
  refine g_iload_n dX11_batch_49 rfl ?_
  refine g_iload_n dX11_batch_50 rfl ?_
  obtain ⟨hA, hB⟩ := h
  refine g_icmp_ge (tgt := 124) dX11_batch_51 (by decide) (fun hc => ?_) (fun hc => ?_)
  · replace h := hA hc
    refine g_iload_n dX11_batch_124 rfl ?_
    obtain ⟨hA, hB⟩ := h
    refine g_if_le (tgt := 132) dX11_batch_125 (by decide) (fun hc => ?_) (fun hc => ?_)
    · replace h := hA hc
      refine g_iload_n dX11_batch_132 rfl ?_
      exact g_iret hR dX11_batch_133 h
    · replace h := hB hc
      refine g_aload_n dX11_batch_128 rfl ?_
      refine g_cVv (st := []) (av := []) (kX11_note h) kd_300 rfl cw_RX11_268 (by decide) (by decide) (Nat.le_of_ble_eq_true rfl) rfl dX11_batch_129 (fun m1 h => ?_)
      refine g_iload_n dX11_batch_132 rfl ?_
      exact g_iret hR dX11_batch_133 h
  · replace h := hB hc
    refine g_aload_n dX11_batch_54 rfl ?_
    refine g_aload_n dX11_batch_55 rfl ?_
    refine g_getR (r := 310) fl_11_21 kd_300 rfl dX11_batch_56 ?_
    refine g_iconst dX11_batch_59 3 rfl (by decide) ?_
    refine g_iload_n dX11_batch_60 rfl ?_
    refine g_imul dX11_batch_61 ?_
    obtain ⟨hin, h⟩ := h
    refine g_iald kd_310 hin dX11_batch_62 ?_
    refine g_aload_n dX11_batch_63 rfl ?_
    refine g_getR (r := 310) fl_11_21 kd_300 rfl dX11_batch_64 ?_
    refine g_iconst dX11_batch_67 3 rfl (by decide) ?_
    refine g_iload_n dX11_batch_68 rfl ?_
    refine g_imul dX11_batch_69 ?_
    refine g_iconst dX11_batch_70 1 rfl (by decide) ?_
    refine g_iadd dX11_batch_71 ?_
    obtain ⟨hin, h⟩ := h
    refine g_iald kd_310 hin dX11_batch_72 ?_
    refine g_cVi (st := []) (av := [vI (σ 310 (w32 (3 * l2)).toNat), vI (σ 310 (w32 ((w32 (3 * l2)) + 1)).toNat)]) (kX11_mostOf h) kd_300 rfl cw_RX11_235 (by decide) (by decide) (Nat.le_of_ble_eq_true rfl) rfl dX11_batch_73 (fun y3 m2 h => ?_)
    refine g_istore_n (lv' := [(3, vI y3), (0, vR 300), (1, vI l1), (2, vI l2)]) dX11_batch_76 (by decide) rfl ?_
    refine g_iconst dX11_batch_77 0 rfl (by decide) ?_
    refine g_istore (lv' := [(4, vI 0), (3, vI y3), (0, vR 300), (1, vI l1), (2, vI l2)]) dX11_batch_78 (by decide) rfl ?_
    refine g_lv (lv' := [(0, vR 300), (2, vI l2), (3, vI y3), (4, vI 0)]) [2, 4, 1, 0] rfl ?_
    exact eX11_batch_80 hR h
set_option maxHeartbeats 1000000 in
theorem bX11_batch_30 {E : TE} {K30 : (Int × Int) → Mem → Prop} (hK30 : ∀ (x : Int × Int) (σ : Mem), K30 x σ → GW E cX11_batch 5 RX11 9 213 σ 30 [(0, vR 300), (1, vI x.1), (2, vI x.2)] []) {Q : Int → Mem → Prop} (hR : RI E (some .int) Q) {l1 : Int} {l2 : Int} {σ : Mem} (h : wX11_batch_30 K30 Q l1 l2 σ) : GW E cX11_batch 5 RX11 9 213 σ 30 [(0, vR 300), (1, vI l1), (2, vI l2)] [] := by
  unfold wX11_batch_30 at h
  refine g_iload_n dX11_batch_30 rfl ?_
  refine g_iload_n dX11_batch_31 rfl ?_
  obtain ⟨hA, hB⟩ := h
  refine g_icmp_ge (tgt := 49) dX11_batch_32 (by decide) (fun hc => ?_) (fun hc => ?_)
  · replace h := hA hc
    exact bX11_batch_49 hR h
  · replace h := hB hc
    refine g_aload_n dX11_batch_35 rfl ?_
    refine g_iload_n dX11_batch_36 rfl ?_
    refine g_cVi (st := []) (av := [vI l2]) (kX11_goRead h) kd_300 rfl cw_RX11_265 (by decide) (by decide) (Nat.le_of_ble_eq_true rfl) rfl dX11_batch_37 (fun y2 m1 h => ?_)
    obtain ⟨hA, hB⟩ := h
    refine g_if_eq (tgt := 49) dX11_batch_40 (by decide) (fun hc => ?_) (fun hc => ?_)
    · replace h := hA hc
      exact bX11_batch_49 hR h
    · replace h := hB hc
      refine g_iinc (lv' := [(2, vI (w32 (l2 + 1))), (0, vR 300), (1, vI l1)]) dX11_batch_43 rfl (by decide) rfl ?_
      refine g_loc (a := w32 (l2 + 1)) (i := 2) (lv := [(0, vR 300), (1, vI l1)]) (fun x3 ex3 => ?_)
      replace h := h x3 ex3
      refine g_goto (tgt := 30) dX11_batch_46 (by decide) ?_
      refine g_lv (lv' := [(0, vR 300), (1, vI l1), (2, vI x3)]) [1, 2, 0] rfl ?_
      exact hK30 ((l1, x3)) m1 h
theorem eX11_batch_30 {E : TE} {Q : Int → Mem → Prop} (hR : RI E (some .int) Q) {l1 : Int} {l2 : Int} {σ : Mem} (h : wLX11_batch_30 Q l1 l2 σ) : GW E cX11_batch 5 RX11 9 213 σ 30 [(0, vR 300), (1, vI l1), (2, vI l2)] [] := by
  obtain ⟨n, h⟩ := h
  exact lp_GW (P := fun (x : Int × Int) (σ : Mem) => GW E cX11_batch 5 RX11 9 213 σ 30 [(0, vR 300), (1, vI x.1), (2, vI x.2)] []) (fun K hK x σ h  => bX11_batch_30 hK hR h) n _ σ h 
set_option maxHeartbeats 1000000 in
theorem kX11_batch {σ : Mem} {Q : Int → Mem → Prop} (h : wX11_batch σ Q) (l : Launch) (D : va_G) (cy : Nat → ClassId) (ad : Nat → Nat) : MI l yX11_batch cX11_batch 5 (some .int) 9 213 D cy ad [vR 300] σ Q := by
  refine m_I (own := RX11) (lv := [(0, vR 300)]) (by decide +kernel) rfl (Nat.le_of_ble_eq_true rfl) rfl (fun E hR => ?_) l D cy ad
  unfold wX11_batch at h
  refine g_aload_n dX11_batch_0 rfl ?_
  refine g_iconst dX11_batch_1 0 rfl (by decide) ?_
  refine g_putI fp_11_68 kd_300 rfl dX11_batch_2 ?_
  refine g_nm (fun m1 em1 => ?_)
  replace h := h m1 em1
  refine g_aload_n dX11_batch_5 rfl ?_
  refine g_bipush dX11_batch_6 8 rfl (by decide) ?_
  refine g_cVi (st := []) (av := [vI 8]) (kX11_readPayments h) kd_300 rfl cw_RX11_259 (by decide) (by decide) (Nat.le_of_ble_eq_true rfl) rfl dX11_batch_8 (fun y3 m2 h => ?_)
  refine g_istore_n (lv' := [(1, vI y3), (0, vR 300)]) dX11_batch_11 (by decide) rfl ?_
  refine g_iload_n dX11_batch_12 rfl ?_
  refine g_iconst dX11_batch_13 (-1) rfl (by decide) ?_
  obtain ⟨hA, hB⟩ := h
  refine g_icmp_ne (tgt := 24) dX11_batch_14 (by decide) (fun hc => ?_) (fun hc => ?_)
  · replace h := hA hc
    refine g_aload_n dX11_batch_24 rfl ?_
    refine g_cVv (st := []) (av := []) (kX11_lay h) kd_300 rfl cw_RX11_262 (by decide) (by decide) (Nat.le_of_ble_eq_true rfl) rfl dX11_batch_25 (fun m4 h => ?_)
    refine g_iconst dX11_batch_28 0 rfl (by decide) ?_
    refine g_istore_n (lv' := [(2, vI 0), (1, vI y3), (0, vR 300)]) dX11_batch_29 (by decide) rfl ?_
    refine g_lv (lv' := [(0, vR 300), (1, vI y3), (2, vI 0)]) [2, 1, 0] rfl ?_
    exact eX11_batch_30 hR h
  · replace h := hB hc
    refine g_iconst dX11_batch_17 (-1) rfl (by decide) ?_
    refine g_aload_n dX11_batch_18 rfl ?_
    refine g_getI fl_11_110 kd_300 rfl dX11_batch_19 ?_
    refine g_isub dX11_batch_22 ?_
    exact g_iret hR dX11_batch_23 h
