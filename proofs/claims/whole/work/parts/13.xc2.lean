def wX10_worst_9 (K9 : (Int × Int × Int × Int) → Mem → Prop) (Q : Int → Mem → Prop) (l1 : Int) (l2 : Int) (l3 : Int) (l4 : Int) (σ : Mem) : Prop := ((σ 40 0 ≤ l4 → ((¬ l2 = (-1) → (wX5_tellTwo l1 l3 σ (fun m1 => Q l2 m1))) ∧ (l2 = (-1) → Q ((-2)) σ))) ∧ (¬ σ 40 0 ≤ l4 → (wX2_run 40 l4 σ (fun m2 => ((m2 36 2 ≤ l1 → (∀ x3 : Int, x3 = w32 (l4 + 1) → K9 (l1, l2, l3, x3) m2)) ∧ (¬ m2 36 2 ≤ l1 → (∀ x4 : Int, x4 = m2 36 2 → (wJ6_bitCount_0f7a4 (m2 36 0) m2 (fun y6 m5 => (∀ x7 : Int, x7 = w32 (y6 - 1) → (∀ x8 : Int, x8 = w32 (l4 + 1) → K9 (x4, l4, x7, x8) m5)))))))))))
def wLX10_worst_9 (Q : Int → Mem → Prop) (l1 : Int) (l2 : Int) (l3 : Int) (l4 : Int) (σ : Mem) : Prop := ∃ n, lp (fun (K9 : (Int × Int × Int × Int) → Mem → Prop) (x : Int × Int × Int × Int) (σ : Mem) => wX10_worst_9 K9 Q x.1 x.2.1 x.2.2.1 x.2.2.2 σ) n (l1, l2, l3, l4) σ
def wX10_worst (σ : Mem) (Q : Int → Mem → Prop) : Prop := wLX10_worst_9 Q 0 ((-1)) 0 0 σ
set_option maxHeartbeats 1000000 in
theorem bX10_worst_9 {E : TE} {K9 : (Int × Int × Int × Int) → Mem → Prop} (hK9 : ∀ (x : Int × Int × Int × Int) (σ : Mem), K9 x σ → GW E cX10_worst 5 RX10 5 118 σ 9 [(0, vR 0), (1, vI x.1), (2, vI x.2.1), (3, vI x.2.2.1), (4, vI x.2.2.2)] []) {Q : Int → Mem → Prop} (hR : RI E (some .int) Q) {l1 : Int} {l2 : Int} {l3 : Int} {l4 : Int} {σ : Mem} (h : wX10_worst_9 K9 Q l1 l2 l3 l4 σ) : GW E cX10_worst 5 RX10 5 118 σ 9 [(0, vR 0), (1, vI l1), (2, vI l2), (3, vI l3), (4, vI l4)] [] := by
  unfold wX10_worst_9 at h
  refine g_iload dX10_worst_9 rfl ?_
  refine g_aload_n dX10_worst_11 rfl ?_
  refine g_getR (r := 40) fl_10_12 kd_0 rfl dX10_worst_12 ?_
  refine g_getI fl_10_164 (kd_bk0 bk_40) rfl dX10_worst_15 ?_
  obtain ⟨hA, hB⟩ := h
  refine g_icmp_ge (tgt := 75) dX10_worst_18 (by decide) (fun hc => ?_) (fun hc => ?_)
  · replace h := hA hc
    refine g_iload_n dX10_worst_75 rfl ?_
    refine g_iconst dX10_worst_76 (-1) rfl (by decide) ?_
    obtain ⟨hA, hB⟩ := h
    refine g_icmp_ne (tgt := 83) dX10_worst_77 (by decide) (fun hc => ?_) (fun hc => ?_)
    · replace h := hA hc
      refine g_aload_n dX10_worst_83 rfl ?_
      refine g_getR (r := 12) fl_10_54 kd_0 rfl dX10_worst_84 ?_
      refine g_iload_n dX10_worst_87 rfl ?_
      refine g_i2l dX10_worst_88 ?_
      refine g_iload_n dX10_worst_89 rfl ?_
      refine g_i2l dX10_worst_90 ?_
      refine g_cVv (st := []) (av := [vL l1, vL l3]) (kX5_tellTwo h) kd_12 rfl cw_RX10_126 (by decide) (by decide) (Nat.le_of_ble_eq_true rfl) rfl dX10_worst_91 (fun m1 h => ?_)
      refine g_iload_n dX10_worst_94 rfl ?_
      exact g_iret hR dX10_worst_95 h
    · replace h := hB hc
      refine g_bipush dX10_worst_80 (-2) rfl (by decide) ?_
      exact g_iret hR dX10_worst_82 h
  · replace h := hB hc
    refine g_aload_n dX10_worst_21 rfl ?_
    refine g_getR (r := 36) fl_10_82 kd_0 rfl dX10_worst_22 ?_
    refine g_aload_n dX10_worst_25 rfl ?_
    refine g_getR (r := 40) fl_10_12 kd_0 rfl dX10_worst_26 ?_
    refine g_iload dX10_worst_29 rfl ?_
    refine g_cVv (st := []) (av := [vR 40, vI l4]) (kX2_run bk_40 h) kd_36 rfl cw_RX10_321 (by decide) (by decide) (Nat.le_of_ble_eq_true rfl) rfl dX10_worst_31 (fun m2 h => ?_)
    refine g_aload_n dX10_worst_34 rfl ?_
    refine g_getR (r := 36) fl_10_82 kd_0 rfl dX10_worst_35 ?_
    refine g_getI fl_10_328 kd_36 rfl dX10_worst_38 ?_
    refine g_iload_n dX10_worst_41 rfl ?_
    obtain ⟨hA, hB⟩ := h
    refine g_icmp_le (tgt := 69) dX10_worst_42 (by decide) (fun hc => ?_) (fun hc => ?_)
    · replace h := hA hc
      refine g_iinc (lv' := [(4, vI (w32 (l4 + 1))), (0, vR 0), (1, vI l1), (2, vI l2), (3, vI l3)]) dX10_worst_69 rfl (by decide) rfl ?_
      refine g_loc (a := w32 (l4 + 1)) (i := 4) (lv := [(0, vR 0), (1, vI l1), (2, vI l2), (3, vI l3)]) (fun x3 ex3 => ?_)
      replace h := h x3 ex3
      refine g_goto (tgt := 9) dX10_worst_72 (by decide) ?_
      refine g_lv (lv' := [(0, vR 0), (1, vI l1), (2, vI l2), (3, vI l3), (4, vI x3)]) [1, 2, 3, 4, 0] rfl ?_
      exact hK9 ((l1, l2, l3, x3)) m2 h
    · replace h := hB hc
      refine g_aload_n dX10_worst_45 rfl ?_
      refine g_getR (r := 36) fl_10_82 kd_0 rfl dX10_worst_46 ?_
      refine g_getI fl_10_328 kd_36 rfl dX10_worst_49 ?_
      refine g_topI (fun x4 ex4 => ?_)
      replace h := h x4 ex4
      refine g_istore_n (lv' := [(1, vI x4), (0, vR 0), (2, vI l2), (3, vI l3), (4, vI l4)]) dX10_worst_52 (by decide) rfl ?_
      refine g_iload dX10_worst_53 rfl ?_
      refine g_istore_n (lv' := [(2, vI l4), (1, vI x4), (0, vR 0), (3, vI l3), (4, vI l4)]) dX10_worst_55 (by decide) rfl ?_
      refine g_aload_n dX10_worst_56 rfl ?_
      refine g_getR (r := 36) fl_10_82 kd_0 rfl dX10_worst_57 ?_
      refine g_getI fl_10_325 kd_36 rfl dX10_worst_60 ?_
      refine g_cJi (st := []) (av := [vI (m2 36 0)]) (kJ6_bitCount_0f7a4 h) cw_RX10_196 (by decide) (by decide) (Nat.le_of_ble_eq_true rfl) rfl dX10_worst_63 (fun y6 m5 h => ?_)
      refine g_iconst dX10_worst_66 1 rfl (by decide) ?_
      refine g_isub dX10_worst_67 ?_
      refine g_topI (fun x7 ex7 => ?_)
      replace h := h x7 ex7
      refine g_istore_n (lv' := [(3, vI x7), (2, vI l4), (1, vI x4), (0, vR 0), (4, vI l4)]) dX10_worst_68 (by decide) rfl ?_
      refine g_iinc (lv' := [(4, vI (w32 (l4 + 1))), (3, vI x7), (2, vI l4), (1, vI x4), (0, vR 0)]) dX10_worst_69 rfl (by decide) rfl ?_
      refine g_loc (a := w32 (l4 + 1)) (i := 4) (lv := [(3, vI x7), (2, vI l4), (1, vI x4), (0, vR 0)]) (fun x8 ex8 => ?_)
      replace h := h x8 ex8
      refine g_goto (tgt := 9) dX10_worst_72 (by decide) ?_
      refine g_lv (lv' := [(0, vR 0), (1, vI x4), (2, vI l4), (3, vI x7), (4, vI x8)]) [4, 3, 2, 1, 0] rfl ?_
      exact hK9 ((x4, l4, x7, x8)) m5 h
theorem eX10_worst_9 {E : TE} {Q : Int → Mem → Prop} (hR : RI E (some .int) Q) {l1 : Int} {l2 : Int} {l3 : Int} {l4 : Int} {σ : Mem} (h : wLX10_worst_9 Q l1 l2 l3 l4 σ) : GW E cX10_worst 5 RX10 5 118 σ 9 [(0, vR 0), (1, vI l1), (2, vI l2), (3, vI l3), (4, vI l4)] [] := by
  obtain ⟨n, h⟩ := h
  exact lp_GW (P := fun (x : Int × Int × Int × Int) (σ : Mem) => GW E cX10_worst 5 RX10 5 118 σ 9 [(0, vR 0), (1, vI x.1), (2, vI x.2.1), (3, vI x.2.2.1), (4, vI x.2.2.2)] []) (fun K hK x σ h  => bX10_worst_9 hK hR h) n _ σ h 
set_option maxHeartbeats 1000000 in
theorem kX10_worst {σ : Mem} {Q : Int → Mem → Prop} (h : wX10_worst σ Q) (l : Launch) (D : va_G) (cy : Nat → ClassId) (ad : Nat → Nat) : MI l yX10_worst cX10_worst 5 (some .int) 5 118 D cy ad [vR 0] σ Q := by
  refine m_I (own := RX10) (lv := [(0, vR 0)]) (by decide +kernel) rfl (Nat.le_of_ble_eq_true rfl) rfl (fun E hR => ?_) l D cy ad
  unfold wX10_worst at h
  refine g_iconst dX10_worst_0 0 rfl (by decide) ?_
  refine g_istore_n (lv' := [(1, vI 0), (0, vR 0)]) dX10_worst_1 (by decide) rfl ?_
  refine g_iconst dX10_worst_2 (-1) rfl (by decide) ?_
  refine g_istore_n (lv' := [(2, vI ((-1))), (1, vI 0), (0, vR 0)]) dX10_worst_3 (by decide) rfl ?_
  refine g_iconst dX10_worst_4 0 rfl (by decide) ?_
  refine g_istore_n (lv' := [(3, vI 0), (2, vI ((-1))), (1, vI 0), (0, vR 0)]) dX10_worst_5 (by decide) rfl ?_
  refine g_iconst dX10_worst_6 0 rfl (by decide) ?_
  refine g_istore (lv' := [(4, vI 0), (3, vI 0), (2, vI ((-1))), (1, vI 0), (0, vR 0)]) dX10_worst_7 (by decide) rfl ?_
  refine g_lv (lv' := [(0, vR 0), (1, vI 0), (2, vI ((-1))), (3, vI 0), (4, vI 0)]) [4, 3, 2, 1, 0] rfl ?_
  exact eX10_worst_9 hR h
def wJ6_numberOfTrailingZeros_0f7a4_74 (Q : Int → Mem → Prop) (l0 : Int) (l1 : Int) (σ : Mem) : Prop := Q (w32 (l1 + (bushr l0 1))) σ
def wJ6_numberOfTrailingZeros_0f7a4_62 (Q : Int → Mem → Prop) (l0 : Int) (l1 : Int) (σ : Mem) : Prop := ((l0 ≤ 4 → wJ6_numberOfTrailingZeros_0f7a4_74 Q l0 l1 σ) ∧ (¬ l0 ≤ 4 → (∀ x1 : Int, x1 = w32 (l1 + 2) → (∀ x2 : Int, x2 = bushr l0 2 → wJ6_numberOfTrailingZeros_0f7a4_74 Q x2 x1 σ))))
def wJ6_numberOfTrailingZeros_0f7a4_49 (Q : Int → Mem → Prop) (l0 : Int) (l1 : Int) (σ : Mem) : Prop := ((l0 ≤ 16 → wJ6_numberOfTrailingZeros_0f7a4_62 Q l0 l1 σ) ∧ (¬ l0 ≤ 16 → (∀ x1 : Int, x1 = w32 (l1 + 4) → (∀ x2 : Int, x2 = bushr l0 4 → wJ6_numberOfTrailingZeros_0f7a4_62 Q x2 x1 σ))))
def wJ6_numberOfTrailingZeros_0f7a4_34 (Q : Int → Mem → Prop) (l0 : Int) (l1 : Int) (σ : Mem) : Prop := ((l0 ≤ 256 → wJ6_numberOfTrailingZeros_0f7a4_49 Q l0 l1 σ) ∧ (¬ l0 ≤ 256 → (∀ x1 : Int, x1 = w32 (l1 + 8) → (∀ x2 : Int, x2 = bushr l0 8 → wJ6_numberOfTrailingZeros_0f7a4_49 Q x2 x1 σ))))
def wJ6_numberOfTrailingZeros_0f7a4 (l0 : Int) (σ : Mem) (Q : Int → Mem → Prop) : Prop := (∀ x1 : Int, x1 = band (bxor l0 ((-1))) (w32 (l0 - 1)) → ((0 < x1 → ((x1 ≤ 65536 → wJ6_numberOfTrailingZeros_0f7a4_34 Q x1 1 σ) ∧ (¬ x1 ≤ 65536 → (∀ x2 : Int, x2 = w32 (1 + 16) → (∀ x3 : Int, x3 = bushr x1 16 → wJ6_numberOfTrailingZeros_0f7a4_34 Q x3 x2 σ))))) ∧ (¬ 0 < x1 → Q (band x1 32) σ)))
set_option maxHeartbeats 1000000 in
theorem bJ6_numberOfTrailingZeros_0f7a4_74 {E : TE} {Q : Int → Mem → Prop} (hR : RI E (some .int) Q) {l0 : Int} {l1 : Int} {σ : Mem} (h : wJ6_numberOfTrailingZeros_0f7a4_74 Q l0 l1 σ) : GW E cJ6_numberOfTrailingZeros_0f7a4 2 RJ6 0 0 σ 74 [(0, vI l0), (1, vI l1)] [] := by
  unfold wJ6_numberOfTrailingZeros_0f7a4_74 at h
  refine g_iload_n dJ6_numberOfTrailingZeros_0f7a4_74 rfl ?_
  refine g_iload_n dJ6_numberOfTrailingZeros_0f7a4_75 rfl ?_
  refine g_iconst dJ6_numberOfTrailingZeros_0f7a4_76 1 rfl (by decide) ?_
  refine g_iushr dJ6_numberOfTrailingZeros_0f7a4_77 ?_
  refine g_iadd dJ6_numberOfTrailingZeros_0f7a4_78 ?_
  exact g_iret hR dJ6_numberOfTrailingZeros_0f7a4_79 h
set_option maxHeartbeats 1000000 in
theorem bJ6_numberOfTrailingZeros_0f7a4_62 {E : TE} {Q : Int → Mem → Prop} (hR : RI E (some .int) Q) {l0 : Int} {l1 : Int} {σ : Mem} (h : wJ6_numberOfTrailingZeros_0f7a4_62 Q l0 l1 σ) : GW E cJ6_numberOfTrailingZeros_0f7a4 2 RJ6 0 0 σ 62 [(0, vI l0), (1, vI l1)] [] := by
  unfold wJ6_numberOfTrailingZeros_0f7a4_62 at h
  refine g_iload_n dJ6_numberOfTrailingZeros_0f7a4_62 rfl ?_
  refine g_iconst dJ6_numberOfTrailingZeros_0f7a4_63 4 rfl (by decide) ?_
  obtain ⟨hA, hB⟩ := h
  refine g_icmp_le (tgt := 74) dJ6_numberOfTrailingZeros_0f7a4_64 (by decide) (fun hc => ?_) (fun hc => ?_)
  · replace h := hA hc
    exact bJ6_numberOfTrailingZeros_0f7a4_74 hR h
  · replace h := hB hc
    refine g_iinc (lv' := [(1, vI (w32 (l1 + 2))), (0, vI l0)]) dJ6_numberOfTrailingZeros_0f7a4_67 rfl (by decide) rfl ?_
    refine g_loc (a := w32 (l1 + 2)) (i := 1) (lv := [(0, vI l0)]) (fun x1 ex1 => ?_)
    replace h := h x1 ex1
    refine g_iload_n dJ6_numberOfTrailingZeros_0f7a4_70 rfl ?_
    refine g_iconst dJ6_numberOfTrailingZeros_0f7a4_71 2 rfl (by decide) ?_
    refine g_iushr dJ6_numberOfTrailingZeros_0f7a4_72 ?_
    refine g_topI (fun x2 ex2 => ?_)
    replace h := h x2 ex2
    refine g_istore_n (lv' := [(0, vI x2), (1, vI x1)]) dJ6_numberOfTrailingZeros_0f7a4_73 (by decide) rfl ?_
    exact bJ6_numberOfTrailingZeros_0f7a4_74 hR h
set_option maxHeartbeats 1000000 in
theorem bJ6_numberOfTrailingZeros_0f7a4_49 {E : TE} {Q : Int → Mem → Prop} (hR : RI E (some .int) Q) {l0 : Int} {l1 : Int} {σ : Mem} (h : wJ6_numberOfTrailingZeros_0f7a4_49 Q l0 l1 σ) : GW E cJ6_numberOfTrailingZeros_0f7a4 2 RJ6 0 0 σ 49 [(0, vI l0), (1, vI l1)] [] := by
  unfold wJ6_numberOfTrailingZeros_0f7a4_49 at h
  refine g_iload_n dJ6_numberOfTrailingZeros_0f7a4_49 rfl ?_
  refine g_bipush dJ6_numberOfTrailingZeros_0f7a4_50 16 rfl (by decide) ?_
  obtain ⟨hA, hB⟩ := h
  refine g_icmp_le (tgt := 62) dJ6_numberOfTrailingZeros_0f7a4_52 (by decide) (fun hc => ?_) (fun hc => ?_)
  · replace h := hA hc
    exact bJ6_numberOfTrailingZeros_0f7a4_62 hR h
  · replace h := hB hc
    refine g_iinc (lv' := [(1, vI (w32 (l1 + 4))), (0, vI l0)]) dJ6_numberOfTrailingZeros_0f7a4_55 rfl (by decide) rfl ?_
    refine g_loc (a := w32 (l1 + 4)) (i := 1) (lv := [(0, vI l0)]) (fun x1 ex1 => ?_)
    replace h := h x1 ex1
    refine g_iload_n dJ6_numberOfTrailingZeros_0f7a4_58 rfl ?_
    refine g_iconst dJ6_numberOfTrailingZeros_0f7a4_59 4 rfl (by decide) ?_
    refine g_iushr dJ6_numberOfTrailingZeros_0f7a4_60 ?_
    refine g_topI (fun x2 ex2 => ?_)
    replace h := h x2 ex2
    refine g_istore_n (lv' := [(0, vI x2), (1, vI x1)]) dJ6_numberOfTrailingZeros_0f7a4_61 (by decide) rfl ?_
    exact bJ6_numberOfTrailingZeros_0f7a4_62 hR h
set_option maxHeartbeats 1000000 in
theorem bJ6_numberOfTrailingZeros_0f7a4_34 {E : TE} {Q : Int → Mem → Prop} (hR : RI E (some .int) Q) {l0 : Int} {l1 : Int} {σ : Mem} (h : wJ6_numberOfTrailingZeros_0f7a4_34 Q l0 l1 σ) : GW E cJ6_numberOfTrailingZeros_0f7a4 2 RJ6 0 0 σ 34 [(0, vI l0), (1, vI l1)] [] := by
  unfold wJ6_numberOfTrailingZeros_0f7a4_34 at h
  refine g_iload_n dJ6_numberOfTrailingZeros_0f7a4_34 rfl ?_
  refine g_sipush dJ6_numberOfTrailingZeros_0f7a4_35 256 rfl (by decide) ?_
  obtain ⟨hA, hB⟩ := h
  refine g_icmp_le (tgt := 49) dJ6_numberOfTrailingZeros_0f7a4_38 (by decide) (fun hc => ?_) (fun hc => ?_)
  · replace h := hA hc
    exact bJ6_numberOfTrailingZeros_0f7a4_49 hR h
  · replace h := hB hc
    refine g_iinc (lv' := [(1, vI (w32 (l1 + 8))), (0, vI l0)]) dJ6_numberOfTrailingZeros_0f7a4_41 rfl (by decide) rfl ?_
    refine g_loc (a := w32 (l1 + 8)) (i := 1) (lv := [(0, vI l0)]) (fun x1 ex1 => ?_)
    replace h := h x1 ex1
    refine g_iload_n dJ6_numberOfTrailingZeros_0f7a4_44 rfl ?_
    refine g_bipush dJ6_numberOfTrailingZeros_0f7a4_45 8 rfl (by decide) ?_
    refine g_iushr dJ6_numberOfTrailingZeros_0f7a4_47 ?_
    refine g_topI (fun x2 ex2 => ?_)
    replace h := h x2 ex2
    refine g_istore_n (lv' := [(0, vI x2), (1, vI x1)]) dJ6_numberOfTrailingZeros_0f7a4_48 (by decide) rfl ?_
    exact bJ6_numberOfTrailingZeros_0f7a4_49 hR h
set_option maxHeartbeats 1000000 in
theorem kJ6_numberOfTrailingZeros_0f7a4 {l0 : Int} {σ : Mem} {Q : Int → Mem → Prop} (h : wJ6_numberOfTrailingZeros_0f7a4 l0 σ Q) (l : Launch) (D : va_G) (cy : Nat → ClassId) (ad : Nat → Nat) : MI l yJ6_numberOfTrailingZeros_0f7a4 cJ6_numberOfTrailingZeros_0f7a4 2 (some .int) 0 0 D cy ad [vI l0] σ Q := by
  refine m_I (own := RJ6) (lv := [(0, vI l0)]) (by decide +kernel) rfl (Nat.le_of_ble_eq_true rfl) rfl (fun E hR => ?_) l D cy ad
  unfold wJ6_numberOfTrailingZeros_0f7a4 at h
  refine g_iload_n dJ6_numberOfTrailingZeros_0f7a4_0 rfl ?_
  refine g_iconst dJ6_numberOfTrailingZeros_0f7a4_1 (-1) rfl (by decide) ?_
  refine g_ixor dJ6_numberOfTrailingZeros_0f7a4_2 ?_
  refine g_iload_n dJ6_numberOfTrailingZeros_0f7a4_3 rfl ?_
  refine g_iconst dJ6_numberOfTrailingZeros_0f7a4_4 1 rfl (by decide) ?_
  refine g_isub dJ6_numberOfTrailingZeros_0f7a4_5 ?_
  refine g_iand dJ6_numberOfTrailingZeros_0f7a4_6 ?_
  refine g_topI (fun x1 ex1 => ?_)
  replace h := h x1 ex1
  refine g_istore_n (lv' := [(0, vI x1)]) dJ6_numberOfTrailingZeros_0f7a4_7 (by decide) rfl ?_
  refine g_iload_n dJ6_numberOfTrailingZeros_0f7a4_8 rfl ?_
  obtain ⟨hA, hB⟩ := h
  refine g_if_gt (tgt := 17) dJ6_numberOfTrailingZeros_0f7a4_9 (by decide) (fun hc => ?_) (fun hc => ?_)
  · replace h := hA hc
    refine g_iconst dJ6_numberOfTrailingZeros_0f7a4_17 1 rfl (by decide) ?_
    refine g_istore_n (lv' := [(1, vI 1), (0, vI x1)]) dJ6_numberOfTrailingZeros_0f7a4_18 (by decide) rfl ?_
    refine g_iload_n dJ6_numberOfTrailingZeros_0f7a4_19 rfl ?_
    refine g_ldc_w dJ6_numberOfTrailingZeros_0f7a4_20 65536 q_865 (by decide) ?_
    obtain ⟨hA, hB⟩ := h
    refine g_icmp_le (tgt := 34) dJ6_numberOfTrailingZeros_0f7a4_23 (by decide) (fun hc => ?_) (fun hc => ?_)
    · replace h := hA hc
      refine g_lv (lv' := [(0, vI x1), (1, vI 1)]) [1, 0] rfl ?_
      exact bJ6_numberOfTrailingZeros_0f7a4_34 hR h
    · replace h := hB hc
      refine g_iinc (lv' := [(1, vI (w32 (1 + 16))), (0, vI x1)]) dJ6_numberOfTrailingZeros_0f7a4_26 rfl (by decide) rfl ?_
      refine g_loc (a := w32 (1 + 16)) (i := 1) (lv := [(0, vI x1)]) (fun x2 ex2 => ?_)
      replace h := h x2 ex2
      refine g_iload_n dJ6_numberOfTrailingZeros_0f7a4_29 rfl ?_
      refine g_bipush dJ6_numberOfTrailingZeros_0f7a4_30 16 rfl (by decide) ?_
      refine g_iushr dJ6_numberOfTrailingZeros_0f7a4_32 ?_
      refine g_topI (fun x3 ex3 => ?_)
      replace h := h x3 ex3
      refine g_istore_n (lv' := [(0, vI x3), (1, vI x2)]) dJ6_numberOfTrailingZeros_0f7a4_33 (by decide) rfl ?_
      exact bJ6_numberOfTrailingZeros_0f7a4_34 hR h
  · replace h := hB hc
    refine g_iload_n dJ6_numberOfTrailingZeros_0f7a4_12 rfl ?_
    refine g_bipush dJ6_numberOfTrailingZeros_0f7a4_13 32 rfl (by decide) ?_
    refine g_iand dJ6_numberOfTrailingZeros_0f7a4_15 ?_
    exact g_iret hR dJ6_numberOfTrailingZeros_0f7a4_16 h
def wX10_enough (l1 : Int) (σ : Mem) (Q : Int → Mem → Prop) : Prop := (wX1_has 40 l1 σ (fun y2 m1 => ((¬ y2 = 0 → (∀ x3 : Int, x3 = bshl 1 l1 → (wX2_nextToFail 40 x3 m1 (fun y5 m4 => ((¬ y5 = 0 → (wJ6_bitCount_0f7a4 y5 m4 (fun y7 m6 => ((y7 ≤ 1 → (wJ6_numberOfTrailingZeros_0f7a4 y5 m6 (fun y9 m8 => (wX1_has 40 y9 m8 (fun y11 m10 => ((¬ y11 = 0 → (wX2_lossOf 40 y9 x3 m10 (fun y13 m12 => ((0 ≤ y9 ∧ y9 < 8) ∧ (wX5_tellOne (w32 (y13 - (m12 (40 + 3) y9.toNat))) m12 (fun m14 => Q y9 m14)))))) ∧ (y11 = 0 → Q ((-3)) m10))))))) ∧ (¬ y7 ≤ 1 → Q ((-3)) m6))))) ∧ (y5 = 0 → Q ((-2)) m4)))))) ∧ (y2 = 0 → Q ((-1)) m1))))
set_option maxHeartbeats 1000000 in
theorem kX10_enough {l1 : Int} {σ : Mem} {Q : Int → Mem → Prop} (h : wX10_enough l1 σ Q) (l : Launch) (D : va_G) (cy : Nat → ClassId) (ad : Nat → Nat) : MI l yX10_enough cX10_enough 5 (some .int) 4 93 D cy ad [vR 0, vI l1] σ Q := by
  refine m_I (own := RX10) (lv := [(0, vR 0), (1, vI l1)]) (by decide +kernel) rfl (Nat.le_of_ble_eq_true rfl) rfl (fun E hR => ?_) l D cy ad
  unfold wX10_enough at h
  refine g_aload_n dX10_enough_0 rfl ?_
  refine g_getR (r := 40) fl_10_12 kd_0 rfl dX10_enough_1 ?_
  refine g_iload_n dX10_enough_4 rfl ?_
  refine g_cVi (st := []) (av := [vI l1]) (kX1_has bk_40 h) (kd_bk0 bk_40) rfl cw_RX10_111 (by decide) (by decide) (Nat.le_of_ble_eq_true rfl) rfl dX10_enough_5 (fun y2 m1 h => ?_)
  obtain ⟨hA, hB⟩ := h
  refine g_if_ne (tgt := 13) dX10_enough_8 (by decide) (fun hc => ?_) (fun hc => ?_)
  · replace h := hA hc
    refine g_iconst dX10_enough_13 1 rfl (by decide) ?_
    refine g_iload_n dX10_enough_14 rfl ?_
    refine g_ishl dX10_enough_15 ?_
    refine g_topI (fun x3 ex3 => ?_)
    replace h := h x3 ex3
    refine g_istore_n (lv' := [(2, vI x3), (0, vR 0), (1, vI l1)]) dX10_enough_16 (by decide) rfl ?_
    refine g_aload_n dX10_enough_17 rfl ?_
    refine g_getR (r := 40) fl_10_12 kd_0 rfl dX10_enough_18 ?_
    refine g_iload_n dX10_enough_21 rfl ?_
    refine g_cJi (st := []) (av := [vR 40, vI x3]) (kX2_nextToFail bk_40 h) cw_RX10_337 (by decide) (by decide) (Nat.le_of_ble_eq_true rfl) rfl dX10_enough_22 (fun y5 m4 h => ?_)
    refine g_istore_n (lv' := [(3, vI y5), (2, vI x3), (0, vR 0), (1, vI l1)]) dX10_enough_25 (by decide) rfl ?_
    refine g_iload_n dX10_enough_26 rfl ?_
    obtain ⟨hA, hB⟩ := h
    refine g_if_ne (tgt := 33) dX10_enough_27 (by decide) (fun hc => ?_) (fun hc => ?_)
    · replace h := hA hc
      refine g_iload_n dX10_enough_33 rfl ?_
      refine g_cJi (st := []) (av := [vI y5]) (kJ6_bitCount_0f7a4 h) cw_RX10_196 (by decide) (by decide) (Nat.le_of_ble_eq_true rfl) rfl dX10_enough_34 (fun y7 m6 h => ?_)
      refine g_iconst dX10_enough_37 1 rfl (by decide) ?_
      obtain ⟨hA, hB⟩ := h
      refine g_icmp_le (tgt := 44) dX10_enough_38 (by decide) (fun hc => ?_) (fun hc => ?_)
      · replace h := hA hc
        refine g_iload_n dX10_enough_44 rfl ?_
        refine g_cJi (st := []) (av := [vI y5]) (kJ6_numberOfTrailingZeros_0f7a4 h) cw_RX10_341 (by decide) (by decide) (Nat.le_of_ble_eq_true rfl) rfl dX10_enough_45 (fun y9 m8 h => ?_)
        refine g_istore (lv' := [(4, vI y9), (3, vI y5), (2, vI x3), (0, vR 0), (1, vI l1)]) dX10_enough_48 (by decide) rfl ?_
        refine g_aload_n dX10_enough_50 rfl ?_
        refine g_getR (r := 40) fl_10_12 kd_0 rfl dX10_enough_51 ?_
        refine g_iload dX10_enough_54 rfl ?_
        refine g_cVi (st := []) (av := [vI y9]) (kX1_has bk_40 h) (kd_bk0 bk_40) rfl cw_RX10_111 (by decide) (by decide) (Nat.le_of_ble_eq_true rfl) rfl dX10_enough_56 (fun y11 m10 h => ?_)
        obtain ⟨hA, hB⟩ := h
        refine g_if_ne (tgt := 65) dX10_enough_59 (by decide) (fun hc => ?_) (fun hc => ?_)
        · replace h := hA hc
          refine g_aload_n dX10_enough_65 rfl ?_
          refine g_getR (r := 12) fl_10_54 kd_0 rfl dX10_enough_66 ?_
          refine g_aload_n dX10_enough_69 rfl ?_
          refine g_getR (r := 40) fl_10_12 kd_0 rfl dX10_enough_70 ?_
          refine g_iload dX10_enough_73 rfl ?_
          refine g_iload_n dX10_enough_75 rfl ?_
          refine g_cJi (st := [vR 12]) (av := [vR 40, vI y9, vI x3]) (kX2_lossOf bk_40 h) cw_RX10_344 (by decide) (by decide) (Nat.le_of_ble_eq_true rfl) rfl dX10_enough_76 (fun y13 m12 h => ?_)
          refine g_aload_n dX10_enough_79 rfl ?_
          refine g_getR (r := 40) fl_10_12 kd_0 rfl dX10_enough_80 ?_
          refine g_getR (r := 40 + 3) fl_10_348 (kd_bk0 bk_40) rfl dX10_enough_83 ?_
          refine g_iload dX10_enough_86 rfl ?_
          obtain ⟨hin, h⟩ := h
          refine g_iald (kd_bk3 bk_40) hin dX10_enough_88 ?_
          refine g_isub dX10_enough_89 ?_
          refine g_i2l dX10_enough_90 ?_
          refine g_cVv (st := []) (av := [vL (w32 (y13 - (m12 (40 + 3) y9.toNat)))]) (kX5_tellOne h) kd_12 rfl cw_RX10_202 (by decide) (by decide) (Nat.le_of_ble_eq_true rfl) rfl dX10_enough_91 (fun m14 h => ?_)
          refine g_iload dX10_enough_94 rfl ?_
          exact g_iret hR dX10_enough_96 h
        · replace h := hB hc
          refine g_bipush dX10_enough_62 (-3) rfl (by decide) ?_
          exact g_iret hR dX10_enough_64 h
      · replace h := hB hc
        refine g_bipush dX10_enough_41 (-3) rfl (by decide) ?_
        exact g_iret hR dX10_enough_43 h
    · replace h := hB hc
      refine g_bipush dX10_enough_30 (-2) rfl (by decide) ?_
      exact g_iret hR dX10_enough_32 h
  · replace h := hB hc
    refine g_iconst dX10_enough_11 (-1) rfl (by decide) ?_
    exact g_iret hR dX10_enough_12 h
def wX10_mostWithout (l1 : Int) (l2 : Int) (l3 : Int) (σ : Mem) (Q : Int → Mem → Prop) : Prop := (wX4_load 40 σ (fun m1 => (wX4_bar l3 m1 (fun m2 => (wX4_send l1 l2 1000000 m2 (fun y4 m3 => Q y4 m3))))))
set_option maxHeartbeats 1000000 in
theorem kX10_mostWithout {l1 : Int} {l2 : Int} {l3 : Int} {σ : Mem} {Q : Int → Mem → Prop} (h : wX10_mostWithout l1 l2 l3 σ Q) (l : Launch) (D : va_G) (cy : Nat → ClassId) (ad : Nat → Nat) : MI l yX10_mostWithout cX10_mostWithout 4 (some .int) 4 99 D cy ad [vR 0, vI l1, vI l2, vI l3] σ Q := by
  refine m_I (own := RX10) (lv := [(0, vR 0), (1, vI l1), (2, vI l2), (3, vI l3)]) (by decide +kernel) rfl (Nat.le_of_ble_eq_true rfl) rfl (fun E hR => ?_) l D cy ad
  unfold wX10_mostWithout at h
  refine g_aload_n dX10_mostWithout_0 rfl ?_
  refine g_getR (r := 14) fl_10_61 kd_0 rfl dX10_mostWithout_1 ?_
  refine g_aload_n dX10_mostWithout_4 rfl ?_
  refine g_getR (r := 40) fl_10_12 kd_0 rfl dX10_mostWithout_5 ?_
  refine g_cVv (st := []) (av := [vR 40]) (kX4_load bk_40 h) kd_14 rfl cw_RX10_178 (by decide) (by decide) (Nat.le_of_ble_eq_true rfl) rfl dX10_mostWithout_8 (fun m1 h => ?_)
  refine g_aload_n dX10_mostWithout_11 rfl ?_
  refine g_getR (r := 14) fl_10_61 kd_0 rfl dX10_mostWithout_12 ?_
  refine g_iload_n dX10_mostWithout_15 rfl ?_
  refine g_cVv (st := []) (av := [vI l3]) (kX4_bar h) kd_14 rfl cw_RX10_354 (by decide) (by decide) (Nat.le_of_ble_eq_true rfl) rfl dX10_mostWithout_16 (fun m2 h => ?_)
  refine g_aload_n dX10_mostWithout_19 rfl ?_
  refine g_getR (r := 14) fl_10_61 kd_0 rfl dX10_mostWithout_20 ?_
  refine g_iload_n dX10_mostWithout_23 rfl ?_
  refine g_iload_n dX10_mostWithout_24 rfl ?_
  refine g_ldc dX10_mostWithout_25 1000000 q_628 (by decide) ?_
  refine g_cVi (st := []) (av := [vI l1, vI l2, vI 1000000]) (kX4_send h) kd_14 rfl cw_RX10_207 (by decide) (by decide) (Nat.le_of_ble_eq_true rfl) rfl dX10_mostWithout_27 (fun y4 m3 h => ?_)
  exact g_iret hR dX10_mostWithout_30 h
def wX10_without (l1 : Int) (l2 : Int) (l3 : Int) (σ : Mem) (Q : Int → Mem → Prop) : Prop := (wX1_hasBoth 40 l1 l2 σ (fun y2 m1 => ((y2 = 0 → Q ((-1)) m1) ∧ (¬ y2 = 0 → (wX1_has 40 l3 m1 (fun y4 m3 => ((y4 = 0 → Q ((-1)) m3) ∧ (¬ y4 = 0 → ((l3 = l1 → Q ((-1)) m3) ∧ (¬ l3 = l1 → ((¬ l3 = l2 → (wX4_load 40 m3 (fun m5 => (wX4_send l1 l2 1000000 m5 (fun y7 m6 => (wX10_mostWithout l1 l2 l3 m6 (fun y9 m8 => (wX5_tellOne (w32 (y7 - y9)) m8 (fun m10 => Q y9 m10))))))))) ∧ (l3 = l2 → Q ((-1)) m3))))))))))))
set_option maxHeartbeats 1000000 in
theorem kX10_without {l1 : Int} {l2 : Int} {l3 : Int} {σ : Mem} {Q : Int → Mem → Prop} (h : wX10_without l1 l2 l3 σ Q) (l : Launch) (D : va_G) (cy : Nat → ClassId) (ad : Nat → Nat) : MI l yX10_without cX10_without 6 (some .int) 5 122 D cy ad [vR 0, vI l1, vI l2, vI l3] σ Q := by
  refine m_I (own := RX10) (lv := [(0, vR 0), (1, vI l1), (2, vI l2), (3, vI l3)]) (by decide +kernel) rfl (Nat.le_of_ble_eq_true rfl) rfl (fun E hR => ?_) l D cy ad
  unfold wX10_without at h
  refine g_aload_n dX10_without_0 rfl ?_
  refine g_getR (r := 40) fl_10_12 kd_0 rfl dX10_without_1 ?_
  refine g_iload_n dX10_without_4 rfl ?_
  refine g_iload_n dX10_without_5 rfl ?_
  refine g_cVi (st := []) (av := [vI l1, vI l2]) (kX1_hasBoth bk_40 h) (kd_bk0 bk_40) rfl cw_RX10_143 (by decide) (by decide) (Nat.le_of_ble_eq_true rfl) rfl dX10_without_6 (fun y2 m1 h => ?_)
  obtain ⟨hA, hB⟩ := h
  refine g_if_eq (tgt := 33) dX10_without_9 (by decide) (fun hc => ?_) (fun hc => ?_)
  · replace h := hA hc
    refine g_iconst dX10_without_33 (-1) rfl (by decide) ?_
    exact g_iret hR dX10_without_34 h
  · replace h := hB hc
    refine g_aload_n dX10_without_12 rfl ?_
    refine g_getR (r := 40) fl_10_12 kd_0 rfl dX10_without_13 ?_
    refine g_iload_n dX10_without_16 rfl ?_
    refine g_cVi (st := []) (av := [vI l3]) (kX1_has bk_40 h) (kd_bk0 bk_40) rfl cw_RX10_111 (by decide) (by decide) (Nat.le_of_ble_eq_true rfl) rfl dX10_without_17 (fun y4 m3 h => ?_)
    obtain ⟨hA, hB⟩ := h
    refine g_if_eq (tgt := 33) dX10_without_20 (by decide) (fun hc => ?_) (fun hc => ?_)
    · replace h := hA hc
      refine g_iconst dX10_without_33 (-1) rfl (by decide) ?_
      exact g_iret hR dX10_without_34 h
    · replace h := hB hc
      refine g_iload_n dX10_without_23 rfl ?_
      refine g_iload_n dX10_without_24 rfl ?_
      obtain ⟨hA, hB⟩ := h
      refine g_icmp_eq (tgt := 33) dX10_without_25 (by decide) (fun hc => ?_) (fun hc => ?_)
      · replace h := hA hc
        refine g_iconst dX10_without_33 (-1) rfl (by decide) ?_
        exact g_iret hR dX10_without_34 h
      · replace h := hB hc
        refine g_iload_n dX10_without_28 rfl ?_
        refine g_iload_n dX10_without_29 rfl ?_
        obtain ⟨hA, hB⟩ := h
        refine g_icmp_ne (tgt := 35) dX10_without_30 (by decide) (fun hc => ?_) (fun hc => ?_)
        · replace h := hA hc
          refine g_aload_n dX10_without_35 rfl ?_
          refine g_getR (r := 14) fl_10_61 kd_0 rfl dX10_without_36 ?_
          refine g_aload_n dX10_without_39 rfl ?_
          refine g_getR (r := 40) fl_10_12 kd_0 rfl dX10_without_40 ?_
          refine g_cVv (st := []) (av := [vR 40]) (kX4_load bk_40 h) kd_14 rfl cw_RX10_178 (by decide) (by decide) (Nat.le_of_ble_eq_true rfl) rfl dX10_without_43 (fun m5 h => ?_)
          refine g_aload_n dX10_without_46 rfl ?_
          refine g_getR (r := 14) fl_10_61 kd_0 rfl dX10_without_47 ?_
          refine g_iload_n dX10_without_50 rfl ?_
          refine g_iload_n dX10_without_51 rfl ?_
          refine g_ldc dX10_without_52 1000000 q_628 (by decide) ?_
          refine g_cVi (st := []) (av := [vI l1, vI l2, vI 1000000]) (kX4_send h) kd_14 rfl cw_RX10_207 (by decide) (by decide) (Nat.le_of_ble_eq_true rfl) rfl dX10_without_54 (fun y7 m6 h => ?_)
          refine g_istore (lv' := [(4, vI y7), (0, vR 0), (1, vI l1), (2, vI l2), (3, vI l3)]) dX10_without_57 (by decide) rfl ?_
          refine g_aload_n dX10_without_59 rfl ?_
          refine g_iload_n dX10_without_60 rfl ?_
          refine g_iload_n dX10_without_61 rfl ?_
          refine g_iload_n dX10_without_62 rfl ?_
          refine g_cVi (st := []) (av := [vI l1, vI l2, vI l3]) (kX10_mostWithout h) kd_0 rfl cw_RX10_351 (by decide) (by decide) (Nat.le_of_ble_eq_true rfl) rfl dX10_without_63 (fun y9 m8 h => ?_)
          refine g_istore (lv' := [(5, vI y9), (4, vI y7), (0, vR 0), (1, vI l1), (2, vI l2), (3, vI l3)]) dX10_without_66 (by decide) rfl ?_
          refine g_aload_n dX10_without_68 rfl ?_
          refine g_getR (r := 12) fl_10_54 kd_0 rfl dX10_without_69 ?_
          refine g_iload dX10_without_72 rfl ?_
          refine g_iload dX10_without_74 rfl ?_
          refine g_isub dX10_without_76 ?_
          refine g_i2l dX10_without_77 ?_
          refine g_cVv (st := []) (av := [vL (w32 (y7 - y9))]) (kX5_tellOne h) kd_12 rfl cw_RX10_202 (by decide) (by decide) (Nat.le_of_ble_eq_true rfl) rfl dX10_without_78 (fun m10 h => ?_)
          refine g_iload dX10_without_81 rfl ?_
          exact g_iret hR dX10_without_83 h
        · replace h := hB hc
          refine g_iconst dX10_without_33 (-1) rfl (by decide) ?_
          exact g_iret hR dX10_without_34 h
def wX10_key_23 (K23 : (Int × Int × Int × Int × Int) → Mem → Prop) (Q : Int → Mem → Prop) (l1 : Int) (l2 : Int) (l3 : Int) (l4 : Int) (l5 : Int) (σ : Mem) : Prop := ((σ 40 0 ≤ l5 → ((¬ l3 = (-1) → (wX5_tellOne l4 σ (fun m1 => Q l3 m1))) ∧ (l3 = (-1) → Q ((-2)) σ))) ∧ (¬ σ 40 0 ≤ l5 → ((l5 = l1 → (∀ x2 : Int, x2 = w32 (l5 + 1) → K23 (l1, l2, l3, l4, x2) σ)) ∧ (¬ l5 = l1 → ((¬ l5 = l2 → (wX10_mostWithout l1 l2 l5 σ (fun y4 m3 => ((l4 ≤ y4 → (∀ x5 : Int, x5 = w32 (l5 + 1) → K23 (l1, l2, l3, l4, x5) m3)) ∧ (¬ l4 ≤ y4 → (∀ x6 : Int, x6 = w32 (l5 + 1) → K23 (l1, l2, l5, y4, x6) m3)))))) ∧ (l5 = l2 → (∀ x7 : Int, x7 = w32 (l5 + 1) → K23 (l1, l2, l3, l4, x7) σ)))))))
def wLX10_key_23 (Q : Int → Mem → Prop) (l1 : Int) (l2 : Int) (l3 : Int) (l4 : Int) (l5 : Int) (σ : Mem) : Prop := ∃ n, lp (fun (K23 : (Int × Int × Int × Int × Int) → Mem → Prop) (x : Int × Int × Int × Int × Int) (σ : Mem) => wX10_key_23 K23 Q x.1 x.2.1 x.2.2.1 x.2.2.2.1 x.2.2.2.2 σ) n (l1, l2, l3, l4, l5) σ
def wX10_key (l1 : Int) (l2 : Int) (σ : Mem) (Q : Int → Mem → Prop) : Prop := (wX1_hasBoth 40 l1 l2 σ (fun y2 m1 => ((¬ y2 = 0 → wLX10_key_23 Q l1 l2 ((-1)) 1000000 0 m1) ∧ (y2 = 0 → Q ((-1)) m1))))
set_option maxHeartbeats 1000000 in
theorem bX10_key_23 {E : TE} {K23 : (Int × Int × Int × Int × Int) → Mem → Prop} (hK23 : ∀ (x : Int × Int × Int × Int × Int) (σ : Mem), K23 x σ → GW E cX10_key 7 RX10 5 122 σ 23 [(0, vR 0), (1, vI x.1), (2, vI x.2.1), (3, vI x.2.2.1), (4, vI x.2.2.2.1), (5, vI x.2.2.2.2)] []) {Q : Int → Mem → Prop} (hR : RI E (some .int) Q) {l1 : Int} {l2 : Int} {l3 : Int} {l4 : Int} {l5 : Int} {σ : Mem} (h : wX10_key_23 K23 Q l1 l2 l3 l4 l5 σ) : GW E cX10_key 7 RX10 5 122 σ 23 [(0, vR 0), (1, vI l1), (2, vI l2), (3, vI l3), (4, vI l4), (5, vI l5)] [] := by
  unfold wX10_key_23 at h
  refine g_iload dX10_key_23 rfl ?_
  refine g_aload_n dX10_key_25 rfl ?_
  refine g_getR (r := 40) fl_10_12 kd_0 rfl dX10_key_26 ?_
  refine g_getI fl_10_164 (kd_bk0 bk_40) rfl dX10_key_29 ?_
  obtain ⟨hA, hB⟩ := h
  refine g_icmp_ge (tgt := 80) dX10_key_32 (by decide) (fun hc => ?_) (fun hc => ?_)
  · replace h := hA hc
    refine g_iload_n dX10_key_80 rfl ?_
    refine g_iconst dX10_key_81 (-1) rfl (by decide) ?_
    obtain ⟨hA, hB⟩ := h
    refine g_icmp_ne (tgt := 88) dX10_key_82 (by decide) (fun hc => ?_) (fun hc => ?_)
    · replace h := hA hc
      refine g_aload_n dX10_key_88 rfl ?_
      refine g_getR (r := 12) fl_10_54 kd_0 rfl dX10_key_89 ?_
      refine g_iload dX10_key_92 rfl ?_
      refine g_i2l dX10_key_94 ?_
      refine g_cVv (st := []) (av := [vL l4]) (kX5_tellOne h) kd_12 rfl cw_RX10_202 (by decide) (by decide) (Nat.le_of_ble_eq_true rfl) rfl dX10_key_95 (fun m1 h => ?_)
      refine g_iload_n dX10_key_98 rfl ?_
      exact g_iret hR dX10_key_99 h
    · replace h := hB hc
      refine g_bipush dX10_key_85 (-2) rfl (by decide) ?_
      exact g_iret hR dX10_key_87 h
  · replace h := hB hc
    refine g_iload dX10_key_35 rfl ?_
    refine g_iload_n dX10_key_37 rfl ?_
    obtain ⟨hA, hB⟩ := h
    refine g_icmp_eq (tgt := 74) dX10_key_38 (by decide) (fun hc => ?_) (fun hc => ?_)
    · replace h := hA hc
      refine g_iinc (lv' := [(5, vI (w32 (l5 + 1))), (0, vR 0), (1, vI l1), (2, vI l2), (3, vI l3), (4, vI l4)]) dX10_key_74 rfl (by decide) rfl ?_
      refine g_loc (a := w32 (l5 + 1)) (i := 5) (lv := [(0, vR 0), (1, vI l1), (2, vI l2), (3, vI l3), (4, vI l4)]) (fun x2 ex2 => ?_)
      replace h := h x2 ex2
      refine g_goto (tgt := 23) dX10_key_77 (by decide) ?_
      refine g_lv (lv' := [(0, vR 0), (1, vI l1), (2, vI l2), (3, vI l3), (4, vI l4), (5, vI x2)]) [1, 2, 3, 4, 5, 0] rfl ?_
      exact hK23 ((l1, l2, l3, l4, x2)) σ h
    · replace h := hB hc
      refine g_iload dX10_key_41 rfl ?_
      refine g_iload_n dX10_key_43 rfl ?_
      obtain ⟨hA, hB⟩ := h
      refine g_icmp_ne (tgt := 50) dX10_key_44 (by decide) (fun hc => ?_) (fun hc => ?_)
      · replace h := hA hc
        refine g_aload_n dX10_key_50 rfl ?_
        refine g_iload_n dX10_key_51 rfl ?_
        refine g_iload_n dX10_key_52 rfl ?_
        refine g_iload dX10_key_53 rfl ?_
        refine g_cVi (st := []) (av := [vI l1, vI l2, vI l5]) (kX10_mostWithout h) kd_0 rfl cw_RX10_351 (by decide) (by decide) (Nat.le_of_ble_eq_true rfl) rfl dX10_key_55 (fun y4 m3 h => ?_)
        refine g_istore (lv' := [(6, vI y4), (0, vR 0), (1, vI l1), (2, vI l2), (3, vI l3), (4, vI l4), (5, vI l5)]) dX10_key_58 (by decide) rfl ?_
        refine g_iload dX10_key_60 rfl ?_
        refine g_iload dX10_key_62 rfl ?_
        obtain ⟨hA, hB⟩ := h
        refine g_icmp_ge (tgt := 74) dX10_key_64 (by decide) (fun hc => ?_) (fun hc => ?_)
        · replace h := hA hc
          refine g_iinc (lv' := [(5, vI (w32 (l5 + 1))), (6, vI y4), (0, vR 0), (1, vI l1), (2, vI l2), (3, vI l3), (4, vI l4)]) dX10_key_74 rfl (by decide) rfl ?_
          refine g_loc (a := w32 (l5 + 1)) (i := 5) (lv := [(6, vI y4), (0, vR 0), (1, vI l1), (2, vI l2), (3, vI l3), (4, vI l4)]) (fun x5 ex5 => ?_)
          replace h := h x5 ex5
          refine g_goto (tgt := 23) dX10_key_77 (by decide) ?_
          refine g_lv (lv' := [(0, vR 0), (1, vI l1), (2, vI l2), (3, vI l3), (4, vI l4), (5, vI x5)]) [2, 3, 4, 5, 6, 0] rfl ?_
          exact hK23 ((l1, l2, l3, l4, x5)) m3 h
        · replace h := hB hc
          refine g_iload dX10_key_67 rfl ?_
          refine g_istore (lv' := [(4, vI y4), (6, vI y4), (0, vR 0), (1, vI l1), (2, vI l2), (3, vI l3), (5, vI l5)]) dX10_key_69 (by decide) rfl ?_
          refine g_iload dX10_key_71 rfl ?_
          refine g_istore_n (lv' := [(3, vI l5), (4, vI y4), (6, vI y4), (0, vR 0), (1, vI l1), (2, vI l2), (5, vI l5)]) dX10_key_73 (by decide) rfl ?_
          refine g_iinc (lv' := [(5, vI (w32 (l5 + 1))), (3, vI l5), (4, vI y4), (6, vI y4), (0, vR 0), (1, vI l1), (2, vI l2)]) dX10_key_74 rfl (by decide) rfl ?_
          refine g_loc (a := w32 (l5 + 1)) (i := 5) (lv := [(3, vI l5), (4, vI y4), (6, vI y4), (0, vR 0), (1, vI l1), (2, vI l2)]) (fun x6 ex6 => ?_)
          replace h := h x6 ex6
          refine g_goto (tgt := 23) dX10_key_77 (by decide) ?_
          refine g_lv (lv' := [(0, vR 0), (1, vI l1), (2, vI l2), (3, vI l5), (4, vI y4), (5, vI x6)]) [4, 5, 6, 1, 2, 0] rfl ?_
          exact hK23 ((l1, l2, l5, y4, x6)) m3 h
      · replace h := hB hc
        refine g_goto (tgt := 74) dX10_key_47 (by decide) ?_
        refine g_iinc (lv' := [(5, vI (w32 (l5 + 1))), (0, vR 0), (1, vI l1), (2, vI l2), (3, vI l3), (4, vI l4)]) dX10_key_74 rfl (by decide) rfl ?_
        refine g_loc (a := w32 (l5 + 1)) (i := 5) (lv := [(0, vR 0), (1, vI l1), (2, vI l2), (3, vI l3), (4, vI l4)]) (fun x7 ex7 => ?_)
        replace h := h x7 ex7
        refine g_goto (tgt := 23) dX10_key_77 (by decide) ?_
        refine g_lv (lv' := [(0, vR 0), (1, vI l1), (2, vI l2), (3, vI l3), (4, vI l4), (5, vI x7)]) [1, 2, 3, 4, 5, 0] rfl ?_
        exact hK23 ((l1, l2, l3, l4, x7)) σ h
theorem eX10_key_23 {E : TE} {Q : Int → Mem → Prop} (hR : RI E (some .int) Q) {l1 : Int} {l2 : Int} {l3 : Int} {l4 : Int} {l5 : Int} {σ : Mem} (h : wLX10_key_23 Q l1 l2 l3 l4 l5 σ) : GW E cX10_key 7 RX10 5 122 σ 23 [(0, vR 0), (1, vI l1), (2, vI l2), (3, vI l3), (4, vI l4), (5, vI l5)] [] := by
  obtain ⟨n, h⟩ := h
  exact lp_GW (P := fun (x : Int × Int × Int × Int × Int) (σ : Mem) => GW E cX10_key 7 RX10 5 122 σ 23 [(0, vR 0), (1, vI x.1), (2, vI x.2.1), (3, vI x.2.2.1), (4, vI x.2.2.2.1), (5, vI x.2.2.2.2)] []) (fun K hK x σ h  => bX10_key_23 hK hR h) n _ σ h 
set_option maxHeartbeats 1000000 in
theorem kX10_key {l1 : Int} {l2 : Int} {σ : Mem} {Q : Int → Mem → Prop} (h : wX10_key l1 l2 σ Q) (l : Launch) (D : va_G) (cy : Nat → ClassId) (ad : Nat → Nat) : MI l yX10_key cX10_key 7 (some .int) 5 122 D cy ad [vR 0, vI l1, vI l2] σ Q := by
  refine m_I (own := RX10) (lv := [(0, vR 0), (1, vI l1), (2, vI l2)]) (by decide +kernel) rfl (Nat.le_of_ble_eq_true rfl) rfl (fun E hR => ?_) l D cy ad
  unfold wX10_key at h
  refine g_aload_n dX10_key_0 rfl ?_
  refine g_getR (r := 40) fl_10_12 kd_0 rfl dX10_key_1 ?_
  refine g_iload_n dX10_key_4 rfl ?_
  refine g_iload_n dX10_key_5 rfl ?_
  refine g_cVi (st := []) (av := [vI l1, vI l2]) (kX1_hasBoth bk_40 h) (kd_bk0 bk_40) rfl cw_RX10_143 (by decide) (by decide) (Nat.le_of_ble_eq_true rfl) rfl dX10_key_6 (fun y2 m1 h => ?_)
  obtain ⟨hA, hB⟩ := h
  refine g_if_ne (tgt := 14) dX10_key_9 (by decide) (fun hc => ?_) (fun hc => ?_)
  · replace h := hA hc
    refine g_iconst dX10_key_14 (-1) rfl (by decide) ?_
    refine g_istore_n (lv' := [(3, vI ((-1))), (0, vR 0), (1, vI l1), (2, vI l2)]) dX10_key_15 (by decide) rfl ?_
    refine g_ldc dX10_key_16 1000000 q_628 (by decide) ?_
    refine g_istore (lv' := [(4, vI 1000000), (3, vI ((-1))), (0, vR 0), (1, vI l1), (2, vI l2)]) dX10_key_18 (by decide) rfl ?_
    refine g_iconst dX10_key_20 0 rfl (by decide) ?_
    refine g_istore (lv' := [(5, vI 0), (4, vI 1000000), (3, vI ((-1))), (0, vR 0), (1, vI l1), (2, vI l2)]) dX10_key_21 (by decide) rfl ?_
    refine g_lv (lv' := [(0, vR 0), (1, vI l1), (2, vI l2), (3, vI ((-1))), (4, vI 1000000), (5, vI 0)]) [3, 4, 5, 2, 1, 0] rfl ?_
    exact eX10_key_23 hR h
  · replace h := hB hc
    refine g_iconst dX10_key_12 (-1) rfl (by decide) ?_
    exact g_iret hR dX10_key_13 h
def wX10_isLimit (l0 : Int) (σ : Mem) (Q : Int → Mem → Prop) : Prop := ((l0 < 0 → Q 0 σ) ∧ (¬ l0 < 0 → ((999 < l0 → Q 0 σ) ∧ (¬ 999 < l0 → Q 1 σ))))
set_option maxHeartbeats 1000000 in
theorem kX10_isLimit {l0 : Int} {σ : Mem} {Q : Int → Mem → Prop} (h : wX10_isLimit l0 σ Q) (l : Launch) (D : va_G) (cy : Nat → ClassId) (ad : Nat → Nat) : MI l yX10_isLimit cX10_isLimit 1 (some .boolean) 0 0 D cy ad [vI l0] σ Q := by
  refine m_I (own := RX10) (lv := [(0, vI l0)]) (by decide +kernel) rfl (Nat.le_of_ble_eq_true rfl) rfl (fun E hR => ?_) l D cy ad
  unfold wX10_isLimit at h
  refine g_iload_n dX10_isLimit_0 rfl ?_
  obtain ⟨hA, hB⟩ := h
  refine g_if_lt (tgt := 15) dX10_isLimit_1 (by decide) (fun hc => ?_) (fun hc => ?_)
  · replace h := hA hc
    refine g_iconst dX10_isLimit_15 0 rfl (by decide) ?_
    exact g_zret hR dX10_isLimit_16 (by decide) h
  · replace h := hB hc
    refine g_iload_n dX10_isLimit_4 rfl ?_
    refine g_sipush dX10_isLimit_5 999 rfl (by decide) ?_
    obtain ⟨hA, hB⟩ := h
    refine g_icmp_gt (tgt := 15) dX10_isLimit_8 (by decide) (fun hc => ?_) (fun hc => ?_)
    · replace h := hA hc
      refine g_iconst dX10_isLimit_15 0 rfl (by decide) ?_
      exact g_zret hR dX10_isLimit_16 (by decide) h
    · replace h := hB hc
      refine g_iconst dX10_isLimit_11 1 rfl (by decide) ?_
      refine g_goto (tgt := 16) dX10_isLimit_12 (by decide) ?_
      exact g_zret hR dX10_isLimit_16 (by decide) h
def wX10_were (l1 : Int) (l2 : Int) (l3 : Int) (l4 : Int) (l5 : Int) (σ : Mem) (Q : Int → Mem → Prop) : Prop := (wX1_hasBoth 40 l1 l2 σ (fun y2 m1 => ((y2 = 0 → Q ((-1)) m1) ∧ (¬ y2 = 0 → (wX1_hasBoth 40 l3 l4 m1 (fun y4 m3 => ((y4 = 0 → Q ((-1)) m3) ∧ (¬ y4 = 0 → (wX10_isLimit l5 m3 (fun y6 m5 => ((¬ y6 = 0 → (wX1_owed 40 l4 l3 m5 (fun y8 m7 => ((y8 ≤ l5 → (wX4_load 40 m7 (fun m9 => (wX10_at l3 l4 m9 (fun y11 m10 => ((0 ≤ y11 ∧ y11 < 64) ∧ (wX4_widen l4 l3 (w32 (l5 - (m10 (40 + 1) y11.toNat))) m10 (fun m12 => (wX4_send l1 l2 1000000 m12 (fun y14 m13 => Q y14 m13)))))))))) ∧ (¬ y8 ≤ l5 → Q ((-4)) m7))))) ∧ (y6 = 0 → Q ((-1)) m5))))))))))))
set_option maxHeartbeats 1000000 in
theorem kX10_were {l1 : Int} {l2 : Int} {l3 : Int} {l4 : Int} {l5 : Int} {σ : Mem} {Q : Int → Mem → Prop} (h : wX10_were l1 l2 l3 l4 l5 σ Q) (l : Launch) (D : va_G) (cy : Nat → ClassId) (ad : Nat → Nat) : MI l yX10_were cX10_were 6 (some .int) 4 99 D cy ad [vR 0, vI l1, vI l2, vI l3, vI l4, vI l5] σ Q := by
  refine m_I (own := RX10) (lv := [(0, vR 0), (1, vI l1), (2, vI l2), (3, vI l3), (4, vI l4), (5, vI l5)]) (by decide +kernel) rfl (Nat.le_of_ble_eq_true rfl) rfl (fun E hR => ?_) l D cy ad
  unfold wX10_were at h
  refine g_aload_n dX10_were_0 rfl ?_
  refine g_getR (r := 40) fl_10_12 kd_0 rfl dX10_were_1 ?_
  refine g_iload_n dX10_were_4 rfl ?_
  refine g_iload_n dX10_were_5 rfl ?_
  refine g_cVi (st := []) (av := [vI l1, vI l2]) (kX1_hasBoth bk_40 h) (kd_bk0 bk_40) rfl cw_RX10_143 (by decide) (by decide) (Nat.le_of_ble_eq_true rfl) rfl dX10_were_6 (fun y2 m1 h => ?_)
  obtain ⟨hA, hB⟩ := h
  refine g_if_eq (tgt := 33) dX10_were_9 (by decide) (fun hc => ?_) (fun hc => ?_)
  · replace h := hA hc
    refine g_iconst dX10_were_33 (-1) rfl (by decide) ?_
    exact g_iret hR dX10_were_34 h
  · replace h := hB hc
    refine g_aload_n dX10_were_12 rfl ?_
    refine g_getR (r := 40) fl_10_12 kd_0 rfl dX10_were_13 ?_
    refine g_iload_n dX10_were_16 rfl ?_
    refine g_iload dX10_were_17 rfl ?_
    refine g_cVi (st := []) (av := [vI l3, vI l4]) (kX1_hasBoth bk_40 h) (kd_bk0 bk_40) rfl cw_RX10_143 (by decide) (by decide) (Nat.le_of_ble_eq_true rfl) rfl dX10_were_19 (fun y4 m3 h => ?_)
    obtain ⟨hA, hB⟩ := h
    refine g_if_eq (tgt := 33) dX10_were_22 (by decide) (fun hc => ?_) (fun hc => ?_)
    · replace h := hA hc
      refine g_iconst dX10_were_33 (-1) rfl (by decide) ?_
      exact g_iret hR dX10_were_34 h
    · replace h := hB hc
      refine g_iload dX10_were_25 rfl ?_
      refine g_cSi (st := []) (av := [vI l5]) (kX10_isLimit h) cw_RX10_358 (by decide) (by decide) (Nat.le_of_ble_eq_true rfl) rfl dX10_were_27 (fun y6 m5 h => ?_)
      obtain ⟨hA, hB⟩ := h
      refine g_if_ne (tgt := 35) dX10_were_30 (by decide) (fun hc => ?_) (fun hc => ?_)
      · replace h := hA hc
        refine g_iload dX10_were_35 rfl ?_
        refine g_aload_n dX10_were_37 rfl ?_
        refine g_getR (r := 40) fl_10_12 kd_0 rfl dX10_were_38 ?_
        refine g_iload dX10_were_41 rfl ?_
        refine g_iload_n dX10_were_43 rfl ?_
        refine g_cVi (st := [vI l5]) (av := [vI l4, vI l3]) (kX1_owed bk_40 h) (kd_bk0 bk_40) rfl cw_RX10_140 (by decide) (by decide) (Nat.le_of_ble_eq_true rfl) rfl dX10_were_44 (fun y8 m7 h => ?_)
        obtain ⟨hA, hB⟩ := h
        refine g_icmp_ge (tgt := 53) dX10_were_47 (by decide) (fun hc => ?_) (fun hc => ?_)
        · replace h := hA hc
          refine g_aload_n dX10_were_53 rfl ?_
          refine g_getR (r := 14) fl_10_61 kd_0 rfl dX10_were_54 ?_
          refine g_aload_n dX10_were_57 rfl ?_
          refine g_getR (r := 40) fl_10_12 kd_0 rfl dX10_were_58 ?_
          refine g_cVv (st := []) (av := [vR 40]) (kX4_load bk_40 h) kd_14 rfl cw_RX10_178 (by decide) (by decide) (Nat.le_of_ble_eq_true rfl) rfl dX10_were_61 (fun m9 h => ?_)
          refine g_aload_n dX10_were_64 rfl ?_
          refine g_getR (r := 14) fl_10_61 kd_0 rfl dX10_were_65 ?_
          refine g_iload dX10_were_68 rfl ?_
          refine g_iload_n dX10_were_70 rfl ?_
          refine g_iload dX10_were_71 rfl ?_
          refine g_aload_n dX10_were_73 rfl ?_
          refine g_getR (r := 40) fl_10_12 kd_0 rfl dX10_were_74 ?_
          refine g_getR (r := 40 + 1) fl_10_136 (kd_bk0 bk_40) rfl dX10_were_77 ?_
          refine g_iload_n dX10_were_80 rfl ?_
          refine g_iload dX10_were_81 rfl ?_
          refine g_cSi (st := [vR (40 + 1), vI l5, vI l3, vI l4, vR 14]) (av := [vI l3, vI l4]) (kX10_at h) cw_RX10_133 (by decide) (by decide) (Nat.le_of_ble_eq_true rfl) rfl dX10_were_83 (fun y11 m10 h => ?_)
          obtain ⟨hin, h⟩ := h
          refine g_iald (kd_bk1 bk_40) hin dX10_were_86 ?_
          refine g_isub dX10_were_87 ?_
          refine g_cVv (st := []) (av := [vI l4, vI l3, vI (w32 (l5 - (m10 (40 + 1) y11.toNat)))]) (kX4_widen h) kd_14 rfl cw_RX10_317 (by decide) (by decide) (Nat.le_of_ble_eq_true rfl) rfl dX10_were_88 (fun m12 h => ?_)
          refine g_aload_n dX10_were_91 rfl ?_
          refine g_getR (r := 14) fl_10_61 kd_0 rfl dX10_were_92 ?_
          refine g_iload_n dX10_were_95 rfl ?_
          refine g_iload_n dX10_were_96 rfl ?_
          refine g_ldc dX10_were_97 1000000 q_628 (by decide) ?_
          refine g_cVi (st := []) (av := [vI l1, vI l2, vI 1000000]) (kX4_send h) kd_14 rfl cw_RX10_207 (by decide) (by decide) (Nat.le_of_ble_eq_true rfl) rfl dX10_were_99 (fun y14 m13 h => ?_)
          exact g_iret hR dX10_were_102 h
        · replace h := hB hc
          refine g_bipush dX10_were_50 (-4) rfl (by decide) ?_
          exact g_iret hR dX10_were_52 h
      · replace h := hB hc
        refine g_iconst dX10_were_33 (-1) rfl (by decide) ?_
        exact g_iret hR dX10_were_34 h
def wX10_both_134 (Q : Int → Mem → Prop) (l7 : Int) (l8 : Int) (σ : Mem) : Prop := (wX5_tellOne l8 σ (fun m1 => Q l7 m1))
def wX10_both_88 (Q : Int → Mem → Prop) (l1 : Int) (l2 : Int) (l3 : Int) (l4 : Int) (l5 : Int) (l6 : Int) (l7 : Int) (l8 : Int) (σ : Mem) : Prop := (wX4_load 40 σ (fun m1 => (wX4_send l4 l5 l6 m1 (fun y3 m2 => ((¬ y3 = l6 → wX10_both_134 Q l7 l8 m2) ∧ (y3 = l6 → (wX4_send l1 l2 l3 m2 (fun y5 m4 => ((¬ y5 = l3 → wX10_both_134 Q l7 l8 m4) ∧ (y5 = l3 → (∀ x6 : Int, x6 = w32 (l7 + 2) → wX10_both_134 Q x6 l8 m4)))))))))))
def wX10_both_85 (Q : Int → Mem → Prop) (l1 : Int) (l2 : Int) (l3 : Int) (l4 : Int) (l5 : Int) (l6 : Int) (l8 : Int) (s0 : Int) (s1 : Int) (σ : Mem) : Prop := (∀ x1 : Int, x1 = w32 (s1 + s0) → wX10_both_88 Q l1 l2 l3 l4 l5 l6 x1 l8 σ)
def wX10_both (l1 : Int) (l2 : Int) (l3 : Int) (l4 : Int) (l5 : Int) (l6 : Int) (σ : Mem) (Q : Int → Mem → Prop) : Prop := (wX10_isPayment l1 l2 l3 σ (fun y2 m1 => ((y2 = 0 → Q ((-1)) m1) ∧ (¬ y2 = 0 → (wX10_isPayment l4 l5 l6 m1 (fun y4 m3 => ((¬ y4 = 0 → (wX4_load 40 m3 (fun m5 => (wX4_send l1 l2 l3 m5 (fun y7 m6 => ((¬ y7 = l3 → wX10_both_88 Q l1 l2 l3 l4 l5 l6 0 ((-1)) m6) ∧ (y7 = l3 → (wX4_send l4 l5 1000000 m6 (fun y9 m8 => ((y9 < l6 → wX10_both_85 Q l1 l2 l3 l4 l5 l6 y9 0 0 m8) ∧ (¬ y9 < l6 → wX10_both_85 Q l1 l2 l3 l4 l5 l6 y9 1 0 m8))))))))))) ∧ (y4 = 0 → Q ((-1)) m3))))))))
set_option maxHeartbeats 1000000 in
theorem bX10_both_134 {E : TE} {Q : Int → Mem → Prop} (hR : RI E (some .int) Q) {l7 : Int} {l8 : Int} {σ : Mem} (h : wX10_both_134 Q l7 l8 σ) : GW E cX10_both 9 RX10 4 99 σ 134 [(0, vR 0), (7, vI l7), (8, vI l8)] [] := by
  unfold wX10_both_134 at h
  refine g_aload_n dX10_both_134 rfl ?_
  refine g_getR (r := 12) fl_10_54 kd_0 rfl dX10_both_135 ?_
  refine g_iload dX10_both_138 rfl ?_
  refine g_i2l dX10_both_140 ?_
  refine g_cVv (st := []) (av := [vL l8]) (kX5_tellOne h) kd_12 rfl cw_RX10_202 (by decide) (by decide) (Nat.le_of_ble_eq_true rfl) rfl dX10_both_141 (fun m1 h => ?_)
  refine g_iload dX10_both_144 rfl ?_
  exact g_iret hR dX10_both_146 h
set_option maxHeartbeats 1000000 in
theorem bX10_both_88 {E : TE} {Q : Int → Mem → Prop} (hR : RI E (some .int) Q) {l1 : Int} {l2 : Int} {l3 : Int} {l4 : Int} {l5 : Int} {l6 : Int} {l7 : Int} {l8 : Int} {σ : Mem} (h : wX10_both_88 Q l1 l2 l3 l4 l5 l6 l7 l8 σ) : GW E cX10_both 9 RX10 4 99 σ 88 [(0, vR 0), (1, vI l1), (2, vI l2), (3, vI l3), (4, vI l4), (5, vI l5), (6, vI l6), (7, vI l7), (8, vI l8)] [] := by
  unfold wX10_both_88 at h
  refine g_aload_n dX10_both_88 rfl ?_
  refine g_getR (r := 14) fl_10_61 kd_0 rfl dX10_both_89 ?_
  refine g_aload_n dX10_both_92 rfl ?_
  refine g_getR (r := 40) fl_10_12 kd_0 rfl dX10_both_93 ?_
  refine g_cVv (st := []) (av := [vR 40]) (kX4_load bk_40 h) kd_14 rfl cw_RX10_178 (by decide) (by decide) (Nat.le_of_ble_eq_true rfl) rfl dX10_both_96 (fun m1 h => ?_)
  refine g_aload_n dX10_both_99 rfl ?_
  refine g_getR (r := 14) fl_10_61 kd_0 rfl dX10_both_100 ?_
  refine g_iload dX10_both_103 rfl ?_
  refine g_iload dX10_both_105 rfl ?_
  refine g_iload dX10_both_107 rfl ?_
  refine g_cVi (st := []) (av := [vI l4, vI l5, vI l6]) (kX4_send h) kd_14 rfl cw_RX10_207 (by decide) (by decide) (Nat.le_of_ble_eq_true rfl) rfl dX10_both_109 (fun y3 m2 h => ?_)
  refine g_iload dX10_both_112 rfl ?_
  obtain ⟨hA, hB⟩ := h
  refine g_icmp_ne (tgt := 134) dX10_both_114 (by decide) (fun hc => ?_) (fun hc => ?_)
  · replace h := hA hc
    refine g_lv (lv' := [(0, vR 0), (7, vI l7), (8, vI l8)]) [0, 7, 8] rfl ?_
    exact bX10_both_134 hR h
  · replace h := hB hc
    refine g_aload_n dX10_both_117 rfl ?_
    refine g_getR (r := 14) fl_10_61 kd_0 rfl dX10_both_118 ?_
    refine g_iload_n dX10_both_121 rfl ?_
    refine g_iload_n dX10_both_122 rfl ?_
    refine g_iload_n dX10_both_123 rfl ?_
    refine g_cVi (st := []) (av := [vI l1, vI l2, vI l3]) (kX4_send h) kd_14 rfl cw_RX10_207 (by decide) (by decide) (Nat.le_of_ble_eq_true rfl) rfl dX10_both_124 (fun y5 m4 h => ?_)
    refine g_iload_n dX10_both_127 rfl ?_
    obtain ⟨hA, hB⟩ := h
    refine g_icmp_ne (tgt := 134) dX10_both_128 (by decide) (fun hc => ?_) (fun hc => ?_)
    · replace h := hA hc
      refine g_lv (lv' := [(0, vR 0), (7, vI l7), (8, vI l8)]) [0, 7, 8] rfl ?_
      exact bX10_both_134 hR h
    · replace h := hB hc
      refine g_iinc (lv' := [(7, vI (w32 (l7 + 2))), (0, vR 0), (1, vI l1), (2, vI l2), (3, vI l3), (4, vI l4), (5, vI l5), (6, vI l6), (8, vI l8)]) dX10_both_131 rfl (by decide) rfl ?_
      refine g_loc (a := w32 (l7 + 2)) (i := 7) (lv := [(0, vR 0), (1, vI l1), (2, vI l2), (3, vI l3), (4, vI l4), (5, vI l5), (6, vI l6), (8, vI l8)]) (fun x6 ex6 => ?_)
      replace h := h x6 ex6
      refine g_lv (lv' := [(0, vR 0), (7, vI x6), (8, vI l8)]) [1, 0, 8] rfl ?_
      exact bX10_both_134 hR h
set_option maxHeartbeats 1000000 in
theorem bX10_both_85 {E : TE} {Q : Int → Mem → Prop} (hR : RI E (some .int) Q) {l1 : Int} {l2 : Int} {l3 : Int} {l4 : Int} {l5 : Int} {l6 : Int} {l8 : Int} {s0 : Int} {s1 : Int} {σ : Mem} (h : wX10_both_85 Q l1 l2 l3 l4 l5 l6 l8 s0 s1 σ) : GW E cX10_both 9 RX10 4 99 σ 85 [(0, vR 0), (1, vI l1), (2, vI l2), (3, vI l3), (4, vI l4), (5, vI l5), (6, vI l6), (8, vI l8)] [vI s0, vI s1] := by
  unfold wX10_both_85 at h
  refine g_iadd dX10_both_85 ?_
  refine g_topI (fun x1 ex1 => ?_)
  replace h := h x1 ex1
  refine g_istore (lv' := [(7, vI x1), (0, vR 0), (1, vI l1), (2, vI l2), (3, vI l3), (4, vI l4), (5, vI l5), (6, vI l6), (8, vI l8)]) dX10_both_86 (by decide) rfl ?_
  refine g_lv (lv' := [(0, vR 0), (1, vI l1), (2, vI l2), (3, vI l3), (4, vI l4), (5, vI l5), (6, vI l6), (7, vI x1), (8, vI l8)]) [1, 2, 3, 4, 5, 6, 7, 0, 8] rfl ?_
  exact bX10_both_88 hR h
set_option maxHeartbeats 1000000 in
theorem kX10_both {l1 : Int} {l2 : Int} {l3 : Int} {l4 : Int} {l5 : Int} {l6 : Int} {σ : Mem} {Q : Int → Mem → Prop} (h : wX10_both l1 l2 l3 l4 l5 l6 σ Q) (l : Launch) (D : va_G) (cy : Nat → ClassId) (ad : Nat → Nat) : MI l yX10_both cX10_both 9 (some .int) 4 99 D cy ad [vR 0, vI l1, vI l2, vI l3, vI l4, vI l5, vI l6] σ Q := by
  refine m_I (own := RX10) (lv := [(0, vR 0), (1, vI l1), (2, vI l2), (3, vI l3), (4, vI l4), (5, vI l5), (6, vI l6)]) (by decide +kernel) rfl (Nat.le_of_ble_eq_true rfl) rfl (fun E hR => ?_) l D cy ad
  unfold wX10_both at h
  refine g_aload_n dX10_both_0 rfl ?_
  refine g_iload_n dX10_both_1 rfl ?_
  refine g_iload_n dX10_both_2 rfl ?_
  refine g_iload_n dX10_both_3 rfl ?_
  refine g_cVi (st := []) (av := [vI l1, vI l2, vI l3]) (kX10_isPayment h) kd_0 rfl cw_RX10_174 (by decide) (by decide) (Nat.le_of_ble_eq_true rfl) rfl dX10_both_4 (fun y2 m1 h => ?_)
  obtain ⟨hA, hB⟩ := h
  refine g_if_eq (tgt := 23) dX10_both_7 (by decide) (fun hc => ?_) (fun hc => ?_)
  · replace h := hA hc
    refine g_iconst dX10_both_23 (-1) rfl (by decide) ?_
    exact g_iret hR dX10_both_24 h
  · replace h := hB hc
    refine g_aload_n dX10_both_10 rfl ?_
    refine g_iload dX10_both_11 rfl ?_
    refine g_iload dX10_both_13 rfl ?_
    refine g_iload dX10_both_15 rfl ?_
    refine g_cVi (st := []) (av := [vI l4, vI l5, vI l6]) (kX10_isPayment h) kd_0 rfl cw_RX10_174 (by decide) (by decide) (Nat.le_of_ble_eq_true rfl) rfl dX10_both_17 (fun y4 m3 h => ?_)
    obtain ⟨hA, hB⟩ := h
    refine g_if_ne (tgt := 25) dX10_both_20 (by decide) (fun hc => ?_) (fun hc => ?_)
    · replace h := hA hc
      refine g_iconst dX10_both_25 0 rfl (by decide) ?_
      refine g_istore (lv' := [(7, vI 0), (0, vR 0), (1, vI l1), (2, vI l2), (3, vI l3), (4, vI l4), (5, vI l5), (6, vI l6)]) dX10_both_26 (by decide) rfl ?_
      refine g_iconst dX10_both_28 (-1) rfl (by decide) ?_
      refine g_istore (lv' := [(8, vI ((-1))), (7, vI 0), (0, vR 0), (1, vI l1), (2, vI l2), (3, vI l3), (4, vI l4), (5, vI l5), (6, vI l6)]) dX10_both_29 (by decide) rfl ?_
      refine g_aload_n dX10_both_31 rfl ?_
      refine g_getR (r := 14) fl_10_61 kd_0 rfl dX10_both_32 ?_
      refine g_aload_n dX10_both_35 rfl ?_
      refine g_getR (r := 40) fl_10_12 kd_0 rfl dX10_both_36 ?_
      refine g_cVv (st := []) (av := [vR 40]) (kX4_load bk_40 h) kd_14 rfl cw_RX10_178 (by decide) (by decide) (Nat.le_of_ble_eq_true rfl) rfl dX10_both_39 (fun m5 h => ?_)
      refine g_aload_n dX10_both_42 rfl ?_
      refine g_getR (r := 14) fl_10_61 kd_0 rfl dX10_both_43 ?_
      refine g_iload_n dX10_both_46 rfl ?_
      refine g_iload_n dX10_both_47 rfl ?_
      refine g_iload_n dX10_both_48 rfl ?_
      refine g_cVi (st := []) (av := [vI l1, vI l2, vI l3]) (kX4_send h) kd_14 rfl cw_RX10_207 (by decide) (by decide) (Nat.le_of_ble_eq_true rfl) rfl dX10_both_49 (fun y7 m6 h => ?_)
      refine g_iload_n dX10_both_52 rfl ?_
      obtain ⟨hA, hB⟩ := h
      refine g_icmp_ne (tgt := 88) dX10_both_53 (by decide) (fun hc => ?_) (fun hc => ?_)
      · replace h := hA hc
        refine g_lv (lv' := [(0, vR 0), (1, vI l1), (2, vI l2), (3, vI l3), (4, vI l4), (5, vI l5), (6, vI l6), (7, vI 0), (8, vI ((-1)))]) [2, 3, 4, 5, 6, 7, 8, 1, 0] rfl ?_
        exact bX10_both_88 hR h
      · replace h := hB hc
        refine g_aload_n dX10_both_56 rfl ?_
        refine g_getR (r := 14) fl_10_61 kd_0 rfl dX10_both_57 ?_
        refine g_iload dX10_both_60 rfl ?_
        refine g_iload dX10_both_62 rfl ?_
        refine g_ldc dX10_both_64 1000000 q_628 (by decide) ?_
        refine g_cVi (st := []) (av := [vI l4, vI l5, vI 1000000]) (kX4_send h) kd_14 rfl cw_RX10_207 (by decide) (by decide) (Nat.le_of_ble_eq_true rfl) rfl dX10_both_66 (fun y9 m8 h => ?_)
        refine g_istore (lv' := [(8, vI y9), (7, vI 0), (0, vR 0), (1, vI l1), (2, vI l2), (3, vI l3), (4, vI l4), (5, vI l5), (6, vI l6)]) dX10_both_69 (by decide) rfl ?_
        refine g_iload dX10_both_71 rfl ?_
        refine g_iload dX10_both_73 rfl ?_
        refine g_iload dX10_both_75 rfl ?_
        obtain ⟨hA, hB⟩ := h
        refine g_icmp_lt (tgt := 84) dX10_both_77 (by decide) (fun hc => ?_) (fun hc => ?_)
        · replace h := hA hc
          refine g_iconst dX10_both_84 0 rfl (by decide) ?_
          refine g_lv (lv' := [(0, vR 0), (1, vI l1), (2, vI l2), (3, vI l3), (4, vI l4), (5, vI l5), (6, vI l6), (8, vI y9)]) [2, 3, 4, 5, 6, 7, 8, 0] rfl ?_
          exact bX10_both_85 hR h
        · replace h := hB hc
          refine g_iconst dX10_both_80 1 rfl (by decide) ?_
          refine g_goto (tgt := 85) dX10_both_81 (by decide) ?_
          refine g_lv (lv' := [(0, vR 0), (1, vI l1), (2, vI l2), (3, vI l3), (4, vI l4), (5, vI l5), (6, vI l6), (8, vI y9)]) [2, 3, 4, 5, 6, 7, 8, 0] rfl ?_
          exact bX10_both_85 hR h
    · replace h := hB hc
      refine g_iconst dX10_both_23 (-1) rfl (by decide) ?_
      exact g_iret hR dX10_both_24 h
def wX10_setLimit (l1 : Int) (l2 : Int) (l3 : Int) (σ : Mem) (Q : Int → Mem → Prop) : Prop := (wX1_hasBoth 40 l1 l2 σ (fun y2 m1 => ((y2 = 0 → Q ((-1)) m1) ∧ (¬ y2 = 0 → (wX10_isLimit l3 m1 (fun y4 m3 => ((¬ y4 = 0 → (wX1_holdsAny 40 m3 (fun y6 m5 => ((y6 = 0 → (wX10_at l1 l2 m5 (fun y8 m7 => ((0 ≤ y8 ∧ y8 < 64) ∧ (∀ x9 : Int, x9 = m7 (40 + 1) y8.toNat → ((¬ x9 = l3 → (wX1_owed 40 l2 l1 m7 (fun y11 m10 => ((y11 ≤ l3 → (wX10_at l1 l2 m10 (fun y13 m12 => ((0 ≤ y13 ∧ y13 < 64) ∧ (∀ m14 : Mem, m14 = up2 m12 (40 + 1) y13.toNat l3 → Q x9 m14))))) ∧ (¬ y11 ≤ l3 → Q ((-4)) m10))))) ∧ (x9 = l3 → Q ((-2)) m7))))))) ∧ (¬ y6 = 0 → Q ((-5)) m5))))) ∧ (y4 = 0 → Q ((-1)) m3))))))))
set_option maxHeartbeats 1000000 in
theorem kX10_setLimit {l1 : Int} {l2 : Int} {l3 : Int} {σ : Mem} {Q : Int → Mem → Prop} (h : wX10_setLimit l1 l2 l3 σ Q) (l : Launch) (D : va_G) (cy : Nat → ClassId) (ad : Nat → Nat) : MI l yX10_setLimit cX10_setLimit 5 (some .int) 2 46 D cy ad [vR 0, vI l1, vI l2, vI l3] σ Q := by
  refine m_I (own := RX10) (lv := [(0, vR 0), (1, vI l1), (2, vI l2), (3, vI l3)]) (by decide +kernel) rfl (Nat.le_of_ble_eq_true rfl) rfl (fun E hR => ?_) l D cy ad
  unfold wX10_setLimit at h
  refine g_aload_n dX10_setLimit_0 rfl ?_
  refine g_getR (r := 40) fl_10_12 kd_0 rfl dX10_setLimit_1 ?_
  refine g_iload_n dX10_setLimit_4 rfl ?_
  refine g_iload_n dX10_setLimit_5 rfl ?_
  refine g_cVi (st := []) (av := [vI l1, vI l2]) (kX1_hasBoth bk_40 h) (kd_bk0 bk_40) rfl cw_RX10_143 (by decide) (by decide) (Nat.le_of_ble_eq_true rfl) rfl dX10_setLimit_6 (fun y2 m1 h => ?_)
  obtain ⟨hA, hB⟩ := h
  refine g_if_eq (tgt := 19) dX10_setLimit_9 (by decide) (fun hc => ?_) (fun hc => ?_)
  · replace h := hA hc
    refine g_iconst dX10_setLimit_19 (-1) rfl (by decide) ?_
    exact g_iret hR dX10_setLimit_20 h
  · replace h := hB hc
    refine g_iload_n dX10_setLimit_12 rfl ?_
    refine g_cSi (st := []) (av := [vI l3]) (kX10_isLimit h) cw_RX10_358 (by decide) (by decide) (Nat.le_of_ble_eq_true rfl) rfl dX10_setLimit_13 (fun y4 m3 h => ?_)
    obtain ⟨hA, hB⟩ := h
    refine g_if_ne (tgt := 21) dX10_setLimit_16 (by decide) (fun hc => ?_) (fun hc => ?_)
    · replace h := hA hc
      refine g_aload_n dX10_setLimit_21 rfl ?_
      refine g_getR (r := 40) fl_10_12 kd_0 rfl dX10_setLimit_22 ?_
      refine g_cVi (st := []) (av := []) (kX1_holdsAny bk_40 h) (kd_bk0 bk_40) rfl cw_RX10_114 (by decide) (by decide) (Nat.le_of_ble_eq_true rfl) rfl dX10_setLimit_25 (fun y6 m5 h => ?_)
      obtain ⟨hA, hB⟩ := h
      refine g_if_eq (tgt := 34) dX10_setLimit_28 (by decide) (fun hc => ?_) (fun hc => ?_)
      · replace h := hA hc
        refine g_aload_n dX10_setLimit_34 rfl ?_
        refine g_getR (r := 40) fl_10_12 kd_0 rfl dX10_setLimit_35 ?_
        refine g_getR (r := 40 + 1) fl_10_136 (kd_bk0 bk_40) rfl dX10_setLimit_38 ?_
        refine g_iload_n dX10_setLimit_41 rfl ?_
        refine g_iload_n dX10_setLimit_42 rfl ?_
        refine g_cSi (st := [vR (40 + 1)]) (av := [vI l1, vI l2]) (kX10_at h) cw_RX10_133 (by decide) (by decide) (Nat.le_of_ble_eq_true rfl) rfl dX10_setLimit_43 (fun y8 m7 h => ?_)
        obtain ⟨hin, h⟩ := h
        refine g_iald (kd_bk1 bk_40) hin dX10_setLimit_46 ?_
        refine g_topI (fun x9 ex9 => ?_)
        replace h := h x9 ex9
        refine g_istore (lv' := [(4, vI x9), (0, vR 0), (1, vI l1), (2, vI l2), (3, vI l3)]) dX10_setLimit_47 (by decide) rfl ?_
        refine g_iload dX10_setLimit_49 rfl ?_
        refine g_iload_n dX10_setLimit_51 rfl ?_
        obtain ⟨hA, hB⟩ := h
        refine g_icmp_ne (tgt := 58) dX10_setLimit_52 (by decide) (fun hc => ?_) (fun hc => ?_)
        · replace h := hA hc
          refine g_iload_n dX10_setLimit_58 rfl ?_
          refine g_aload_n dX10_setLimit_59 rfl ?_
          refine g_getR (r := 40) fl_10_12 kd_0 rfl dX10_setLimit_60 ?_
          refine g_iload_n dX10_setLimit_63 rfl ?_
          refine g_iload_n dX10_setLimit_64 rfl ?_
          refine g_cVi (st := [vI l3]) (av := [vI l2, vI l1]) (kX1_owed bk_40 h) (kd_bk0 bk_40) rfl cw_RX10_140 (by decide) (by decide) (Nat.le_of_ble_eq_true rfl) rfl dX10_setLimit_65 (fun y11 m10 h => ?_)
          obtain ⟨hA, hB⟩ := h
          refine g_icmp_ge (tgt := 74) dX10_setLimit_68 (by decide) (fun hc => ?_) (fun hc => ?_)
          · replace h := hA hc
            refine g_aload_n dX10_setLimit_74 rfl ?_
            refine g_getR (r := 40) fl_10_12 kd_0 rfl dX10_setLimit_75 ?_
            refine g_getR (r := 40 + 1) fl_10_136 (kd_bk0 bk_40) rfl dX10_setLimit_78 ?_
            refine g_iload_n dX10_setLimit_81 rfl ?_
            refine g_iload_n dX10_setLimit_82 rfl ?_
            refine g_cSi (st := [vR (40 + 1)]) (av := [vI l1, vI l2]) (kX10_at h) cw_RX10_133 (by decide) (by decide) (Nat.le_of_ble_eq_true rfl) rfl dX10_setLimit_83 (fun y13 m12 h => ?_)
            refine g_iload_n dX10_setLimit_86 rfl ?_
            obtain ⟨hin, h⟩ := h
            refine g_iast (kd_bk1 bk_40) hin dX10_setLimit_87 ?_
            refine g_nm (fun m14 em14 => ?_)
            replace h := h m14 em14
            refine g_iload dX10_setLimit_88 rfl ?_
            exact g_iret hR dX10_setLimit_90 h
          · replace h := hB hc
            refine g_bipush dX10_setLimit_71 (-4) rfl (by decide) ?_
            exact g_iret hR dX10_setLimit_73 h
        · replace h := hB hc
          refine g_bipush dX10_setLimit_55 (-2) rfl (by decide) ?_
          exact g_iret hR dX10_setLimit_57 h
      · replace h := hB hc
        refine g_bipush dX10_setLimit_31 (-5) rfl (by decide) ?_
        exact g_iret hR dX10_setLimit_33 h
    · replace h := hB hc
      refine g_iconst dX10_setLimit_19 (-1) rfl (by decide) ?_
      exact g_iret hR dX10_setLimit_20 h
def wX10_limits (l1 : Int) (l2 : Int) (l3 : Int) (σ : Mem) (Q : Int → Mem → Prop) : Prop := (wX1_copyFrom 56 40 σ (fun m1 => (wX10_setLimit l1 l2 l3 m1 (fun y3 m2 => (wX10_remembered y3 m2 (fun y5 m4 => Q y5 m4))))))
set_option maxHeartbeats 1000000 in
theorem kX10_limits {l1 : Int} {l2 : Int} {l3 : Int} {σ : Mem} {Q : Int → Mem → Prop} (h : wX10_limits l1 l2 l3 σ Q) (l : Launch) (D : va_G) (cy : Nat → ClassId) (ad : Nat → Nat) : MI l yX10_limits cX10_limits 4 (some .int) 5 151 D cy ad [vR 0, vI l1, vI l2, vI l3] σ Q := by
  refine m_I (own := RX10) (lv := [(0, vR 0), (1, vI l1), (2, vI l2), (3, vI l3)]) (by decide +kernel) rfl (Nat.le_of_ble_eq_true rfl) rfl (fun E hR => ?_) l D cy ad
  unfold wX10_limits at h
  refine g_aload_n dX10_limits_0 rfl ?_
  refine g_getR (r := 56) fl_10_16 kd_0 rfl dX10_limits_1 ?_
  refine g_aload_n dX10_limits_4 rfl ?_
  refine g_getR (r := 40) fl_10_12 kd_0 rfl dX10_limits_5 ?_
  refine g_cVv (st := []) (av := [vR 40]) (kX1_copyFrom bk_56 bk_40 h) (kd_bk0 bk_56) rfl cw_RX10_108 (by decide) (by decide) (Nat.le_of_ble_eq_true rfl) rfl dX10_limits_8 (fun m1 h => ?_)
  refine g_aload_n dX10_limits_11 rfl ?_
  refine g_aload_n dX10_limits_12 rfl ?_
  refine g_iload_n dX10_limits_13 rfl ?_
  refine g_iload_n dX10_limits_14 rfl ?_
  refine g_iload_n dX10_limits_15 rfl ?_
  refine g_cVi (st := [vR 0]) (av := [vI l1, vI l2, vI l3]) (kX10_setLimit h) kd_0 rfl cw_RX10_361 (by decide) (by decide) (Nat.le_of_ble_eq_true rfl) rfl dX10_limits_16 (fun y3 m2 h => ?_)
  refine g_cVi (st := []) (av := [vI y3]) (kX10_remembered h) kd_0 rfl cw_RX10_240 (by decide) (by decide) (Nat.le_of_ble_eq_true rfl) rfl dX10_limits_19 (fun y5 m4 h => ?_)
  exact g_iret hR dX10_limits_22 h
def wX10_setStock (l1 : Int) (l2 : Int) (σ : Mem) (Q : Int → Mem → Prop) : Prop := (wX1_has 40 l1 σ (fun y2 m1 => ((y2 = 0 → Q ((-1)) m1) ∧ (¬ y2 = 0 → (wX10_isLimit l2 m1 (fun y4 m3 => ((¬ y4 = 0 → ((0 ≤ l1 ∧ l1 < 8) ∧ (∀ x5 : Int, x5 = m3 (40 + 3) l1.toNat → ((¬ x5 = l2 → ((0 ≤ l1 ∧ l1 < 8) ∧ (∀ m6 : Mem, m6 = up2 m3 (40 + 3) l1.toNat l2 → Q x5 m6))) ∧ (x5 = l2 → Q ((-2)) m3))))) ∧ (y4 = 0 → Q ((-1)) m3))))))))
set_option maxHeartbeats 1000000 in
theorem kX10_setStock {l1 : Int} {l2 : Int} {σ : Mem} {Q : Int → Mem → Prop} (h : wX10_setStock l1 l2 σ Q) (l : Launch) (D : va_G) (cy : Nat → ClassId) (ad : Nat → Nat) : MI l yX10_setStock cX10_setStock 4 (some .int) 1 21 D cy ad [vR 0, vI l1, vI l2] σ Q := by
  refine m_I (own := RX10) (lv := [(0, vR 0), (1, vI l1), (2, vI l2)]) (by decide +kernel) rfl (Nat.le_of_ble_eq_true rfl) rfl (fun E hR => ?_) l D cy ad
  unfold wX10_setStock at h
  refine g_aload_n dX10_setStock_0 rfl ?_
  refine g_getR (r := 40) fl_10_12 kd_0 rfl dX10_setStock_1 ?_
  refine g_iload_n dX10_setStock_4 rfl ?_
  refine g_cVi (st := []) (av := [vI l1]) (kX1_has bk_40 h) (kd_bk0 bk_40) rfl cw_RX10_111 (by decide) (by decide) (Nat.le_of_ble_eq_true rfl) rfl dX10_setStock_5 (fun y2 m1 h => ?_)
  obtain ⟨hA, hB⟩ := h
  refine g_if_eq (tgt := 18) dX10_setStock_8 (by decide) (fun hc => ?_) (fun hc => ?_)
  · replace h := hA hc
    refine g_iconst dX10_setStock_18 (-1) rfl (by decide) ?_
    exact g_iret hR dX10_setStock_19 h
  · replace h := hB hc
    refine g_iload_n dX10_setStock_11 rfl ?_
    refine g_cSi (st := []) (av := [vI l2]) (kX10_isLimit h) cw_RX10_358 (by decide) (by decide) (Nat.le_of_ble_eq_true rfl) rfl dX10_setStock_12 (fun y4 m3 h => ?_)
    obtain ⟨hA, hB⟩ := h
    refine g_if_ne (tgt := 20) dX10_setStock_15 (by decide) (fun hc => ?_) (fun hc => ?_)
    · replace h := hA hc
      refine g_aload_n dX10_setStock_20 rfl ?_
      refine g_getR (r := 40) fl_10_12 kd_0 rfl dX10_setStock_21 ?_
      refine g_getR (r := 40 + 3) fl_10_348 (kd_bk0 bk_40) rfl dX10_setStock_24 ?_
      refine g_iload_n dX10_setStock_27 rfl ?_
      obtain ⟨hin, h⟩ := h
      refine g_iald (kd_bk3 bk_40) hin dX10_setStock_28 ?_
      refine g_topI (fun x5 ex5 => ?_)
      replace h := h x5 ex5
      refine g_istore_n (lv' := [(3, vI x5), (0, vR 0), (1, vI l1), (2, vI l2)]) dX10_setStock_29 (by decide) rfl ?_
      refine g_iload_n dX10_setStock_30 rfl ?_
      refine g_iload_n dX10_setStock_31 rfl ?_
      obtain ⟨hA, hB⟩ := h
      refine g_icmp_ne (tgt := 38) dX10_setStock_32 (by decide) (fun hc => ?_) (fun hc => ?_)
      · replace h := hA hc
        refine g_aload_n dX10_setStock_38 rfl ?_
        refine g_getR (r := 40) fl_10_12 kd_0 rfl dX10_setStock_39 ?_
        refine g_getR (r := 40 + 3) fl_10_348 (kd_bk0 bk_40) rfl dX10_setStock_42 ?_
        refine g_iload_n dX10_setStock_45 rfl ?_
        refine g_iload_n dX10_setStock_46 rfl ?_
        obtain ⟨hin, h⟩ := h
        refine g_iast (kd_bk3 bk_40) hin dX10_setStock_47 ?_
        refine g_nm (fun m6 em6 => ?_)
        replace h := h m6 em6
        refine g_iload_n dX10_setStock_48 rfl ?_
        exact g_iret hR dX10_setStock_49 h
      · replace h := hB hc
        refine g_bipush dX10_setStock_35 (-2) rfl (by decide) ?_
        exact g_iret hR dX10_setStock_37 h
    · replace h := hB hc
      refine g_iconst dX10_setStock_18 (-1) rfl (by decide) ?_
      exact g_iret hR dX10_setStock_19 h
def wX10_stocks (l1 : Int) (l2 : Int) (σ : Mem) (Q : Int → Mem → Prop) : Prop := (wX1_copyFrom 56 40 σ (fun m1 => (wX10_setStock l1 l2 m1 (fun y3 m2 => (wX10_remembered y3 m2 (fun y5 m4 => Q y5 m4))))))
set_option maxHeartbeats 1000000 in
theorem kX10_stocks {l1 : Int} {l2 : Int} {σ : Mem} {Q : Int → Mem → Prop} (h : wX10_stocks l1 l2 σ Q) (l : Launch) (D : va_G) (cy : Nat → ClassId) (ad : Nat → Nat) : MI l yX10_stocks cX10_stocks 3 (some .int) 5 151 D cy ad [vR 0, vI l1, vI l2] σ Q := by
  refine m_I (own := RX10) (lv := [(0, vR 0), (1, vI l1), (2, vI l2)]) (by decide +kernel) rfl (Nat.le_of_ble_eq_true rfl) rfl (fun E hR => ?_) l D cy ad
  unfold wX10_stocks at h
  refine g_aload_n dX10_stocks_0 rfl ?_
  refine g_getR (r := 56) fl_10_16 kd_0 rfl dX10_stocks_1 ?_
  refine g_aload_n dX10_stocks_4 rfl ?_
  refine g_getR (r := 40) fl_10_12 kd_0 rfl dX10_stocks_5 ?_
  refine g_cVv (st := []) (av := [vR 40]) (kX1_copyFrom bk_56 bk_40 h) (kd_bk0 bk_56) rfl cw_RX10_108 (by decide) (by decide) (Nat.le_of_ble_eq_true rfl) rfl dX10_stocks_8 (fun m1 h => ?_)
  refine g_aload_n dX10_stocks_11 rfl ?_
  refine g_aload_n dX10_stocks_12 rfl ?_
  refine g_iload_n dX10_stocks_13 rfl ?_
  refine g_iload_n dX10_stocks_14 rfl ?_
  refine g_cVi (st := [vR 0]) (av := [vI l1, vI l2]) (kX10_setStock h) kd_0 rfl cw_RX10_364 (by decide) (by decide) (Nat.le_of_ble_eq_true rfl) rfl dX10_stocks_15 (fun y3 m2 h => ?_)
  refine g_cVi (st := []) (av := [vI y3]) (kX10_remembered h) kd_0 rfl cw_RX10_240 (by decide) (by decide) (Nat.le_of_ble_eq_true rfl) rfl dX10_stocks_18 (fun y5 m4 h => ?_)
  exact g_iret hR dX10_stocks_21 h
def wX10_letOff (l1 : Int) (l2 : Int) (l3 : Int) (σ : Mem) (Q : Int → Mem → Prop) : Prop := (wX10_isPayment l1 l2 l3 σ (fun y2 m1 => ((¬ y2 = 0 → (wX1_holdsAny 40 m1 (fun y4 m3 => ((y4 = 0 → (wX1_owed 40 l1 l2 m3 (fun y6 m5 => ((l3 ≤ y6 → (wX1_payStraight 40 l2 l1 l3 m5 (fun m7 => (wX1_owed 40 l1 l2 m7 (fun y9 m8 => Q y9 m8))))) ∧ (¬ l3 ≤ y6 → Q ((-4)) m5))))) ∧ (¬ y4 = 0 → Q ((-5)) m3))))) ∧ (y2 = 0 → Q ((-1)) m1))))
set_option maxHeartbeats 1000000 in
theorem kX10_letOff {l1 : Int} {l2 : Int} {l3 : Int} {σ : Mem} {Q : Int → Mem → Prop} (h : wX10_letOff l1 l2 l3 σ Q) (l : Launch) (D : va_G) (cy : Nat → ClassId) (ad : Nat → Nat) : MI l yX10_letOff cX10_letOff 4 (some .int) 3 66 D cy ad [vR 0, vI l1, vI l2, vI l3] σ Q := by
  refine m_I (own := RX10) (lv := [(0, vR 0), (1, vI l1), (2, vI l2), (3, vI l3)]) (by decide +kernel) rfl (Nat.le_of_ble_eq_true rfl) rfl (fun E hR => ?_) l D cy ad
  unfold wX10_letOff at h
  refine g_aload_n dX10_letOff_0 rfl ?_
  refine g_iload_n dX10_letOff_1 rfl ?_
  refine g_iload_n dX10_letOff_2 rfl ?_
  refine g_iload_n dX10_letOff_3 rfl ?_
  refine g_cVi (st := []) (av := [vI l1, vI l2, vI l3]) (kX10_isPayment h) kd_0 rfl cw_RX10_174 (by decide) (by decide) (Nat.le_of_ble_eq_true rfl) rfl dX10_letOff_4 (fun y2 m1 h => ?_)
  obtain ⟨hA, hB⟩ := h
  refine g_if_ne (tgt := 12) dX10_letOff_7 (by decide) (fun hc => ?_) (fun hc => ?_)
  · replace h := hA hc
    refine g_aload_n dX10_letOff_12 rfl ?_
    refine g_getR (r := 40) fl_10_12 kd_0 rfl dX10_letOff_13 ?_
    refine g_cVi (st := []) (av := []) (kX1_holdsAny bk_40 h) (kd_bk0 bk_40) rfl cw_RX10_114 (by decide) (by decide) (Nat.le_of_ble_eq_true rfl) rfl dX10_letOff_16 (fun y4 m3 h => ?_)
    obtain ⟨hA, hB⟩ := h
    refine g_if_eq (tgt := 25) dX10_letOff_19 (by decide) (fun hc => ?_) (fun hc => ?_)
    · replace h := hA hc
      refine g_aload_n dX10_letOff_25 rfl ?_
      refine g_getR (r := 40) fl_10_12 kd_0 rfl dX10_letOff_26 ?_
      refine g_iload_n dX10_letOff_29 rfl ?_
      refine g_iload_n dX10_letOff_30 rfl ?_
      refine g_cVi (st := []) (av := [vI l1, vI l2]) (kX1_owed bk_40 h) (kd_bk0 bk_40) rfl cw_RX10_140 (by decide) (by decide) (Nat.le_of_ble_eq_true rfl) rfl dX10_letOff_31 (fun y6 m5 h => ?_)
      refine g_iload_n dX10_letOff_34 rfl ?_
      obtain ⟨hA, hB⟩ := h
      refine g_icmp_ge (tgt := 41) dX10_letOff_35 (by decide) (fun hc => ?_) (fun hc => ?_)
      · replace h := hA hc
        refine g_aload_n dX10_letOff_41 rfl ?_
        refine g_getR (r := 40) fl_10_12 kd_0 rfl dX10_letOff_42 ?_
        refine g_iload_n dX10_letOff_45 rfl ?_
        refine g_iload_n dX10_letOff_46 rfl ?_
        refine g_iload_n dX10_letOff_47 rfl ?_
        refine g_cVv (st := []) (av := [vI l2, vI l1, vI l3]) (kX1_payStraight bk_40 h) (kd_bk0 bk_40) rfl cw_RX10_438 (by decide) (by decide) (Nat.le_of_ble_eq_true rfl) rfl dX10_letOff_48 (fun m7 h => ?_)
        refine g_aload_n dX10_letOff_51 rfl ?_
        refine g_getR (r := 40) fl_10_12 kd_0 rfl dX10_letOff_52 ?_
        refine g_iload_n dX10_letOff_55 rfl ?_
        refine g_iload_n dX10_letOff_56 rfl ?_
        refine g_cVi (st := []) (av := [vI l1, vI l2]) (kX1_owed bk_40 h) (kd_bk0 bk_40) rfl cw_RX10_140 (by decide) (by decide) (Nat.le_of_ble_eq_true rfl) rfl dX10_letOff_57 (fun y9 m8 h => ?_)
        exact g_iret hR dX10_letOff_60 h
      · replace h := hB hc
        refine g_bipush dX10_letOff_38 (-4) rfl (by decide) ?_
        exact g_iret hR dX10_letOff_40 h
    · replace h := hB hc
      refine g_bipush dX10_letOff_22 (-5) rfl (by decide) ?_
      exact g_iret hR dX10_letOff_24 h
  · replace h := hB hc
    refine g_iconst dX10_letOff_10 (-1) rfl (by decide) ?_
    exact g_iret hR dX10_letOff_11 h
def wX10_lets (l1 : Int) (l2 : Int) (l3 : Int) (σ : Mem) (Q : Int → Mem → Prop) : Prop := (wX1_copyFrom 56 40 σ (fun m1 => (wX10_letOff l1 l2 l3 m1 (fun y3 m2 => (wX10_remembered y3 m2 (fun y5 m4 => Q y5 m4))))))
set_option maxHeartbeats 1000000 in
theorem kX10_lets {l1 : Int} {l2 : Int} {l3 : Int} {σ : Mem} {Q : Int → Mem → Prop} (h : wX10_lets l1 l2 l3 σ Q) (l : Launch) (D : va_G) (cy : Nat → ClassId) (ad : Nat → Nat) : MI l yX10_lets cX10_lets 4 (some .int) 5 151 D cy ad [vR 0, vI l1, vI l2, vI l3] σ Q := by
  refine m_I (own := RX10) (lv := [(0, vR 0), (1, vI l1), (2, vI l2), (3, vI l3)]) (by decide +kernel) rfl (Nat.le_of_ble_eq_true rfl) rfl (fun E hR => ?_) l D cy ad
  unfold wX10_lets at h
  refine g_aload_n dX10_lets_0 rfl ?_
  refine g_getR (r := 56) fl_10_16 kd_0 rfl dX10_lets_1 ?_
  refine g_aload_n dX10_lets_4 rfl ?_
  refine g_getR (r := 40) fl_10_12 kd_0 rfl dX10_lets_5 ?_
  refine g_cVv (st := []) (av := [vR 40]) (kX1_copyFrom bk_56 bk_40 h) (kd_bk0 bk_56) rfl cw_RX10_108 (by decide) (by decide) (Nat.le_of_ble_eq_true rfl) rfl dX10_lets_8 (fun m1 h => ?_)
  refine g_aload_n dX10_lets_11 rfl ?_
  refine g_aload_n dX10_lets_12 rfl ?_
  refine g_iload_n dX10_lets_13 rfl ?_
  refine g_iload_n dX10_lets_14 rfl ?_
  refine g_iload_n dX10_lets_15 rfl ?_
  refine g_cVi (st := [vR 0]) (av := [vI l1, vI l2, vI l3]) (kX10_letOff h) kd_0 rfl cw_RX10_367 (by decide) (by decide) (Nat.le_of_ble_eq_true rfl) rfl dX10_lets_16 (fun y3 m2 h => ?_)
  refine g_cVi (st := []) (av := [vI y3]) (kX10_remembered h) kd_0 rfl cw_RX10_240 (by decide) (by decide) (Nat.le_of_ble_eq_true rfl) rfl dX10_lets_19 (fun y5 m4 h => ?_)
  exact g_iret hR dX10_lets_22 h
def wX10_leaves_28 (K28 : (Int × Int) → Mem → Prop) (Q : Int → Mem → Prop) (l1 : Int) (l2 : Int) (σ : Mem) : Prop := ((σ 40 0 ≤ l2 → (wX6_add 40 σ (fun m1 => (wX1_closeLines 40 l1 m1 (fun y3 m2 => Q y3 m2))))) ∧ (¬ σ 40 0 ≤ l2 → (wX10_at l1 l2 σ (fun y5 m4 => ((0 ≤ y5 ∧ y5 < 64) ∧ ((m4 (40 + 2) y5.toNat = 0 → (∀ x6 : Int, x6 = w32 (l2 + 1) → K28 (l1, x6) m4)) ∧ (¬ m4 (40 + 2) y5.toNat = 0 → Q ((-4)) m4)))))))
def wLX10_leaves_28 (Q : Int → Mem → Prop) (l1 : Int) (l2 : Int) (σ : Mem) : Prop := ∃ n, lp (fun (K28 : (Int × Int) → Mem → Prop) (x : Int × Int) (σ : Mem) => wX10_leaves_28 K28 Q x.1 x.2 σ) n (l1, l2) σ
def wX10_leaves (l1 : Int) (σ : Mem) (Q : Int → Mem → Prop) : Prop := (wX1_has 40 l1 σ (fun y2 m1 => ((¬ y2 = 0 → (wX1_holdsAny 40 m1 (fun y4 m3 => ((y4 = 0 → wLX10_leaves_28 Q l1 0 m3) ∧ (¬ y4 = 0 → Q ((-5)) m3))))) ∧ (y2 = 0 → Q ((-1)) m1))))
set_option maxHeartbeats 1000000 in
theorem bX10_leaves_28 {E : TE} {K28 : (Int × Int) → Mem → Prop} (hK28 : ∀ (x : Int × Int) (σ : Mem), K28 x σ → GW E cX10_leaves 3 RX10 4 130 σ 28 [(0, vR 0), (1, vI x.1), (2, vI x.2)] []) {Q : Int → Mem → Prop} (hR : RI E (some .int) Q) {l1 : Int} {l2 : Int} {σ : Mem} (h : wX10_leaves_28 K28 Q l1 l2 σ) : GW E cX10_leaves 3 RX10 4 130 σ 28 [(0, vR 0), (1, vI l1), (2, vI l2)] [] := by
  unfold wX10_leaves_28 at h
  refine g_iload_n dX10_leaves_28 rfl ?_
  refine g_aload_n dX10_leaves_29 rfl ?_
  refine g_getR (r := 40) fl_10_12 kd_0 rfl dX10_leaves_30 ?_
  refine g_getI fl_10_164 (kd_bk0 bk_40) rfl dX10_leaves_33 ?_
  obtain ⟨hA, hB⟩ := h
  refine g_icmp_ge (tgt := 64) dX10_leaves_36 (by decide) (fun hc => ?_) (fun hc => ?_)
  · replace h := hA hc
    refine g_aload_n dX10_leaves_64 rfl ?_
    refine g_getR (r := 3) fl_10_33 kd_0 rfl dX10_leaves_65 ?_
    refine g_aload_n dX10_leaves_68 rfl ?_
    refine g_getR (r := 40) fl_10_12 kd_0 rfl dX10_leaves_69 ?_
    refine g_cVv (st := []) (av := [vR 40]) (kX6_add bk_40 h) kd_3 rfl cw_RX10_104 (by decide) (by decide) (Nat.le_of_ble_eq_true rfl) rfl dX10_leaves_72 (fun m1 h => ?_)
    refine g_aload_n dX10_leaves_75 rfl ?_
    refine g_getR (r := 40) fl_10_12 kd_0 rfl dX10_leaves_76 ?_
    refine g_iload_n dX10_leaves_79 rfl ?_
    refine g_cVi (st := []) (av := [vI l1]) (kX1_closeLines bk_40 h) (kd_bk0 bk_40) rfl cw_RX10_370 (by decide) (by decide) (Nat.le_of_ble_eq_true rfl) rfl dX10_leaves_80 (fun y3 m2 h => ?_)
    exact g_iret hR dX10_leaves_83 h
  · replace h := hB hc
    refine g_aload_n dX10_leaves_39 rfl ?_
    refine g_getR (r := 40) fl_10_12 kd_0 rfl dX10_leaves_40 ?_
    refine g_getR (r := 40 + 2) fl_10_167 (kd_bk0 bk_40) rfl dX10_leaves_43 ?_
    refine g_iload_n dX10_leaves_46 rfl ?_
    refine g_iload_n dX10_leaves_47 rfl ?_
    refine g_cSi (st := [vR (40 + 2)]) (av := [vI l1, vI l2]) (kX10_at h) cw_RX10_133 (by decide) (by decide) (Nat.le_of_ble_eq_true rfl) rfl dX10_leaves_48 (fun y5 m4 h => ?_)
    obtain ⟨hin, h⟩ := h
    refine g_iald (kd_bk2 bk_40) hin dX10_leaves_51 ?_
    obtain ⟨hA, hB⟩ := h
    refine g_if_eq (tgt := 58) dX10_leaves_52 (by decide) (fun hc => ?_) (fun hc => ?_)
    · replace h := hA hc
      refine g_iinc (lv' := [(2, vI (w32 (l2 + 1))), (0, vR 0), (1, vI l1)]) dX10_leaves_58 rfl (by decide) rfl ?_
      refine g_loc (a := w32 (l2 + 1)) (i := 2) (lv := [(0, vR 0), (1, vI l1)]) (fun x6 ex6 => ?_)
      replace h := h x6 ex6
      refine g_goto (tgt := 28) dX10_leaves_61 (by decide) ?_
      refine g_lv (lv' := [(0, vR 0), (1, vI l1), (2, vI x6)]) [1, 2, 0] rfl ?_
      exact hK28 ((l1, x6)) m4 h
    · replace h := hB hc
      refine g_bipush dX10_leaves_55 (-4) rfl (by decide) ?_
      exact g_iret hR dX10_leaves_57 h
theorem eX10_leaves_28 {E : TE} {Q : Int → Mem → Prop} (hR : RI E (some .int) Q) {l1 : Int} {l2 : Int} {σ : Mem} (h : wLX10_leaves_28 Q l1 l2 σ) : GW E cX10_leaves 3 RX10 4 130 σ 28 [(0, vR 0), (1, vI l1), (2, vI l2)] [] := by
  obtain ⟨n, h⟩ := h
  exact lp_GW (P := fun (x : Int × Int) (σ : Mem) => GW E cX10_leaves 3 RX10 4 130 σ 28 [(0, vR 0), (1, vI x.1), (2, vI x.2)] []) (fun K hK x σ h  => bX10_leaves_28 hK hR h) n _ σ h 
set_option maxHeartbeats 1000000 in
theorem kX10_leaves {l1 : Int} {σ : Mem} {Q : Int → Mem → Prop} (h : wX10_leaves l1 σ Q) (l : Launch) (D : va_G) (cy : Nat → ClassId) (ad : Nat → Nat) : MI l yX10_leaves cX10_leaves 3 (some .int) 4 130 D cy ad [vR 0, vI l1] σ Q := by
  refine m_I (own := RX10) (lv := [(0, vR 0), (1, vI l1)]) (by decide +kernel) rfl (Nat.le_of_ble_eq_true rfl) rfl (fun E hR => ?_) l D cy ad
  unfold wX10_leaves at h
  refine g_aload_n dX10_leaves_0 rfl ?_
  refine g_getR (r := 40) fl_10_12 kd_0 rfl dX10_leaves_1 ?_
  refine g_iload_n dX10_leaves_4 rfl ?_
  refine g_cVi (st := []) (av := [vI l1]) (kX1_has bk_40 h) (kd_bk0 bk_40) rfl cw_RX10_111 (by decide) (by decide) (Nat.le_of_ble_eq_true rfl) rfl dX10_leaves_5 (fun y2 m1 h => ?_)
  obtain ⟨hA, hB⟩ := h
  refine g_if_ne (tgt := 13) dX10_leaves_8 (by decide) (fun hc => ?_) (fun hc => ?_)
  · replace h := hA hc
    refine g_aload_n dX10_leaves_13 rfl ?_
    refine g_getR (r := 40) fl_10_12 kd_0 rfl dX10_leaves_14 ?_
    refine g_cVi (st := []) (av := []) (kX1_holdsAny bk_40 h) (kd_bk0 bk_40) rfl cw_RX10_114 (by decide) (by decide) (Nat.le_of_ble_eq_true rfl) rfl dX10_leaves_17 (fun y4 m3 h => ?_)
    obtain ⟨hA, hB⟩ := h
    refine g_if_eq (tgt := 26) dX10_leaves_20 (by decide) (fun hc => ?_) (fun hc => ?_)
    · replace h := hA hc
      refine g_iconst dX10_leaves_26 0 rfl (by decide) ?_
      refine g_istore_n (lv' := [(2, vI 0), (0, vR 0), (1, vI l1)]) dX10_leaves_27 (by decide) rfl ?_
      refine g_lv (lv' := [(0, vR 0), (1, vI l1), (2, vI 0)]) [1, 2, 0] rfl ?_
      exact eX10_leaves_28 hR h
    · replace h := hB hc
      refine g_bipush dX10_leaves_23 (-5) rfl (by decide) ?_
      exact g_iret hR dX10_leaves_25 h
  · replace h := hB hc
    refine g_iconst dX10_leaves_11 (-1) rfl (by decide) ?_
    exact g_iret hR dX10_leaves_12 h
def wX10_perform (l1 : Int) (σ : Mem) (Q : Int → Mem → Prop) : Prop := ((0 ≤ l1 ∧ l1 < 80) ∧ (∀ x1 : Int, x1 = σ 9 l1.toNat → ((0 ≤ l1 ∧ l1 < 80) ∧ (∀ x2 : Int, x2 = σ 10 l1.toNat → ((0 ≤ l1 ∧ l1 < 80) ∧ (∀ x3 : Int, x3 = σ 11 l1.toNat → ((0 ≤ l1 ∧ l1 < 80) ∧ ((σ 8 l1.toNat = 102 → (wX10_letOff x1 x2 x3 σ (fun y5 m4 => Q y5 m4))) ∧ (σ 8 l1.toNat = 103 → (wX10_dropHeld x3 σ (fun y7 m6 => Q y7 m6))) ∧ (σ 8 l1.toNat = 104 → (wX10_holdPayment x1 x2 x3 σ (fun y9 m8 => Q y9 m8))) ∧ (σ 8 l1.toNat = 107 → (wX10_setStock x1 x3 σ (fun y11 m10 => Q y11 m10))) ∧ (σ 8 l1.toNat = 108 → (wX10_setLimit x1 x2 x3 σ (fun y13 m12 => Q y13 m12))) ∧ (σ 8 l1.toNat = 109 → (wX10_makeHeld x3 σ (fun y15 m14 => Q y15 m14))) ∧ (σ 8 l1.toNat = 112 → (wX10_paySplit x1 x2 x3 σ (fun y17 m16 => Q y17 m16))) ∧ (σ 8 l1.toNat = 115 → (wX10_settleRings  σ (fun y19 m18 => Q y19 m18))) ∧ (σ 8 l1.toNat = 119 → (wX10_payWhole x1 x2 x3 σ (fun y21 m20 => Q y21 m20))) ∧ (σ 8 l1.toNat ≠ 102 ∧ σ 8 l1.toNat ≠ 103 ∧ σ 8 l1.toNat ≠ 104 ∧ σ 8 l1.toNat ≠ 107 ∧ σ 8 l1.toNat ≠ 108 ∧ σ 8 l1.toNat ≠ 109 ∧ σ 8 l1.toNat ≠ 112 ∧ σ 8 l1.toNat ≠ 115 ∧ σ 8 l1.toNat ≠ 119 → Q ((-1)) σ)))))))))
set_option maxHeartbeats 1000000 in
theorem kX10_perform {l1 : Int} {σ : Mem} {Q : Int → Mem → Prop} (h : wX10_perform l1 σ Q) (l : Launch) (D : va_G) (cy : Nat → ClassId) (ad : Nat → Nat) : MI l yX10_perform cX10_perform 5 (some .int) 6 142 D cy ad [vR 0, vI l1] σ Q := by
  refine m_I (own := RX10) (lv := [(0, vR 0), (1, vI l1)]) (by decide +kernel) rfl (Nat.le_of_ble_eq_true rfl) rfl (fun E hR => ?_) l D cy ad
  unfold wX10_perform at h
  refine g_aload_n dX10_perform_0 rfl ?_
  refine g_getR (r := 7) fl_10_47 kd_0 rfl dX10_perform_1 ?_
  refine g_getR (r := 9) fl_10_288 kd_7 rfl dX10_perform_4 ?_
  refine g_iload_n dX10_perform_7 rfl ?_
  obtain ⟨hin, h⟩ := h
  refine g_iald kd_9 hin dX10_perform_8 ?_
  refine g_topI (fun x1 ex1 => ?_)
  replace h := h x1 ex1
  refine g_istore_n (lv' := [(2, vI x1), (0, vR 0), (1, vI l1)]) dX10_perform_9 (by decide) rfl ?_
  refine g_aload_n dX10_perform_10 rfl ?_
  refine g_getR (r := 7) fl_10_47 kd_0 rfl dX10_perform_11 ?_
  refine g_getR (r := 10) fl_10_291 kd_7 rfl dX10_perform_14 ?_
  refine g_iload_n dX10_perform_17 rfl ?_
  obtain ⟨hin, h⟩ := h
  refine g_iald kd_10 hin dX10_perform_18 ?_
  refine g_topI (fun x2 ex2 => ?_)
  replace h := h x2 ex2
  refine g_istore_n (lv' := [(3, vI x2), (2, vI x1), (0, vR 0), (1, vI l1)]) dX10_perform_19 (by decide) rfl ?_
  refine g_aload_n dX10_perform_20 rfl ?_
  refine g_getR (r := 7) fl_10_47 kd_0 rfl dX10_perform_21 ?_
  refine g_getR (r := 11) fl_10_294 kd_7 rfl dX10_perform_24 ?_
  refine g_iload_n dX10_perform_27 rfl ?_
  obtain ⟨hin, h⟩ := h
  refine g_iald kd_11 hin dX10_perform_28 ?_
  refine g_topI (fun x3 ex3 => ?_)
  replace h := h x3 ex3
  refine g_istore (lv' := [(4, vI x3), (3, vI x2), (2, vI x1), (0, vR 0), (1, vI l1)]) dX10_perform_29 (by decide) rfl ?_
  refine g_aload_n dX10_perform_31 rfl ?_
  refine g_getR (r := 7) fl_10_47 kd_0 rfl dX10_perform_32 ?_
  refine g_getR (r := 8) fl_10_416 kd_7 rfl dX10_perform_35 ?_
  refine g_iload_n dX10_perform_38 rfl ?_
  obtain ⟨hin, h⟩ := h
  refine g_iald kd_8 hin dX10_perform_39 ?_
  obtain ⟨hs0, hs1, hs2, hs3, hs4, hs5, hs6, hs7, hs8, hsd⟩ := h
  by_cases ej102 : σ 8 l1.toNat = 102
  · refine g_tswIn (tgt := 155) (off := 115) dX10_perform_40 102 ej102 (by decide) (by decide) rfl (by decide) ?_
    replace h := hs0 ej102
    refine g_aload_n dX10_perform_155 rfl ?_
    refine g_iload_n dX10_perform_156 rfl ?_
    refine g_iload_n dX10_perform_157 rfl ?_
    refine g_iload dX10_perform_158 rfl ?_
    refine g_cVi (st := []) (av := [vI x1, vI x2, vI x3]) (kX10_letOff h) kd_0 rfl cw_RX10_367 (by decide) (by decide) (Nat.le_of_ble_eq_true rfl) rfl dX10_perform_160 (fun y5 m4 h => ?_)
    exact g_iret hR dX10_perform_163 h
  by_cases ej103 : σ 8 l1.toNat = 103
  · refine g_tswIn (tgt := 185) (off := 145) dX10_perform_40 103 ej103 (by decide) (by decide) rfl (by decide) ?_
    replace h := hs1 ej103
    refine g_aload_n dX10_perform_185 rfl ?_
    refine g_iload dX10_perform_186 rfl ?_
    refine g_cVi (st := []) (av := [vI x3]) (kX10_dropHeld h) kd_0 rfl cw_RX10_252 (by decide) (by decide) (Nat.le_of_ble_eq_true rfl) rfl dX10_perform_188 (fun y7 m6 h => ?_)
    exact g_iret hR dX10_perform_191 h
  by_cases ej104 : σ 8 l1.toNat = 104
  · refine g_tswIn (tgt := 169) (off := 129) dX10_perform_40 104 ej104 (by decide) (by decide) rfl (by decide) ?_
    replace h := hs2 ej104
    refine g_aload_n dX10_perform_169 rfl ?_
    refine g_iload_n dX10_perform_170 rfl ?_
    refine g_iload_n dX10_perform_171 rfl ?_
    refine g_iload dX10_perform_172 rfl ?_
    refine g_cVi (st := []) (av := [vI x1, vI x2, vI x3]) (kX10_holdPayment h) kd_0 rfl cw_RX10_246 (by decide) (by decide) (Nat.le_of_ble_eq_true rfl) rfl dX10_perform_174 (fun y9 m8 h => ?_)
    exact g_iret hR dX10_perform_177 h
  by_cases ej105 : σ 8 l1.toNat = 105
  · refine g_tswIn (tgt := 200) (off := 160) dX10_perform_40 105 ej105 (by decide) (by decide) rfl (by decide) ?_
    replace h := hsd (by omega)
    refine g_iconst dX10_perform_200 (-1) rfl (by decide) ?_
    exact g_iret hR dX10_perform_201 h
  by_cases ej106 : σ 8 l1.toNat = 106
  · refine g_tswIn (tgt := 200) (off := 160) dX10_perform_40 106 ej106 (by decide) (by decide) rfl (by decide) ?_
    replace h := hsd (by omega)
    refine g_iconst dX10_perform_200 (-1) rfl (by decide) ?_
    exact g_iret hR dX10_perform_201 h
  by_cases ej107 : σ 8 l1.toNat = 107
  · refine g_tswIn (tgt := 192) (off := 152) dX10_perform_40 107 ej107 (by decide) (by decide) rfl (by decide) ?_
    replace h := hs3 ej107
    refine g_aload_n dX10_perform_192 rfl ?_
    refine g_iload_n dX10_perform_193 rfl ?_
    refine g_iload dX10_perform_194 rfl ?_
    refine g_cVi (st := []) (av := [vI x1, vI x3]) (kX10_setStock h) kd_0 rfl cw_RX10_364 (by decide) (by decide) (Nat.le_of_ble_eq_true rfl) rfl dX10_perform_196 (fun y11 m10 h => ?_)
    exact g_iret hR dX10_perform_199 h
  by_cases ej108 : σ 8 l1.toNat = 108
  · refine g_tswIn (tgt := 146) (off := 106) dX10_perform_40 108 ej108 (by decide) (by decide) rfl (by decide) ?_
    replace h := hs4 ej108
    refine g_aload_n dX10_perform_146 rfl ?_
    refine g_iload_n dX10_perform_147 rfl ?_
    refine g_iload_n dX10_perform_148 rfl ?_
    refine g_iload dX10_perform_149 rfl ?_
    refine g_cVi (st := []) (av := [vI x1, vI x2, vI x3]) (kX10_setLimit h) kd_0 rfl cw_RX10_361 (by decide) (by decide) (Nat.le_of_ble_eq_true rfl) rfl dX10_perform_151 (fun y13 m12 h => ?_)
    exact g_iret hR dX10_perform_154 h
  by_cases ej109 : σ 8 l1.toNat = 109
  · refine g_tswIn (tgt := 178) (off := 138) dX10_perform_40 109 ej109 (by decide) (by decide) rfl (by decide) ?_
    replace h := hs5 ej109
    refine g_aload_n dX10_perform_178 rfl ?_
    refine g_iload dX10_perform_179 rfl ?_
    refine g_cVi (st := []) (av := [vI x3]) (kX10_makeHeld h) kd_0 rfl cw_RX10_249 (by decide) (by decide) (Nat.le_of_ble_eq_true rfl) rfl dX10_perform_181 (fun y15 m14 h => ?_)
    exact g_iret hR dX10_perform_184 h
  by_cases ej110 : σ 8 l1.toNat = 110
  · refine g_tswIn (tgt := 200) (off := 160) dX10_perform_40 110 ej110 (by decide) (by decide) rfl (by decide) ?_
    replace h := hsd (by omega)
    refine g_iconst dX10_perform_200 (-1) rfl (by decide) ?_
    exact g_iret hR dX10_perform_201 h
  by_cases ej111 : σ 8 l1.toNat = 111
  · refine g_tswIn (tgt := 200) (off := 160) dX10_perform_40 111 ej111 (by decide) (by decide) rfl (by decide) ?_
    replace h := hsd (by omega)
    refine g_iconst dX10_perform_200 (-1) rfl (by decide) ?_
    exact g_iret hR dX10_perform_201 h
  by_cases ej112 : σ 8 l1.toNat = 112
  · refine g_tswIn (tgt := 128) (off := 88) dX10_perform_40 112 ej112 (by decide) (by decide) rfl (by decide) ?_
    replace h := hs6 ej112
    refine g_aload_n dX10_perform_128 rfl ?_
    refine g_iload_n dX10_perform_129 rfl ?_
    refine g_iload_n dX10_perform_130 rfl ?_
    refine g_iload dX10_perform_131 rfl ?_
    refine g_cVi (st := []) (av := [vI x1, vI x2, vI x3]) (kX10_paySplit h) kd_0 rfl cw_RX10_237 (by decide) (by decide) (Nat.le_of_ble_eq_true rfl) rfl dX10_perform_133 (fun y17 m16 h => ?_)
    exact g_iret hR dX10_perform_136 h
  by_cases ej113 : σ 8 l1.toNat = 113
  · refine g_tswIn (tgt := 200) (off := 160) dX10_perform_40 113 ej113 (by decide) (by decide) rfl (by decide) ?_
    replace h := hsd (by omega)
    refine g_iconst dX10_perform_200 (-1) rfl (by decide) ?_
    exact g_iret hR dX10_perform_201 h
  by_cases ej114 : σ 8 l1.toNat = 114
  · refine g_tswIn (tgt := 200) (off := 160) dX10_perform_40 114 ej114 (by decide) (by decide) rfl (by decide) ?_
    replace h := hsd (by omega)
    refine g_iconst dX10_perform_200 (-1) rfl (by decide) ?_
    exact g_iret hR dX10_perform_201 h
  by_cases ej115 : σ 8 l1.toNat = 115
  · refine g_tswIn (tgt := 164) (off := 124) dX10_perform_40 115 ej115 (by decide) (by decide) rfl (by decide) ?_
    replace h := hs7 ej115
    refine g_aload_n dX10_perform_164 rfl ?_
    refine g_cVi (st := []) (av := []) (kX10_settleRings h) kd_0 rfl cw_RX10_310 (by decide) (by decide) (Nat.le_of_ble_eq_true rfl) rfl dX10_perform_165 (fun y19 m18 h => ?_)
    exact g_iret hR dX10_perform_168 h
  by_cases ej116 : σ 8 l1.toNat = 116
  · refine g_tswIn (tgt := 200) (off := 160) dX10_perform_40 116 ej116 (by decide) (by decide) rfl (by decide) ?_
    replace h := hsd (by omega)
    refine g_iconst dX10_perform_200 (-1) rfl (by decide) ?_
    exact g_iret hR dX10_perform_201 h
  by_cases ej117 : σ 8 l1.toNat = 117
  · refine g_tswIn (tgt := 200) (off := 160) dX10_perform_40 117 ej117 (by decide) (by decide) rfl (by decide) ?_
    replace h := hsd (by omega)
    refine g_iconst dX10_perform_200 (-1) rfl (by decide) ?_
    exact g_iret hR dX10_perform_201 h
  by_cases ej118 : σ 8 l1.toNat = 118
  · refine g_tswIn (tgt := 200) (off := 160) dX10_perform_40 118 ej118 (by decide) (by decide) rfl (by decide) ?_
    replace h := hsd (by omega)
    refine g_iconst dX10_perform_200 (-1) rfl (by decide) ?_
    exact g_iret hR dX10_perform_201 h
  by_cases ej119 : σ 8 l1.toNat = 119
  · refine g_tswIn (tgt := 137) (off := 97) dX10_perform_40 119 ej119 (by decide) (by decide) rfl (by decide) ?_
    replace h := hs8 ej119
    refine g_aload_n dX10_perform_137 rfl ?_
    refine g_iload_n dX10_perform_138 rfl ?_
    refine g_iload_n dX10_perform_139 rfl ?_
    refine g_iload dX10_perform_140 rfl ?_
    refine g_cVi (st := []) (av := [vI x1, vI x2, vI x3]) (kX10_payWhole h) kd_0 rfl cw_RX10_243 (by decide) (by decide) (Nat.le_of_ble_eq_true rfl) rfl dX10_perform_142 (fun y21 m20 h => ?_)
    exact g_iret hR dX10_perform_145 h
  refine g_tswOut (tgt := 200) dX10_perform_40 (by omega) (by decide) ?_
  replace h := hsd (by omega)
  refine g_iconst dX10_perform_200 (-1) rfl (by decide) ?_
  exact g_iret hR dX10_perform_201 h
def wX10_day_86 (Q : Int → Mem → Prop) (l2 : Int) (s0 : Int) (σ : Mem) : Prop := (wX1_owedInAll 40 σ (fun y2 m1 => (wX5_tellTwo s0 y2 m1 (fun m3 => Q l2 m3))))
def wX10_day_72 (Q : Int → Mem → Prop) (l1 : Int) (l2 : Int) (σ : Mem) : Prop := ((l1 ≤ l2 → wX10_day_86 Q l2 0 σ) ∧ (¬ l1 ≤ l2 → wX10_day_86 Q l2 1 σ))
def wX10_day_57 (Q : Int → Mem → Prop) (l1 : Int) (l2 : Int) (σ : Mem) : Prop := ((l2 ≤ 0 → wX10_day_72 Q l1 l2 σ) ∧ (¬ l2 ≤ 0 → (wX6_add 56 σ (fun m1 => wX10_day_72 Q l1 l2 m1))))
def wX10_day_38 (K38 : (Int × Int) → Mem → Prop) (Q : Int → Mem → Prop) (l1 : Int) (l2 : Int) (σ : Mem) : Prop := ((l1 ≤ l2 → wX10_day_57 Q l1 l2 σ) ∧ (¬ l1 ≤ l2 → (wX10_perform l2 σ (fun y2 m1 => ((y2 < 0 → wX10_day_57 Q l1 l2 m1) ∧ (¬ y2 < 0 → (∀ x3 : Int, x3 = w32 (l2 + 1) → K38 (l1, x3) m1)))))))
def wLX10_day_38 (Q : Int → Mem → Prop) (l1 : Int) (l2 : Int) (σ : Mem) : Prop := ∃ n, lp (fun (K38 : (Int × Int) → Mem → Prop) (x : Int × Int) (σ : Mem) => wX10_day_38 K38 Q x.1 x.2 σ) n (l1, l2) σ
def wX10_day (σ : Mem) (Q : Int → Mem → Prop) : Prop := (wX0_readDay  σ (fun y2 m1 => (wX9_empty  m1 (fun m3 => ((0 ≤ y2 → (wX1_copyFrom 56 40 m3 (fun m4 => wLX10_day_38 Q y2 0 m4))) ∧ (¬ 0 ≤ y2 → Q y2 m3))))))
set_option maxHeartbeats 1000000 in
theorem bX10_day_86 {E : TE} {Q : Int → Mem → Prop} (hR : RI E (some .int) Q) {l2 : Int} {s0 : Int} {σ : Mem} (h : wX10_day_86 Q l2 s0 σ) : GW E cX10_day 3 RX10 7 166 σ 86 [(0, vR 0), (2, vI l2)] [vL s0, vR 12] := by
  unfold wX10_day_86 at h
  refine g_aload_n dX10_day_86 rfl ?_
  refine g_getR (r := 40) fl_10_12 kd_0 rfl dX10_day_87 ?_
  refine g_cVi (st := [vL s0, vR 12]) (av := []) (kX1_owedInAll bk_40 h) (kd_bk0 bk_40) rfl cw_RX10_170 (by decide) (by decide) (Nat.le_of_ble_eq_true rfl) rfl dX10_day_90 (fun y2 m1 h => ?_)
  refine g_i2l dX10_day_93 ?_
  refine g_cVv (st := []) (av := [vL s0, vL y2]) (kX5_tellTwo h) kd_12 rfl cw_RX10_126 (by decide) (by decide) (Nat.le_of_ble_eq_true rfl) rfl dX10_day_94 (fun m3 h => ?_)
  refine g_iload_n dX10_day_97 rfl ?_
  exact g_iret hR dX10_day_98 h
set_option maxHeartbeats 1000000 in
theorem bX10_day_72 {E : TE} {Q : Int → Mem → Prop} (hR : RI E (some .int) Q) {l1 : Int} {l2 : Int} {σ : Mem} (h : wX10_day_72 Q l1 l2 σ) : GW E cX10_day 3 RX10 7 166 σ 72 [(0, vR 0), (1, vI l1), (2, vI l2)] [] := by
  unfold wX10_day_72 at h
  refine g_aload_n dX10_day_72 rfl ?_
  refine g_getR (r := 12) fl_10_54 kd_0 rfl dX10_day_73 ?_
  refine g_iload_n dX10_day_76 rfl ?_
  refine g_iload_n dX10_day_77 rfl ?_
  obtain ⟨hA, hB⟩ := h
  refine g_icmp_ge (tgt := 85) dX10_day_78 (by decide) (fun hc => ?_) (fun hc => ?_)
  · replace h := hA hc
    refine g_lconst dX10_day_85 0 rfl (by decide) ?_
    refine g_lv (lv' := [(0, vR 0), (2, vI l2)]) [0, 2] rfl ?_
    exact bX10_day_86 hR h
  · replace h := hB hc
    refine g_lconst dX10_day_81 1 rfl (by decide) ?_
    refine g_goto (tgt := 86) dX10_day_82 (by decide) ?_
    refine g_lv (lv' := [(0, vR 0), (2, vI l2)]) [0, 2] rfl ?_
    exact bX10_day_86 hR h
set_option maxHeartbeats 1000000 in
theorem bX10_day_57 {E : TE} {Q : Int → Mem → Prop} (hR : RI E (some .int) Q) {l1 : Int} {l2 : Int} {σ : Mem} (h : wX10_day_57 Q l1 l2 σ) : GW E cX10_day 3 RX10 7 166 σ 57 [(0, vR 0), (1, vI l1), (2, vI l2)] [] := by
  unfold wX10_day_57 at h
  refine g_iload_n dX10_day_57 rfl ?_
  obtain ⟨hA, hB⟩ := h
  refine g_if_le (tgt := 72) dX10_day_58 (by decide) (fun hc => ?_) (fun hc => ?_)
  · replace h := hA hc
    exact bX10_day_72 hR h
  · replace h := hB hc
    refine g_aload_n dX10_day_61 rfl ?_
    refine g_getR (r := 3) fl_10_33 kd_0 rfl dX10_day_62 ?_
    refine g_aload_n dX10_day_65 rfl ?_
    refine g_getR (r := 56) fl_10_16 kd_0 rfl dX10_day_66 ?_
    refine g_cVv (st := []) (av := [vR 56]) (kX6_add bk_56 h) kd_3 rfl cw_RX10_104 (by decide) (by decide) (Nat.le_of_ble_eq_true rfl) rfl dX10_day_69 (fun m1 h => ?_)
    exact bX10_day_72 hR h
set_option maxHeartbeats 1000000 in
theorem bX10_day_38 {E : TE} {K38 : (Int × Int) → Mem → Prop} (hK38 : ∀ (x : Int × Int) (σ : Mem), K38 x σ → GW E cX10_day 3 RX10 7 166 σ 38 [(0, vR 0), (1, vI x.1), (2, vI x.2)] []) {Q : Int → Mem → Prop} (hR : RI E (some .int) Q) {l1 : Int} {l2 : Int} {σ : Mem} (h : wX10_day_38 K38 Q l1 l2 σ) : GW E cX10_day 3 RX10 7 166 σ 38 [(0, vR 0), (1, vI l1), (2, vI l2)] [] := by
  unfold wX10_day_38 at h
  refine g_iload_n dX10_day_38 rfl ?_
  refine g_iload_n dX10_day_39 rfl ?_
  obtain ⟨hA, hB⟩ := h
  refine g_icmp_ge (tgt := 57) dX10_day_40 (by decide) (fun hc => ?_) (fun hc => ?_)
  · replace h := hA hc
    exact bX10_day_57 hR h
  · replace h := hB hc
    refine g_aload_n dX10_day_43 rfl ?_
    refine g_iload_n dX10_day_44 rfl ?_
    refine g_cVi (st := []) (av := [vI l2]) (kX10_perform h) kd_0 rfl cw_RX10_377 (by decide) (by decide) (Nat.le_of_ble_eq_true rfl) rfl dX10_day_45 (fun y2 m1 h => ?_)
    obtain ⟨hA, hB⟩ := h
    refine g_if_lt (tgt := 57) dX10_day_48 (by decide) (fun hc => ?_) (fun hc => ?_)
    · replace h := hA hc
      exact bX10_day_57 hR h
    · replace h := hB hc
      refine g_iinc (lv' := [(2, vI (w32 (l2 + 1))), (0, vR 0), (1, vI l1)]) dX10_day_51 rfl (by decide) rfl ?_
      refine g_loc (a := w32 (l2 + 1)) (i := 2) (lv := [(0, vR 0), (1, vI l1)]) (fun x3 ex3 => ?_)
      replace h := h x3 ex3
      refine g_goto (tgt := 38) dX10_day_54 (by decide) ?_
      refine g_lv (lv' := [(0, vR 0), (1, vI l1), (2, vI x3)]) [1, 2, 0] rfl ?_
      exact hK38 ((l1, x3)) m1 h
theorem eX10_day_38 {E : TE} {Q : Int → Mem → Prop} (hR : RI E (some .int) Q) {l1 : Int} {l2 : Int} {σ : Mem} (h : wLX10_day_38 Q l1 l2 σ) : GW E cX10_day 3 RX10 7 166 σ 38 [(0, vR 0), (1, vI l1), (2, vI l2)] [] := by
  obtain ⟨n, h⟩ := h
  exact lp_GW (P := fun (x : Int × Int) (σ : Mem) => GW E cX10_day 3 RX10 7 166 σ 38 [(0, vR 0), (1, vI x.1), (2, vI x.2)] []) (fun K hK x σ h  => bX10_day_38 hK hR h) n _ σ h 
set_option maxHeartbeats 1000000 in
theorem kX10_day {σ : Mem} {Q : Int → Mem → Prop} (h : wX10_day σ Q) (l : Launch) (D : va_G) (cy : Nat → ClassId) (ad : Nat → Nat) : MI l yX10_day cX10_day 3 (some .int) 7 166 D cy ad [vR 0] σ Q := by
  refine m_I (own := RX10) (lv := [(0, vR 0)]) (by decide +kernel) rfl (Nat.le_of_ble_eq_true rfl) rfl (fun E hR => ?_) l D cy ad
  unfold wX10_day at h
  refine g_aload_n dX10_day_0 rfl ?_
  refine g_getR (r := 7) fl_10_47 kd_0 rfl dX10_day_1 ?_
  refine g_aload_n dX10_day_4 rfl ?_
  refine g_getR (r := 5) fl_10_40 kd_0 rfl dX10_day_5 ?_
  refine g_cVi (st := []) (av := [vR 5]) (kX0_readDay h) kd_7 rfl cw_RX10_373 (by decide) (by decide) (Nat.le_of_ble_eq_true rfl) rfl dX10_day_8 (fun y2 m1 h => ?_)
  refine g_istore_n (lv' := [(1, vI y2), (0, vR 0)]) dX10_day_11 (by decide) rfl ?_
  refine g_aload_n dX10_day_12 rfl ?_
  refine g_getR (r := 5) fl_10_40 kd_0 rfl dX10_day_13 ?_
  refine g_cVv (st := []) (av := []) (kX9_empty h) kd_5 rfl cw_RX10_101 (by decide) (by decide) (Nat.le_of_ble_eq_true rfl) rfl dX10_day_16 (fun m3 h => ?_)
  refine g_iload_n dX10_day_19 rfl ?_
  obtain ⟨hA, hB⟩ := h
  refine g_if_ge (tgt := 25) dX10_day_20 (by decide) (fun hc => ?_) (fun hc => ?_)
  · replace h := hA hc
    refine g_aload_n dX10_day_25 rfl ?_
    refine g_getR (r := 56) fl_10_16 kd_0 rfl dX10_day_26 ?_
    refine g_aload_n dX10_day_29 rfl ?_
    refine g_getR (r := 40) fl_10_12 kd_0 rfl dX10_day_30 ?_
    refine g_cVv (st := []) (av := [vR 40]) (kX1_copyFrom bk_56 bk_40 h) (kd_bk0 bk_56) rfl cw_RX10_108 (by decide) (by decide) (Nat.le_of_ble_eq_true rfl) rfl dX10_day_33 (fun m4 h => ?_)
    refine g_iconst dX10_day_36 0 rfl (by decide) ?_
    refine g_istore_n (lv' := [(2, vI 0), (1, vI y2), (0, vR 0)]) dX10_day_37 (by decide) rfl ?_
    refine g_lv (lv' := [(0, vR 0), (1, vI y2), (2, vI 0)]) [2, 1, 0] rfl ?_
    exact eX10_day_38 hR h
  · replace h := hB hc
    refine g_iload_n dX10_day_23 rfl ?_
    exact g_iret hR dX10_day_24 h
def wX10_undo (σ : Mem) (Q : Int → Mem → Prop) : Prop := ((¬ σ 3 1 = 0 → (wX6_takeInto 40 σ (fun m1 => Q (m1 3 1) m1))) ∧ (σ 3 1 = 0 → Q ((-1)) σ))
set_option maxHeartbeats 1000000 in
theorem kX10_undo {σ : Mem} {Q : Int → Mem → Prop} (h : wX10_undo σ Q) (l : Launch) (D : va_G) (cy : Nat → ClassId) (ad : Nat → Nat) : MI l yX10_undo cX10_undo 1 (some .int) 4 128 D cy ad [vR 0] σ Q := by
  refine m_I (own := RX10) (lv := [(0, vR 0)]) (by decide +kernel) rfl (Nat.le_of_ble_eq_true rfl) rfl (fun E hR => ?_) l D cy ad
  unfold wX10_undo at h
  refine g_aload_n dX10_undo_0 rfl ?_
  refine g_getR (r := 3) fl_10_33 kd_0 rfl dX10_undo_1 ?_
  refine g_getI fl_10_380 kd_3 rfl dX10_undo_4 ?_
  obtain ⟨hA, hB⟩ := h
  refine g_if_ne (tgt := 12) dX10_undo_7 (by decide) (fun hc => ?_) (fun hc => ?_)
  · replace h := hA hc
    refine g_aload_n dX10_undo_12 rfl ?_
    refine g_getR (r := 3) fl_10_33 kd_0 rfl dX10_undo_13 ?_
    refine g_aload_n dX10_undo_16 rfl ?_
    refine g_getR (r := 40) fl_10_12 kd_0 rfl dX10_undo_17 ?_
    refine g_cVv (st := []) (av := [vR 40]) (kX6_takeInto bk_40 h) kd_3 rfl cw_RX10_381 (by decide) (by decide) (Nat.le_of_ble_eq_true rfl) rfl dX10_undo_20 (fun m1 h => ?_)
    refine g_aload_n dX10_undo_23 rfl ?_
    refine g_getR (r := 3) fl_10_33 kd_0 rfl dX10_undo_24 ?_
    refine g_getI fl_10_380 kd_3 rfl dX10_undo_27 ?_
    exact g_iret hR dX10_undo_30 h
  · replace h := hB hc
    refine g_iconst dX10_undo_10 (-1) rfl (by decide) ?_
    exact g_iret hR dX10_undo_11 h
def wX10_nextDraw (l0 : Int) (σ : Mem) (Q : Int → Mem → Prop) : Prop := Q (w32 ((w32 (l0 * 1103515245)) + 12345)) σ
set_option maxHeartbeats 1000000 in
theorem kX10_nextDraw {l0 : Int} {σ : Mem} {Q : Int → Mem → Prop} (h : wX10_nextDraw l0 σ Q) (l : Launch) (D : va_G) (cy : Nat → ClassId) (ad : Nat → Nat) : MI l yX10_nextDraw cX10_nextDraw 1 (some .int) 0 0 D cy ad [vI l0] σ Q := by
  refine m_I (own := RX10) (lv := [(0, vI l0)]) (by decide +kernel) rfl (Nat.le_of_ble_eq_true rfl) rfl (fun E hR => ?_) l D cy ad
  unfold wX10_nextDraw at h
  refine g_iload_n dX10_nextDraw_0 rfl ?_
  refine g_ldc_w dX10_nextDraw_1 1103515245 q_965 (by decide) ?_
  refine g_imul dX10_nextDraw_4 ?_
  refine g_sipush dX10_nextDraw_5 12345 rfl (by decide) ?_
  refine g_iadd dX10_nextDraw_8 ?_
  exact g_iret hR dX10_nextDraw_9 h
def wX10_drawOf (l0 : Int) (l1 : Int) (σ : Mem) (Q : Int → Mem → Prop) : Prop := ((1 ≤ l1 → (l1 ≠ 0 ∧ Q (brem (bushr l0 16) l1) σ)) ∧ (¬ 1 ≤ l1 → Q 0 σ))
set_option maxHeartbeats 1000000 in
theorem kX10_drawOf {l0 : Int} {l1 : Int} {σ : Mem} {Q : Int → Mem → Prop} (h : wX10_drawOf l0 l1 σ Q) (l : Launch) (D : va_G) (cy : Nat → ClassId) (ad : Nat → Nat) : MI l yX10_drawOf cX10_drawOf 2 (some .int) 0 0 D cy ad [vI l0, vI l1] σ Q := by
  refine m_I (own := RX10) (lv := [(0, vI l0), (1, vI l1)]) (by decide +kernel) rfl (Nat.le_of_ble_eq_true rfl) rfl (fun E hR => ?_) l D cy ad
  unfold wX10_drawOf at h
  refine g_iload_n dX10_drawOf_0 rfl ?_
  refine g_iconst dX10_drawOf_1 1 rfl (by decide) ?_
  obtain ⟨hA, hB⟩ := h
  refine g_icmp_ge (tgt := 9) dX10_drawOf_2 (by decide) (fun hc => ?_) (fun hc => ?_)
  · replace h := hA hc
    refine g_iload_n dX10_drawOf_9 rfl ?_
    refine g_bipush dX10_drawOf_10 16 rfl (by decide) ?_
    refine g_iushr dX10_drawOf_12 ?_
    refine g_iload_n dX10_drawOf_13 rfl ?_
    obtain ⟨hne, h⟩ := h
    refine g_irem dX10_drawOf_14 hne ?_
    exact g_iret hR dX10_drawOf_15 h
  · replace h := hB hc
    refine g_iconst dX10_drawOf_5 0 rfl (by decide) ?_
    refine g_goto (tgt := 15) dX10_drawOf_6 (by decide) ?_
    exact g_iret hR dX10_drawOf_15 h
def wX10_years_43 (K43 : (Int × Int × Int × Int) → Mem → Prop) (Q : Int → Mem → Prop) (l2 : Int) (l3 : Int) (l4 : Int) (l5 : Int) (σ : Mem) : Prop := ((l2 ≤ l5 → (wX4_bookIn 72 σ (fun m1 => (wX1_owedInAll 72 m1 (fun y3 m2 => (wX7_settleAll 72 m2 (fun y5 m4 => (wX5_tellTwo y3 y5 m4 (fun m6 => Q l3 m6))))))))) ∧ (¬ l2 ≤ l5 → (wX10_nextDraw l4 σ (fun y8 m7 => (wX10_drawOf y8 (m7 72 0) m7 (fun y10 m9 => (wX10_nextDraw y8 m9 (fun y12 m11 => (wX10_drawOf y12 (m11 72 0) m11 (fun y14 m13 => (wX10_nextDraw y12 m13 (fun y16 m15 => (wX10_drawOf y16 60 m15 (fun y18 m17 => (∀ x19 : Int, x19 = w32 (1 + y18) → ((y10 = y14 → (∀ x20 : Int, x20 = w32 (l5 + 1) → K43 (l2, l3, y16, x20) m17)) ∧ (¬ y10 = y14 → (wX4_payAll y10 y14 x19 m17 (fun y22 m21 => ((y22 = 0 → (∀ x23 : Int, x23 = w32 (l5 + 1) → K43 (l2, l3, y16, x23) m21)) ∧ (¬ y22 = 0 → (∀ x24 : Int, x24 = w32 (l3 + 1) → (∀ x25 : Int, x25 = w32 (l5 + 1) → K43 (l2, x24, y16, x25) m21)))))))))))))))))))))))
def wLX10_years_43 (Q : Int → Mem → Prop) (l2 : Int) (l3 : Int) (l4 : Int) (l5 : Int) (σ : Mem) : Prop := ∃ n, lp (fun (K43 : (Int × Int × Int × Int) → Mem → Prop) (x : Int × Int × Int × Int) (σ : Mem) => wX10_years_43 K43 Q x.1 x.2.1 x.2.2.1 x.2.2.2 σ) n (l2, l3, l4, l5) σ
def wX10_years (l1 : Int) (l2 : Int) (σ : Mem) (Q : Int → Mem → Prop) : Prop := ((l2 < 1 → Q ((-1)) σ) ∧ (¬ l2 < 1 → ((l2 ≤ 30 → (wX1_copyFrom 72 40 σ (fun m1 => (wX4_load 72 m1 (fun m2 => wLX10_years_43 Q l2 0 l1 0 m2))))) ∧ (¬ l2 ≤ 30 → Q ((-1)) σ))))
set_option maxHeartbeats 1000000 in
theorem bX10_years_43 {E : TE} {K43 : (Int × Int × Int × Int) → Mem → Prop} (hK43 : ∀ (x : Int × Int × Int × Int) (σ : Mem), K43 x σ → GW E cX10_years 9 RX10 5 122 σ 43 [(0, vR 0), (2, vI x.1), (3, vI x.2.1), (4, vI x.2.2.1), (5, vI x.2.2.2)] []) {Q : Int → Mem → Prop} (hR : RI E (some .int) Q) {l2 : Int} {l3 : Int} {l4 : Int} {l5 : Int} {σ : Mem} (h : wX10_years_43 K43 Q l2 l3 l4 l5 σ) : GW E cX10_years 9 RX10 5 122 σ 43 [(0, vR 0), (2, vI l2), (3, vI l3), (4, vI l4), (5, vI l5)] [] := by
  unfold wX10_years_43 at h
  refine g_iload dX10_years_43 rfl ?_
  refine g_iload_n dX10_years_45 rfl ?_
  obtain ⟨hA, hB⟩ := h
  refine g_icmp_ge (tgt := 141) dX10_years_46 (by decide) (fun hc => ?_) (fun hc => ?_)
  · replace h := hA hc
    refine g_aload_n dX10_years_141 rfl ?_
    refine g_getR (r := 14) fl_10_61 kd_0 rfl dX10_years_142 ?_
    refine g_aload_n dX10_years_145 rfl ?_
    refine g_getR (r := 72) fl_10_19 kd_0 rfl dX10_years_146 ?_
    refine g_cVv (st := []) (av := [vR 72]) (kX4_bookIn bk_72 h) kd_14 rfl cw_RX10_297 (by decide) (by decide) (Nat.le_of_ble_eq_true rfl) rfl dX10_years_149 (fun m1 h => ?_)
    refine g_aload_n dX10_years_152 rfl ?_
    refine g_getR (r := 72) fl_10_19 kd_0 rfl dX10_years_153 ?_
    refine g_cVi (st := []) (av := []) (kX1_owedInAll bk_72 h) (kd_bk0 bk_72) rfl cw_RX10_170 (by decide) (by decide) (Nat.le_of_ble_eq_true rfl) rfl dX10_years_156 (fun y3 m2 h => ?_)
    refine g_istore (lv' := [(5, vI y3), (0, vR 0), (2, vI l2), (3, vI l3), (4, vI l4)]) dX10_years_159 (by decide) rfl ?_
    refine g_aload_n dX10_years_161 rfl ?_
    refine g_getR (r := 12) fl_10_54 kd_0 rfl dX10_years_162 ?_
    refine g_iload dX10_years_165 rfl ?_
    refine g_i2l dX10_years_167 ?_
    refine g_aload_n dX10_years_168 rfl ?_
    refine g_getR (r := 32) fl_10_75 kd_0 rfl dX10_years_169 ?_
    refine g_aload_n dX10_years_172 rfl ?_
    refine g_getR (r := 72) fl_10_19 kd_0 rfl dX10_years_173 ?_
    refine g_cVi (st := [vL y3, vR 12]) (av := [vR 72]) (kX7_settleAll bk_72 h) kd_32 rfl cw_RX10_234 (by decide) (by decide) (Nat.le_of_ble_eq_true rfl) rfl dX10_years_176 (fun y5 m4 h => ?_)
    refine g_i2l dX10_years_179 ?_
    refine g_cVv (st := []) (av := [vL y3, vL y5]) (kX5_tellTwo h) kd_12 rfl cw_RX10_126 (by decide) (by decide) (Nat.le_of_ble_eq_true rfl) rfl dX10_years_180 (fun m6 h => ?_)
    refine g_iload_n dX10_years_183 rfl ?_
    exact g_iret hR dX10_years_184 h
  · replace h := hB hc
    refine g_iload dX10_years_49 rfl ?_
    refine g_cSi (st := []) (av := [vI l4]) (kX10_nextDraw h) cw_RX10_384 (by decide) (by decide) (Nat.le_of_ble_eq_true rfl) rfl dX10_years_51 (fun y8 m7 h => ?_)
    refine g_istore (lv' := [(4, vI y8), (0, vR 0), (2, vI l2), (3, vI l3), (5, vI l5)]) dX10_years_54 (by decide) rfl ?_
    refine g_iload dX10_years_56 rfl ?_
    refine g_aload_n dX10_years_58 rfl ?_
    refine g_getR (r := 72) fl_10_19 kd_0 rfl dX10_years_59 ?_
    refine g_getI fl_10_164 (kd_bk0 bk_72) rfl dX10_years_62 ?_
    refine g_cSi (st := []) (av := [vI y8, vI (m7 72 0)]) (kX10_drawOf h) cw_RX10_387 (by decide) (by decide) (Nat.le_of_ble_eq_true rfl) rfl dX10_years_65 (fun y10 m9 h => ?_)
    refine g_istore (lv' := [(6, vI y10), (4, vI y8), (0, vR 0), (2, vI l2), (3, vI l3), (5, vI l5)]) dX10_years_68 (by decide) rfl ?_
    refine g_iload dX10_years_70 rfl ?_
    refine g_cSi (st := []) (av := [vI y8]) (kX10_nextDraw h) cw_RX10_384 (by decide) (by decide) (Nat.le_of_ble_eq_true rfl) rfl dX10_years_72 (fun y12 m11 h => ?_)
    refine g_istore (lv' := [(4, vI y12), (6, vI y10), (0, vR 0), (2, vI l2), (3, vI l3), (5, vI l5)]) dX10_years_75 (by decide) rfl ?_
    refine g_iload dX10_years_77 rfl ?_
    refine g_aload_n dX10_years_79 rfl ?_
    refine g_getR (r := 72) fl_10_19 kd_0 rfl dX10_years_80 ?_
    refine g_getI fl_10_164 (kd_bk0 bk_72) rfl dX10_years_83 ?_
    refine g_cSi (st := []) (av := [vI y12, vI (m11 72 0)]) (kX10_drawOf h) cw_RX10_387 (by decide) (by decide) (Nat.le_of_ble_eq_true rfl) rfl dX10_years_86 (fun y14 m13 h => ?_)
    refine g_istore (lv' := [(7, vI y14), (4, vI y12), (6, vI y10), (0, vR 0), (2, vI l2), (3, vI l3), (5, vI l5)]) dX10_years_89 (by decide) rfl ?_
    refine g_iload dX10_years_91 rfl ?_
    refine g_cSi (st := []) (av := [vI y12]) (kX10_nextDraw h) cw_RX10_384 (by decide) (by decide) (Nat.le_of_ble_eq_true rfl) rfl dX10_years_93 (fun y16 m15 h => ?_)
    refine g_istore (lv' := [(4, vI y16), (7, vI y14), (6, vI y10), (0, vR 0), (2, vI l2), (3, vI l3), (5, vI l5)]) dX10_years_96 (by decide) rfl ?_
    refine g_iconst dX10_years_98 1 rfl (by decide) ?_
    refine g_iload dX10_years_99 rfl ?_
    refine g_bipush dX10_years_101 60 rfl (by decide) ?_
    refine g_cSi (st := [vI 1]) (av := [vI y16, vI 60]) (kX10_drawOf h) cw_RX10_387 (by decide) (by decide) (Nat.le_of_ble_eq_true rfl) rfl dX10_years_103 (fun y18 m17 h => ?_)
    refine g_iadd dX10_years_106 ?_
    refine g_topI (fun x19 ex19 => ?_)
    replace h := h x19 ex19
    refine g_istore (lv' := [(8, vI x19), (4, vI y16), (7, vI y14), (6, vI y10), (0, vR 0), (2, vI l2), (3, vI l3), (5, vI l5)]) dX10_years_107 (by decide) rfl ?_
    refine g_iload dX10_years_109 rfl ?_
    refine g_iload dX10_years_111 rfl ?_
    obtain ⟨hA, hB⟩ := h
    refine g_icmp_eq (tgt := 135) dX10_years_113 (by decide) (fun hc => ?_) (fun hc => ?_)
    · replace h := hA hc
      refine g_iinc (lv' := [(5, vI (w32 (l5 + 1))), (8, vI x19), (4, vI y16), (7, vI y14), (6, vI y10), (0, vR 0), (2, vI l2), (3, vI l3)]) dX10_years_135 rfl (by decide) rfl ?_
      refine g_loc (a := w32 (l5 + 1)) (i := 5) (lv := [(8, vI x19), (4, vI y16), (7, vI y14), (6, vI y10), (0, vR 0), (2, vI l2), (3, vI l3)]) (fun x20 ex20 => ?_)
      replace h := h x20 ex20
      refine g_goto (tgt := 43) dX10_years_138 (by decide) ?_
      refine g_lv (lv' := [(0, vR 0), (2, vI l2), (3, vI l3), (4, vI y16), (5, vI x20)]) [5, 6, 7, 2, 0] rfl ?_
      exact hK43 ((l2, l3, y16, x20)) m17 h
    · replace h := hB hc
      refine g_aload_n dX10_years_116 rfl ?_
      refine g_getR (r := 14) fl_10_61 kd_0 rfl dX10_years_117 ?_
      refine g_iload dX10_years_120 rfl ?_
      refine g_iload dX10_years_122 rfl ?_
      refine g_iload dX10_years_124 rfl ?_
      refine g_cVi (st := []) (av := [vI y10, vI y14, vI x19]) (kX4_payAll h) kd_14 rfl cw_RX10_390 (by decide) (by decide) (Nat.le_of_ble_eq_true rfl) rfl dX10_years_126 (fun y22 m21 h => ?_)
      obtain ⟨hA, hB⟩ := h
      refine g_if_eq (tgt := 135) dX10_years_129 (by decide) (fun hc => ?_) (fun hc => ?_)
      · replace h := hA hc
        refine g_iinc (lv' := [(5, vI (w32 (l5 + 1))), (8, vI x19), (4, vI y16), (7, vI y14), (6, vI y10), (0, vR 0), (2, vI l2), (3, vI l3)]) dX10_years_135 rfl (by decide) rfl ?_
        refine g_loc (a := w32 (l5 + 1)) (i := 5) (lv := [(8, vI x19), (4, vI y16), (7, vI y14), (6, vI y10), (0, vR 0), (2, vI l2), (3, vI l3)]) (fun x23 ex23 => ?_)
        replace h := h x23 ex23
        refine g_goto (tgt := 43) dX10_years_138 (by decide) ?_
        refine g_lv (lv' := [(0, vR 0), (2, vI l2), (3, vI l3), (4, vI y16), (5, vI x23)]) [5, 6, 7, 2, 0] rfl ?_
        exact hK43 ((l2, l3, y16, x23)) m21 h
      · replace h := hB hc
        refine g_iinc (lv' := [(3, vI (w32 (l3 + 1))), (8, vI x19), (4, vI y16), (7, vI y14), (6, vI y10), (0, vR 0), (2, vI l2), (5, vI l5)]) dX10_years_132 rfl (by decide) rfl ?_
        refine g_loc (a := w32 (l3 + 1)) (i := 3) (lv := [(8, vI x19), (4, vI y16), (7, vI y14), (6, vI y10), (0, vR 0), (2, vI l2), (5, vI l5)]) (fun x24 ex24 => ?_)
        replace h := h x24 ex24
        refine g_iinc (lv' := [(5, vI (w32 (l5 + 1))), (3, vI x24), (8, vI x19), (4, vI y16), (7, vI y14), (6, vI y10), (0, vR 0), (2, vI l2)]) dX10_years_135 rfl (by decide) rfl ?_
        refine g_loc (a := w32 (l5 + 1)) (i := 5) (lv := [(3, vI x24), (8, vI x19), (4, vI y16), (7, vI y14), (6, vI y10), (0, vR 0), (2, vI l2)]) (fun x25 ex25 => ?_)
        replace h := h x25 ex25
        refine g_goto (tgt := 43) dX10_years_138 (by decide) ?_
        refine g_lv (lv' := [(0, vR 0), (2, vI l2), (3, vI x24), (4, vI y16), (5, vI x25)]) [6, 7, 1, 3, 0] rfl ?_
        exact hK43 ((l2, x24, y16, x25)) m21 h
theorem eX10_years_43 {E : TE} {Q : Int → Mem → Prop} (hR : RI E (some .int) Q) {l2 : Int} {l3 : Int} {l4 : Int} {l5 : Int} {σ : Mem} (h : wLX10_years_43 Q l2 l3 l4 l5 σ) : GW E cX10_years 9 RX10 5 122 σ 43 [(0, vR 0), (2, vI l2), (3, vI l3), (4, vI l4), (5, vI l5)] [] := by
  obtain ⟨n, h⟩ := h
  exact lp_GW (P := fun (x : Int × Int × Int × Int) (σ : Mem) => GW E cX10_years 9 RX10 5 122 σ 43 [(0, vR 0), (2, vI x.1), (3, vI x.2.1), (4, vI x.2.2.1), (5, vI x.2.2.2)] []) (fun K hK x σ h  => bX10_years_43 hK hR h) n _ σ h 
set_option maxHeartbeats 1000000 in
theorem kX10_years {l1 : Int} {l2 : Int} {σ : Mem} {Q : Int → Mem → Prop} (h : wX10_years l1 l2 σ Q) (l : Launch) (D : va_G) (cy : Nat → ClassId) (ad : Nat → Nat) : MI l yX10_years cX10_years 9 (some .int) 5 122 D cy ad [vR 0, vI l1, vI l2] σ Q := by
  refine m_I (own := RX10) (lv := [(0, vR 0), (1, vI l1), (2, vI l2)]) (by decide +kernel) rfl (Nat.le_of_ble_eq_true rfl) rfl (fun E hR => ?_) l D cy ad
  unfold wX10_years at h
  refine g_iload_n dX10_years_0 rfl ?_
  refine g_iconst dX10_years_1 1 rfl (by decide) ?_
  obtain ⟨hA, hB⟩ := h
  refine g_icmp_lt (tgt := 11) dX10_years_2 (by decide) (fun hc => ?_) (fun hc => ?_)
  · replace h := hA hc
    refine g_iconst dX10_years_11 (-1) rfl (by decide) ?_
    exact g_iret hR dX10_years_12 h
  · replace h := hB hc
    refine g_iload_n dX10_years_5 rfl ?_
    refine g_bipush dX10_years_6 30 rfl (by decide) ?_
    obtain ⟨hA, hB⟩ := h
    refine g_icmp_le (tgt := 13) dX10_years_8 (by decide) (fun hc => ?_) (fun hc => ?_)
    · replace h := hA hc
      refine g_aload_n dX10_years_13 rfl ?_
      refine g_getR (r := 72) fl_10_19 kd_0 rfl dX10_years_14 ?_
      refine g_aload_n dX10_years_17 rfl ?_
      refine g_getR (r := 40) fl_10_12 kd_0 rfl dX10_years_18 ?_
      refine g_cVv (st := []) (av := [vR 40]) (kX1_copyFrom bk_72 bk_40 h) (kd_bk0 bk_72) rfl cw_RX10_108 (by decide) (by decide) (Nat.le_of_ble_eq_true rfl) rfl dX10_years_21 (fun m1 h => ?_)
      refine g_aload_n dX10_years_24 rfl ?_
      refine g_getR (r := 14) fl_10_61 kd_0 rfl dX10_years_25 ?_
      refine g_aload_n dX10_years_28 rfl ?_
      refine g_getR (r := 72) fl_10_19 kd_0 rfl dX10_years_29 ?_
      refine g_cVv (st := []) (av := [vR 72]) (kX4_load bk_72 h) kd_14 rfl cw_RX10_178 (by decide) (by decide) (Nat.le_of_ble_eq_true rfl) rfl dX10_years_32 (fun m2 h => ?_)
      refine g_iconst dX10_years_35 0 rfl (by decide) ?_
      refine g_istore_n (lv' := [(3, vI 0), (0, vR 0), (1, vI l1), (2, vI l2)]) dX10_years_36 (by decide) rfl ?_
      refine g_iload_n dX10_years_37 rfl ?_
      refine g_istore (lv' := [(4, vI l1), (3, vI 0), (0, vR 0), (1, vI l1), (2, vI l2)]) dX10_years_38 (by decide) rfl ?_
      refine g_iconst dX10_years_40 0 rfl (by decide) ?_
      refine g_istore (lv' := [(5, vI 0), (4, vI l1), (3, vI 0), (0, vR 0), (1, vI l1), (2, vI l2)]) dX10_years_41 (by decide) rfl ?_
      refine g_lv (lv' := [(0, vR 0), (2, vI l2), (3, vI 0), (4, vI l1), (5, vI 0)]) [3, 5, 2, 1, 0] rfl ?_
      exact eX10_years_43 hR h
    · replace h := hB hc
      refine g_iconst dX10_years_11 (-1) rfl (by decide) ?_
      exact g_iret hR dX10_years_12 h
def wX10_keep (l1 : Int) (σ : Mem) (Q : Int → Mem → Prop) : Prop := ((l1 < 0 → Q 0 σ) ∧ (¬ l1 < 0 → ((l1 < 2 → ((0 ≤ l1 ∧ l1 < 2) ∧ (wX1_copyFrom (88 + 16 * l1.toNat) 40 σ (fun m2 => ((0 ≤ l1 ∧ l1 < 2) ∧ (∀ m3 : Mem, m3 = up2 m2 2 l1.toNat (z1 1) → Q 1 m3)))))) ∧ (¬ l1 < 2 → Q 0 σ))))
set_option maxHeartbeats 1000000 in
theorem kX10_keep {l1 : Int} {σ : Mem} {Q : Int → Mem → Prop} (h : wX10_keep l1 σ Q) (l : Launch) (D : va_G) (cy : Nat → ClassId) (ad : Nat → Nat) : MI l yX10_keep cX10_keep 2 (some .boolean) 3 107 D cy ad [vR 0, vI l1] σ Q := by
  refine m_I (own := RX10) (lv := [(0, vR 0), (1, vI l1)]) (by decide +kernel) rfl (Nat.le_of_ble_eq_true rfl) rfl (fun E hR => ?_) l D cy ad
  unfold wX10_keep at h
  refine g_iload_n dX10_keep_0 rfl ?_
  obtain ⟨hA, hB⟩ := h
  refine g_if_lt (tgt := 9) dX10_keep_1 (by decide) (fun hc => ?_) (fun hc => ?_)
  · replace h := hA hc
    refine g_iconst dX10_keep_9 0 rfl (by decide) ?_
    exact g_zret hR dX10_keep_10 (by decide) h
  · replace h := hB hc
    refine g_iload_n dX10_keep_4 rfl ?_
    refine g_iconst dX10_keep_5 2 rfl (by decide) ?_
    obtain ⟨hA, hB⟩ := h
    refine g_icmp_lt (tgt := 11) dX10_keep_6 (by decide) (fun hc => ?_) (fun hc => ?_)
    · replace h := hA hc
      refine g_aload_n dX10_keep_11 rfl ?_
      refine g_getR (r := 1) fl_10_22 kd_0 rfl dX10_keep_12 ?_
      refine g_iload_n dX10_keep_15 rfl ?_
      obtain ⟨hin, h⟩ := h
      have hi1 := hin
      refine g_aald kd_1 (Or.inl rfl) hin (kept_r hi1) dX10_keep_16 ?_
      refine g_aload_n dX10_keep_17 rfl ?_
      refine g_getR (r := 40) fl_10_12 kd_0 rfl dX10_keep_18 ?_
      refine g_cVv (st := []) (av := [vR 40]) (kX1_copyFrom (kept_bk hi1) bk_40 h) (kd_bk0 (kept_bk hi1)) rfl cw_RX10_108 (by decide) (by decide) (Nat.le_of_ble_eq_true rfl) rfl dX10_keep_21 (fun m2 h => ?_)
      refine g_aload_n dX10_keep_24 rfl ?_
      refine g_getR (r := 2) fl_10_26 kd_0 rfl dX10_keep_25 ?_
      refine g_iload_n dX10_keep_28 rfl ?_
      refine g_iconst dX10_keep_29 1 rfl (by decide) ?_
      obtain ⟨hin, h⟩ := h
      refine g_zast kd_2 hin dX10_keep_30 ?_
      refine g_nm (fun m3 em3 => ?_)
      replace h := h m3 em3
      refine g_iconst dX10_keep_31 1 rfl (by decide) ?_
      exact g_zret hR dX10_keep_32 (by decide) h
    · replace h := hB hc
      refine g_iconst dX10_keep_9 0 rfl (by decide) ?_
      exact g_zret hR dX10_keep_10 (by decide) h
def wX10_again (l1 : Int) (σ : Mem) (Q : Int → Mem → Prop) : Prop := ((l1 < 0 → Q 0 σ) ∧ (¬ l1 < 0 → ((2 ≤ l1 → Q 0 σ) ∧ (¬ 2 ≤ l1 → ((0 ≤ l1 ∧ l1 < 2) ∧ ((¬ σ 2 l1.toNat = 0 → ((0 ≤ l1 ∧ l1 < 2) ∧ (wX1_copyFrom 40 (88 + 16 * l1.toNat) σ (fun m2 => (wX6_forget  m2 (fun m3 => Q 1 m3)))))) ∧ (σ 2 l1.toNat = 0 → Q 0 σ)))))))
set_option maxHeartbeats 1000000 in
theorem kX10_again {l1 : Int} {σ : Mem} {Q : Int → Mem → Prop} (h : wX10_again l1 σ Q) (l : Launch) (D : va_G) (cy : Nat → ClassId) (ad : Nat → Nat) : MI l yX10_again cX10_again 2 (some .boolean) 3 107 D cy ad [vR 0, vI l1] σ Q := by
  refine m_I (own := RX10) (lv := [(0, vR 0), (1, vI l1)]) (by decide +kernel) rfl (Nat.le_of_ble_eq_true rfl) rfl (fun E hR => ?_) l D cy ad
  unfold wX10_again at h
  refine g_iload_n dX10_again_0 rfl ?_
  obtain ⟨hA, hB⟩ := h
  refine g_if_lt (tgt := 18) dX10_again_1 (by decide) (fun hc => ?_) (fun hc => ?_)
  · replace h := hA hc
    refine g_iconst dX10_again_18 0 rfl (by decide) ?_
    exact g_zret hR dX10_again_19 (by decide) h
  · replace h := hB hc
    refine g_iload_n dX10_again_4 rfl ?_
    refine g_iconst dX10_again_5 2 rfl (by decide) ?_
    obtain ⟨hA, hB⟩ := h
    refine g_icmp_ge (tgt := 18) dX10_again_6 (by decide) (fun hc => ?_) (fun hc => ?_)
    · replace h := hA hc
      refine g_iconst dX10_again_18 0 rfl (by decide) ?_
      exact g_zret hR dX10_again_19 (by decide) h
    · replace h := hB hc
      refine g_aload_n dX10_again_9 rfl ?_
      refine g_getR (r := 2) fl_10_26 kd_0 rfl dX10_again_10 ?_
      refine g_iload_n dX10_again_13 rfl ?_
      obtain ⟨hin, h⟩ := h
      refine g_zald kd_2 hin dX10_again_14 ?_
      obtain ⟨hA, hB⟩ := h
      refine g_if_ne (tgt := 20) dX10_again_15 (by decide) (fun hc => ?_) (fun hc => ?_)
      · replace h := hA hc
        refine g_aload_n dX10_again_20 rfl ?_
        refine g_getR (r := 40) fl_10_12 kd_0 rfl dX10_again_21 ?_
        refine g_aload_n dX10_again_24 rfl ?_
        refine g_getR (r := 1) fl_10_22 kd_0 rfl dX10_again_25 ?_
        refine g_iload_n dX10_again_28 rfl ?_
        obtain ⟨hin, h⟩ := h
        have hi1 := hin
        refine g_aald kd_1 (Or.inl rfl) hin (kept_r hi1) dX10_again_29 ?_
        refine g_cVv (st := []) (av := [vR (88 + 16 * l1.toNat)]) (kX1_copyFrom bk_40 (kept_bk hi1) h) (kd_bk0 bk_40) rfl cw_RX10_108 (by decide) (by decide) (Nat.le_of_ble_eq_true rfl) rfl dX10_again_30 (fun m2 h => ?_)
        refine g_aload_n dX10_again_33 rfl ?_
        refine g_getR (r := 3) fl_10_33 kd_0 rfl dX10_again_34 ?_
        refine g_cVv (st := []) (av := []) (kX6_forget h) kd_3 rfl cw_RX10_394 (by decide) (by decide) (Nat.le_of_ble_eq_true rfl) rfl dX10_again_37 (fun m3 h => ?_)
        refine g_iconst dX10_again_40 1 rfl (by decide) ?_
        exact g_zret hR dX10_again_41 (by decide) h
      · replace h := hB hc
        refine g_iconst dX10_again_18 0 rfl (by decide) ?_
        exact g_zret hR dX10_again_19 (by decide) h
def wX10_count (l1 : Int) (σ : Mem) (Q : Int → Mem → Prop) : Prop := ((l1 = 0 → Q (σ 40 0) σ) ∧ (l1 = 1 → (wX1_openLines 40 σ (fun y2 m1 => Q y2 m1))) ∧ (l1 = 2 → (wX1_limitsInAll 40 σ (fun y4 m3 => Q y4 m3))) ∧ (l1 = 3 → (wX1_owedInAll 40 σ (fun y6 m5 => Q y6 m5))) ∧ (l1 = 4 → Q (σ 3 1) σ) ∧ (l1 = 5 → Q (σ 12 1) σ) ∧ (l1 = 6 → Q (σ 5 1) σ) ∧ (l1 = 7 → (wX1_heldPlaces 40 σ (fun y8 m7 => Q y8 m7))) ∧ (l1 = 8 → (wX1_stockInAll 40 σ (fun y10 m9 => Q y10 m9))) ∧ (l1 ≠ 0 ∧ l1 ≠ 1 ∧ l1 ≠ 2 ∧ l1 ≠ 3 ∧ l1 ≠ 4 ∧ l1 ≠ 5 ∧ l1 ≠ 6 ∧ l1 ≠ 7 ∧ l1 ≠ 8 → Q ((-1)) σ))
set_option maxHeartbeats 1000000 in
theorem kX10_count {l1 : Int} {σ : Mem} {Q : Int → Mem → Prop} (h : wX10_count l1 σ Q) (l : Launch) (D : va_G) (cy : Nat → ClassId) (ad : Nat → Nat) : MI l yX10_count cX10_count 2 (some .int) 2 46 D cy ad [vR 0, vI l1] σ Q := by
  refine m_I (own := RX10) (lv := [(0, vR 0), (1, vI l1)]) (by decide +kernel) rfl (Nat.le_of_ble_eq_true rfl) rfl (fun E hR => ?_) l D cy ad
  unfold wX10_count at h
  refine g_iload_n dX10_count_0 rfl ?_
  obtain ⟨hs0, hs1, hs2, hs3, hs4, hs5, hs6, hs7, hs8, hsd⟩ := h
  by_cases ej0 : l1 = 0
  · refine g_tswIn (tgt := 52) (off := 51) dX10_count_1 0 ej0 (by decide) (by decide) rfl (by decide) ?_
    replace h := hs0 ej0
    refine g_aload_n dX10_count_52 rfl ?_
    refine g_getR (r := 40) fl_10_12 kd_0 rfl dX10_count_53 ?_
    refine g_getI fl_10_164 (kd_bk0 bk_40) rfl dX10_count_56 ?_
    exact g_iret hR dX10_count_59 h
  by_cases ej1 : l1 = 1
  · refine g_tswIn (tgt := 60) (off := 59) dX10_count_1 1 ej1 (by decide) (by decide) rfl (by decide) ?_
    replace h := hs1 ej1
    refine g_aload_n dX10_count_60 rfl ?_
    refine g_getR (r := 40) fl_10_12 kd_0 rfl dX10_count_61 ?_
    refine g_cVi (st := []) (av := []) (kX1_openLines bk_40 h) (kd_bk0 bk_40) rfl cw_RX10_397 (by decide) (by decide) (Nat.le_of_ble_eq_true rfl) rfl dX10_count_64 (fun y2 m1 h => ?_)
    exact g_iret hR dX10_count_67 h
  by_cases ej2 : l1 = 2
  · refine g_tswIn (tgt := 68) (off := 67) dX10_count_1 2 ej2 (by decide) (by decide) rfl (by decide) ?_
    replace h := hs2 ej2
    refine g_aload_n dX10_count_68 rfl ?_
    refine g_getR (r := 40) fl_10_12 kd_0 rfl dX10_count_69 ?_
    refine g_cVi (st := []) (av := []) (kX1_limitsInAll bk_40 h) (kd_bk0 bk_40) rfl cw_RX10_400 (by decide) (by decide) (Nat.le_of_ble_eq_true rfl) rfl dX10_count_72 (fun y4 m3 h => ?_)
    exact g_iret hR dX10_count_75 h
  by_cases ej3 : l1 = 3
  · refine g_tswIn (tgt := 76) (off := 75) dX10_count_1 3 ej3 (by decide) (by decide) rfl (by decide) ?_
    replace h := hs3 ej3
    refine g_aload_n dX10_count_76 rfl ?_
    refine g_getR (r := 40) fl_10_12 kd_0 rfl dX10_count_77 ?_
    refine g_cVi (st := []) (av := []) (kX1_owedInAll bk_40 h) (kd_bk0 bk_40) rfl cw_RX10_170 (by decide) (by decide) (Nat.le_of_ble_eq_true rfl) rfl dX10_count_80 (fun y6 m5 h => ?_)
    exact g_iret hR dX10_count_83 h
  by_cases ej4 : l1 = 4
  · refine g_tswIn (tgt := 84) (off := 83) dX10_count_1 4 ej4 (by decide) (by decide) rfl (by decide) ?_
    replace h := hs4 ej4
    refine g_aload_n dX10_count_84 rfl ?_
    refine g_getR (r := 3) fl_10_33 kd_0 rfl dX10_count_85 ?_
    refine g_getI fl_10_380 kd_3 rfl dX10_count_88 ?_
    exact g_iret hR dX10_count_91 h
  by_cases ej5 : l1 = 5
  · refine g_tswIn (tgt := 92) (off := 91) dX10_count_1 5 ej5 (by decide) (by decide) rfl (by decide) ?_
    replace h := hs5 ej5
    refine g_aload_n dX10_count_92 rfl ?_
    refine g_getR (r := 12) fl_10_54 kd_0 rfl dX10_count_93 ?_
    refine g_getI fl_10_403 kd_12 rfl dX10_count_96 ?_
    exact g_iret hR dX10_count_99 h
  by_cases ej6 : l1 = 6
  · refine g_tswIn (tgt := 100) (off := 99) dX10_count_1 6 ej6 (by decide) (by decide) rfl (by decide) ?_
    replace h := hs6 ej6
    refine g_aload_n dX10_count_100 rfl ?_
    refine g_getR (r := 5) fl_10_40 kd_0 rfl dX10_count_101 ?_
    refine g_getI fl_10_90 kd_5 rfl dX10_count_104 ?_
    exact g_iret hR dX10_count_107 h
  by_cases ej7 : l1 = 7
  · refine g_tswIn (tgt := 108) (off := 107) dX10_count_1 7 ej7 (by decide) (by decide) rfl (by decide) ?_
    replace h := hs7 ej7
    refine g_aload_n dX10_count_108 rfl ?_
    refine g_getR (r := 40) fl_10_12 kd_0 rfl dX10_count_109 ?_
    refine g_cVi (st := []) (av := []) (kX1_heldPlaces bk_40 h) (kd_bk0 bk_40) rfl cw_RX10_404 (by decide) (by decide) (Nat.le_of_ble_eq_true rfl) rfl dX10_count_112 (fun y8 m7 h => ?_)
    exact g_iret hR dX10_count_115 h
  by_cases ej8 : l1 = 8
  · refine g_tswIn (tgt := 116) (off := 115) dX10_count_1 8 ej8 (by decide) (by decide) rfl (by decide) ?_
    replace h := hs8 ej8
    refine g_aload_n dX10_count_116 rfl ?_
    refine g_getR (r := 40) fl_10_12 kd_0 rfl dX10_count_117 ?_
    refine g_cVi (st := []) (av := []) (kX1_stockInAll bk_40 h) (kd_bk0 bk_40) rfl cw_RX10_407 (by decide) (by decide) (Nat.le_of_ble_eq_true rfl) rfl dX10_count_120 (fun y10 m9 h => ?_)
    exact g_iret hR dX10_count_123 h
  refine g_tswOut (tgt := 124) dX10_count_1 (by omega) (by decide) ?_
  replace h := hsd (by omega)
  refine g_iconst dX10_count_124 (-1) rfl (by decide) ?_
  exact g_iret hR dX10_count_125 h
