def wX5_begin (σ : Mem) (Q : Mem → Prop) : Prop := (∀ m1 : Mem, m1 = up2 σ 12 1 0 → Q m1)
set_option maxHeartbeats 1000000 in
theorem kX5_begin {σ : Mem} {Q : Mem → Prop} (h : wX5_begin σ Q) (l : Launch) (D : va_G) (cy : Nat → ClassId) (ad : Nat → Nat) : MV l yX5_begin cX5_begin 1 none 0 0 D cy ad [vR 12] σ Q := by
  refine m_V (own := RX5) (lv := [(0, vR 12)]) (by decide +kernel) rfl (Nat.le_of_ble_eq_true rfl) rfl (fun E hR => ?_) l D cy ad
  unfold wX5_begin at h
  refine g_aload_n dX5_begin_0 rfl ?_
  refine g_iconst dX5_begin_1 0 rfl (by decide) ?_
  refine g_putI fp_5_15 kd_12 rfl dX5_begin_2 ?_
  refine g_nm (fun m1 em1 => ?_)
  replace h := h m1 em1
  exact g_vret hR dX5_begin_5 h
def wX5_add (l1 : Int) (σ : Mem) (Q : Mem → Prop) : Prop := ((512 ≤ σ 12 1 → Q σ) ∧ (¬ 512 ≤ σ 12 1 → ((0 ≤ σ 12 1 ∧ σ 12 1 < 512) ∧ (∀ m1 : Mem, m1 = up2 σ 13 (σ 12 1).toNat l1 → (∀ m2 : Mem, m2 = up2 m1 12 1 (w32 ((m1 12 1) + 1)) → Q m2)))))
set_option maxHeartbeats 1000000 in
theorem kX5_add {l1 : Int} {σ : Mem} {Q : Mem → Prop} (h : wX5_add l1 σ Q) (l : Launch) (D : va_G) (cy : Nat → ClassId) (ad : Nat → Nat) : MV l yX5_add cX5_add 3 none 0 0 D cy ad [vR 12, vL l1] σ Q := by
  refine m_V (own := RX5) (lv := [(0, vR 12), (1, vL l1)]) (by decide +kernel) rfl (Nat.le_of_ble_eq_true rfl) rfl (fun E hR => ?_) l D cy ad
  unfold wX5_add at h
  refine g_aload_n dX5_add_0 rfl ?_
  refine g_getI fl_5_15 kd_12 rfl dX5_add_1 ?_
  refine g_sipush dX5_add_4 512 rfl (by decide) ?_
  obtain ⟨hA, hB⟩ := h
  refine g_icmp_ge (tgt := 30) dX5_add_7 (by decide) (fun hc => ?_) (fun hc => ?_)
  · replace h := hA hc
    exact g_vret hR dX5_add_30 h
  · replace h := hB hc
    refine g_aload_n dX5_add_10 rfl ?_
    refine g_getR (r := 13) fl_5_9 kd_12 rfl dX5_add_11 ?_
    refine g_aload_n dX5_add_14 rfl ?_
    refine g_getI fl_5_15 kd_12 rfl dX5_add_15 ?_
    refine g_lload_n dX5_add_18 rfl ?_
    obtain ⟨hin, h⟩ := h
    refine g_last kd_13 hin dX5_add_19 ?_
    refine g_nm (fun m1 em1 => ?_)
    replace h := h m1 em1
    refine g_aload_n dX5_add_20 rfl ?_
    refine g_dup dX5_add_21 rfl ?_
    refine g_getI fl_5_15 kd_12 rfl dX5_add_22 ?_
    refine g_iconst dX5_add_25 1 rfl (by decide) ?_
    refine g_iadd dX5_add_26 ?_
    refine g_putI fp_5_15 kd_12 rfl dX5_add_27 ?_
    refine g_nm (fun m2 em2 => ?_)
    replace h := h m2 em2
    exact g_vret hR dX5_add_30 h
def wX5_tellOne (l1 : Int) (σ : Mem) (Q : Mem → Prop) : Prop := (wX5_begin  σ (fun m1 => (wX5_add l1 m1 (fun m2 => Q m2))))
set_option maxHeartbeats 1000000 in
theorem kX5_tellOne {l1 : Int} {σ : Mem} {Q : Mem → Prop} (h : wX5_tellOne l1 σ Q) (l : Launch) (D : va_G) (cy : Nat → ClassId) (ad : Nat → Nat) : MV l yX5_tellOne cX5_tellOne 3 none 1 22 D cy ad [vR 12, vL l1] σ Q := by
  refine m_V (own := RX5) (lv := [(0, vR 12), (1, vL l1)]) (by decide +kernel) rfl (Nat.le_of_ble_eq_true rfl) rfl (fun E hR => ?_) l D cy ad
  unfold wX5_tellOne at h
  refine g_aload_n dX5_tellOne_0 rfl ?_
  refine g_cVv (st := []) (av := []) (kX5_begin h) kd_12 rfl cw_RX5_19 (by decide) (by decide) (Nat.le_of_ble_eq_true rfl) rfl dX5_tellOne_1 (fun m1 h => ?_)
  refine g_aload_n dX5_tellOne_4 rfl ?_
  refine g_lload_n dX5_tellOne_5 rfl ?_
  refine g_cVv (st := []) (av := [vL l1]) (kX5_add h) kd_12 rfl cw_RX5_22 (by decide) (by decide) (Nat.le_of_ble_eq_true rfl) rfl dX5_tellOne_6 (fun m2 h => ?_)
  exact g_vret hR dX5_tellOne_9 h
def wX5_tellTwo (l1 : Int) (l3 : Int) (σ : Mem) (Q : Mem → Prop) : Prop := (wX5_tellOne l1 σ (fun m1 => (wX5_add l3 m1 (fun m2 => Q m2))))
set_option maxHeartbeats 1000000 in
theorem kX5_tellTwo {l1 : Int} {l3 : Int} {σ : Mem} {Q : Mem → Prop} (h : wX5_tellTwo l1 l3 σ Q) (l : Launch) (D : va_G) (cy : Nat → ClassId) (ad : Nat → Nat) : MV l yX5_tellTwo cX5_tellTwo 5 none 2 44 D cy ad [vR 12, vL l1, vL l3] σ Q := by
  refine m_V (own := RX5) (lv := [(0, vR 12), (1, vL l1), (3, vL l3)]) (by decide +kernel) rfl (Nat.le_of_ble_eq_true rfl) rfl (fun E hR => ?_) l D cy ad
  unfold wX5_tellTwo at h
  refine g_aload_n dX5_tellTwo_0 rfl ?_
  refine g_lload_n dX5_tellTwo_1 rfl ?_
  refine g_cVv (st := []) (av := [vL l1]) (kX5_tellOne h) kd_12 rfl cw_RX5_26 (by decide) (by decide) (Nat.le_of_ble_eq_true rfl) rfl dX5_tellTwo_2 (fun m1 h => ?_)
  refine g_aload_n dX5_tellTwo_5 rfl ?_
  refine g_lload_n dX5_tellTwo_6 rfl ?_
  refine g_cVv (st := []) (av := [vL l3]) (kX5_add h) kd_12 rfl cw_RX5_22 (by decide) (by decide) (Nat.le_of_ble_eq_true rfl) rfl dX5_tellTwo_7 (fun m2 h => ?_)
  exact g_vret hR dX5_tellTwo_10 h
def wX5_tellThree (l1 : Int) (l3 : Int) (l5 : Int) (σ : Mem) (Q : Mem → Prop) : Prop := (wX5_tellTwo l1 l3 σ (fun m1 => (wX5_add l5 m1 (fun m2 => Q m2))))
set_option maxHeartbeats 1000000 in
theorem kX5_tellThree {l1 : Int} {l3 : Int} {l5 : Int} {σ : Mem} {Q : Mem → Prop} (h : wX5_tellThree l1 l3 l5 σ Q) (l : Launch) (D : va_G) (cy : Nat → ClassId) (ad : Nat → Nat) : MV l yX5_tellThree cX5_tellThree 7 none 3 68 D cy ad [vR 12, vL l1, vL l3, vL l5] σ Q := by
  refine m_V (own := RX5) (lv := [(0, vR 12), (1, vL l1), (3, vL l3), (5, vL l5)]) (by decide +kernel) rfl (Nat.le_of_ble_eq_true rfl) rfl (fun E hR => ?_) l D cy ad
  unfold wX5_tellThree at h
  refine g_aload_n dX5_tellThree_0 rfl ?_
  refine g_lload_n dX5_tellThree_1 rfl ?_
  refine g_lload_n dX5_tellThree_2 rfl ?_
  refine g_cVv (st := []) (av := [vL l1, vL l3]) (kX5_tellTwo h) kd_12 rfl cw_RX5_29 (by decide) (by decide) (Nat.le_of_ble_eq_true rfl) rfl dX5_tellThree_3 (fun m1 h => ?_)
  refine g_aload_n dX5_tellThree_6 rfl ?_
  refine g_lload dX5_tellThree_7 rfl ?_
  refine g_cVv (st := []) (av := [vL l5]) (kX5_add h) kd_12 rfl cw_RX5_22 (by decide) (by decide) (Nat.le_of_ble_eq_true rfl) rfl dX5_tellThree_9 (fun m2 h => ?_)
  exact g_vret hR dX5_tellThree_12 h
def wX3_copyFrom (o0 : Nat) (o1 : Nat) (σ : Mem) (Q : Mem → Prop) : Prop := (∀ m1 : Mem, m1 = up2 σ o0 0 (σ o1 0) → (∀ m2 : Mem, m2 = up2 m1 o0 1 (m1 o1 1) → (∀ m3 : Mem, m3 = up2 m2 o0 2 (m2 o1 2) → ((m3 o0 2 ≤ 0 → Q m3) ∧ (¬ m3 o0 2 ≤ 0 → (∀ m4 : Mem, m4 = upA m3 (o0 + 4) (acp (m3 (o1 + 4)) (m3 (o0 + 4)) 0 0 64) → Q m4))))))
set_option maxHeartbeats 1000000 in
theorem kX3_copyFrom {o0 : Nat} {o1 : Nat} (ho0 : isHo o0) (ho1 : isHo o1) {σ : Mem} {Q : Mem → Prop} (h : wX3_copyFrom o0 o1 σ Q) (l : Launch) (D : va_G) (cy : Nat → ClassId) (ad : Nat → Nat) : MV l yX3_copyFrom cX3_copyFrom 2 none 1 64 D cy ad [vR o0, vR o1] σ Q := by
  refine m_V (own := RX3) (lv := [(0, vR o0), (1, vR o1)]) (by decide +kernel) rfl (Nat.le_of_ble_eq_true rfl) rfl (fun E hR => ?_) l D cy ad
  unfold wX3_copyFrom at h
  refine g_aload_n dX3_copyFrom_0 rfl ?_
  refine g_aload_n dX3_copyFrom_1 rfl ?_
  refine g_getI fl_3_15 (kd_ho ho1) rfl dX3_copyFrom_2 ?_
  refine g_putI fp_3_15 (kd_ho ho0) rfl dX3_copyFrom_5 ?_
  refine g_nm (fun m1 em1 => ?_)
  replace h := h m1 em1
  refine g_aload_n dX3_copyFrom_8 rfl ?_
  refine g_aload_n dX3_copyFrom_9 rfl ?_
  refine g_getI fl_3_19 (kd_ho ho1) rfl dX3_copyFrom_10 ?_
  refine g_putI fp_3_19 (kd_ho ho0) rfl dX3_copyFrom_13 ?_
  refine g_nm (fun m2 em2 => ?_)
  replace h := h m2 em2
  refine g_aload_n dX3_copyFrom_16 rfl ?_
  refine g_aload_n dX3_copyFrom_17 rfl ?_
  refine g_getI fl_3_22 (kd_ho ho1) rfl dX3_copyFrom_18 ?_
  refine g_putI fp_3_22 (kd_ho ho0) rfl dX3_copyFrom_21 ?_
  refine g_nm (fun m3 em3 => ?_)
  replace h := h m3 em3
  refine g_aload_n dX3_copyFrom_24 rfl ?_
  refine g_getI fl_3_22 (kd_ho ho0) rfl dX3_copyFrom_25 ?_
  obtain ⟨hA, hB⟩ := h
  refine g_if_le (tgt := 46) dX3_copyFrom_28 (by decide) (fun hc => ?_) (fun hc => ?_)
  · replace h := hA hc
    exact g_vret hR dX3_copyFrom_46 h
  · replace h := hB hc
    refine g_aload_n dX3_copyFrom_31 rfl ?_
    refine g_getR (r := o1 + 4) fl_3_9 (kd_ho ho1) rfl dX3_copyFrom_32 ?_
    refine g_iconst dX3_copyFrom_35 0 rfl (by decide) ?_
    refine g_aload_n dX3_copyFrom_36 rfl ?_
    refine g_getR (r := o0 + 4) fl_3_9 (kd_ho ho0) rfl dX3_copyFrom_37 ?_
    refine g_iconst dX3_copyFrom_40 0 rfl (by decide) ?_
    refine g_bipush dX3_copyFrom_41 64 rfl (by decide) ?_
    refine g_acopy q_485 q_480 q_479 q_106 (kd_fl ho1) (kd_fl ho0) (by decide) (by decide) (Nat.le_of_ble_eq_true rfl) dX3_copyFrom_43 ?_
    refine g_nm (fun m4 em4 => ?_)
    replace h := h m4 em4
    exact g_vret hR dX3_copyFrom_46 h
def wX10_at (l0 : Int) (l1 : Int) (σ : Mem) (Q : Int → Mem → Prop) : Prop := Q (bor (bshl (band l0 7) 3) (band l1 7)) σ
set_option maxHeartbeats 1000000 in
theorem kX10_at {l0 : Int} {l1 : Int} {σ : Mem} {Q : Int → Mem → Prop} (h : wX10_at l0 l1 σ Q) (l : Launch) (D : va_G) (cy : Nat → ClassId) (ad : Nat → Nat) : MI l yX10_at cX10_at 2 (some .int) 0 0 D cy ad [vI l0, vI l1] σ Q := by
  refine m_I (own := RX10) (lv := [(0, vI l0), (1, vI l1)]) (by decide +kernel) rfl (Nat.le_of_ble_eq_true rfl) rfl (fun E hR => ?_) l D cy ad
  unfold wX10_at at h
  refine g_iload_n dX10_at_0 rfl ?_
  refine g_bipush dX10_at_1 7 rfl (by decide) ?_
  refine g_iand dX10_at_3 ?_
  refine g_iconst dX10_at_4 3 rfl (by decide) ?_
  refine g_ishl dX10_at_5 ?_
  refine g_iload_n dX10_at_6 rfl ?_
  refine g_bipush dX10_at_7 7 rfl (by decide) ?_
  refine g_iand dX10_at_9 ?_
  refine g_ior dX10_at_10 ?_
  exact g_iret hR dX10_at_11 h
def wX4_gone (l1 : Int) (l2 : Int) (σ : Mem) (Q : Int → Mem → Prop) : Prop := (wX10_at l1 l2 σ (fun y2 m1 => ((0 ≤ y2 ∧ y2 < 64) ∧ (wX10_at l1 l2 m1 (fun y4 m3 => ((0 ≤ y4 ∧ y4 < 64) ∧ Q (w32 ((m1 16 y2.toNat) - (m3 15 y4.toNat))) m3))))))
set_option maxHeartbeats 1000000 in
theorem kX4_gone {l1 : Int} {l2 : Int} {σ : Mem} {Q : Int → Mem → Prop} (h : wX4_gone l1 l2 σ Q) (l : Launch) (D : va_G) (cy : Nat → ClassId) (ad : Nat → Nat) : MI l yX4_gone cX4_gone 3 (some .int) 1 21 D cy ad [vR 14, vI l1, vI l2] σ Q := by
  refine m_I (own := RX4) (lv := [(0, vR 14), (1, vI l1), (2, vI l2)]) (by decide +kernel) rfl (Nat.le_of_ble_eq_true rfl) rfl (fun E hR => ?_) l D cy ad
  unfold wX4_gone at h
  refine g_aload_n dX4_gone_0 rfl ?_
  refine g_getR (r := 16) fl_4_15 kd_14 rfl dX4_gone_1 ?_
  refine g_iload_n dX4_gone_4 rfl ?_
  refine g_iload_n dX4_gone_5 rfl ?_
  refine g_cNi (st := [vR 16]) (av := [vI l1, vI l2]) (kX10_at h) cw_RX4_43 (by decide) (by decide) (Nat.le_of_ble_eq_true rfl) rfl dX4_gone_6 (fun y2 m1 h => ?_)
  obtain ⟨hin, h⟩ := h
  refine g_iald kd_16 hin dX4_gone_9 ?_
  refine g_aload_n dX4_gone_10 rfl ?_
  refine g_getR (r := 15) fl_4_9 kd_14 rfl dX4_gone_11 ?_
  refine g_iload_n dX4_gone_14 rfl ?_
  refine g_iload_n dX4_gone_15 rfl ?_
  refine g_cNi (st := [vR 15, vI (m1 16 y2.toNat)]) (av := [vI l1, vI l2]) (kX10_at h) cw_RX4_43 (by decide) (by decide) (Nat.le_of_ble_eq_true rfl) rfl dX4_gone_16 (fun y4 m3 h => ?_)
  obtain ⟨hin, h⟩ := h
  refine g_iald kd_15 hin dX4_gone_19 ?_
  refine g_isub dX4_gone_20 ?_
  exact g_iret hR dX4_gone_21 h
def wX3_take_28 (o0 : Nat) (K18 : Int → Mem → Prop) (K28 : (Int × Int) → Mem → Prop) (Q : Mem → Prop) (l5 : Int) (l6 : Int) (σ : Mem) : Prop := ((8 ≤ l6 → (∀ x1 : Int, x1 = w32 (l5 + 1) → K18 x1 σ)) ∧ (¬ 8 ≤ l6 → (wX10_at l5 l6 σ (fun y3 m2 => (wX4_gone l5 l6 m2 (fun y5 m4 => ((0 ≤ y3 ∧ y3 < 64) ∧ (∀ m6 : Mem, m6 = up2 m4 (o0 + 4) y3.toNat (max y5 0) → (∀ x7 : Int, x7 = w32 (l6 + 1) → K28 (l5, x7) m6)))))))))
def wLX3_take_28 (o0 : Nat) (K18 : Int → Mem → Prop) (Q : Mem → Prop) (l5 : Int) (l6 : Int) (σ : Mem) : Prop := ∃ n, lp (fun (K28 : (Int × Int) → Mem → Prop) (x : Int × Int) (σ : Mem) => wX3_take_28 o0 K18 K28 Q x.1 x.2 σ) n (l5, l6) σ
def wX3_take_18 (o0 : Nat) (K18 : Int → Mem → Prop) (Q : Mem → Prop) (l5 : Int) (σ : Mem) : Prop := ((8 ≤ l5 → Q σ) ∧ (¬ 8 ≤ l5 → wLX3_take_28 o0 K18 Q l5 0 σ))
def wLX3_take_18 (o0 : Nat) (Q : Mem → Prop) (l5 : Int) (σ : Mem) : Prop := ∃ n, lp (fun (K18 : Int → Mem → Prop) (x : Int) (σ : Mem) => wX3_take_18 o0 K18 Q x σ) n l5 σ
def wX3_take (o0 : Nat) (l1 : Int) (l2 : Int) (l3 : Int) (σ : Mem) (Q : Mem → Prop) : Prop := (∀ m1 : Mem, m1 = up2 σ o0 0 l1 → (∀ m2 : Mem, m2 = up2 m1 o0 1 l2 → (∀ m3 : Mem, m3 = up2 m2 o0 2 l3 → wLX3_take_18 o0 Q 0 m3)))
set_option maxHeartbeats 1000000 in
theorem bX3_take_28 {E : TE} {o0 : Nat} (ho0 : isHo o0) {K18 : Int → Mem → Prop} {K28 : (Int × Int) → Mem → Prop} (hK18 : ∀ (x : Int) (σ : Mem), K18 x σ → GW E cX3_take 7 RX3 2 43 σ 18 [(0, vR o0), (4, vR 14), (5, vI x)] []) (hK28 : ∀ (x : Int × Int) (σ : Mem), K28 x σ → GW E cX3_take 7 RX3 2 43 σ 28 [(0, vR o0), (4, vR 14), (5, vI x.1), (6, vI x.2)] []) {Q : Mem → Prop} (hR : RV E none Q) {l5 : Int} {l6 : Int} {σ : Mem} (h : wX3_take_28 o0 K18 K28 Q l5 l6 σ) : GW E cX3_take 7 RX3 2 43 σ 28 [(0, vR o0), (4, vR 14), (5, vI l5), (6, vI l6)] [] := by
  unfold wX3_take_28 at h
  refine g_iload dX3_take_28 rfl ?_
  refine g_bipush dX3_take_30 8 rfl (by decide) ?_
  obtain ⟨hA, hB⟩ := h
  refine g_icmp_ge (tgt := 66) dX3_take_32 (by decide) (fun hc => ?_) (fun hc => ?_)
  · replace h := hA hc
    refine g_iinc (lv' := [(5, vI (w32 (l5 + 1))), (0, vR o0), (4, vR 14), (6, vI l6)]) dX3_take_66 rfl (by decide) rfl ?_
    refine g_loc (a := w32 (l5 + 1)) (i := 5) (lv := [(0, vR o0), (4, vR 14), (6, vI l6)]) (fun x1 ex1 => ?_)
    replace h := h x1 ex1
    refine g_goto (tgt := 18) dX3_take_69 (by decide) ?_
    refine g_lv (lv' := [(0, vR o0), (4, vR 14), (5, vI x1)]) [1, 2, 0] rfl ?_
    exact hK18 x1 σ h
  · replace h := hB hc
    refine g_aload_n dX3_take_35 rfl ?_
    refine g_getR (r := o0 + 4) fl_3_9 (kd_ho ho0) rfl dX3_take_36 ?_
    refine g_iload dX3_take_39 rfl ?_
    refine g_iload dX3_take_41 rfl ?_
    refine g_cNi (st := [vR (o0 + 4)]) (av := [vI l5, vI l6]) (kX10_at h) cw_RX3_31 (by decide) (by decide) (Nat.le_of_ble_eq_true rfl) rfl dX3_take_43 (fun y3 m2 h => ?_)
    refine g_aload dX3_take_46 rfl ?_
    refine g_iload dX3_take_48 rfl ?_
    refine g_iload dX3_take_50 rfl ?_
    refine g_cVi (st := [vI y3, vR (o0 + 4)]) (av := [vI l5, vI l6]) (kX4_gone h) kd_14 rfl cw_RX3_35 (by decide) (by decide) (Nat.le_of_ble_eq_true rfl) rfl dX3_take_52 (fun y5 m4 h => ?_)
    refine g_iconst dX3_take_55 0 rfl (by decide) ?_
    refine g_mmax q_754 q_519 q_107 q_mmax (by decide) (Nat.le_of_ble_eq_true rfl) dX3_take_56 ?_
    obtain ⟨hin, h⟩ := h
    refine g_iast (kd_fl ho0) hin dX3_take_59 ?_
    refine g_nm (fun m6 em6 => ?_)
    replace h := h m6 em6
    refine g_iinc (lv' := [(6, vI (w32 (l6 + 1))), (0, vR o0), (4, vR 14), (5, vI l5)]) dX3_take_60 rfl (by decide) rfl ?_
    refine g_loc (a := w32 (l6 + 1)) (i := 6) (lv := [(0, vR o0), (4, vR 14), (5, vI l5)]) (fun x7 ex7 => ?_)
    replace h := h x7 ex7
    refine g_goto (tgt := 28) dX3_take_63 (by decide) ?_
    refine g_lv (lv' := [(0, vR o0), (4, vR 14), (5, vI l5), (6, vI x7)]) [1, 2, 3, 0] rfl ?_
    exact hK28 ((l5, x7)) m6 h
theorem eX3_take_28 {E : TE} {o0 : Nat} (ho0 : isHo o0) {K18 : Int → Mem → Prop} (hK18 : ∀ (x : Int) (σ : Mem), K18 x σ → GW E cX3_take 7 RX3 2 43 σ 18 [(0, vR o0), (4, vR 14), (5, vI x)] []) {Q : Mem → Prop} (hR : RV E none Q) {l5 : Int} {l6 : Int} {σ : Mem} (h : wLX3_take_28 o0 K18 Q l5 l6 σ) : GW E cX3_take 7 RX3 2 43 σ 28 [(0, vR o0), (4, vR 14), (5, vI l5), (6, vI l6)] [] := by
  obtain ⟨n, h⟩ := h
  exact lp_GW (P := fun (x : Int × Int) (σ : Mem) => GW E cX3_take 7 RX3 2 43 σ 28 [(0, vR o0), (4, vR 14), (5, vI x.1), (6, vI x.2)] []) (fun K hK x σ h  => bX3_take_28 ho0 hK18 hK hR h) n _ σ h 
set_option maxHeartbeats 1000000 in
theorem bX3_take_18 {E : TE} {o0 : Nat} (ho0 : isHo o0) {K18 : Int → Mem → Prop} (hK18 : ∀ (x : Int) (σ : Mem), K18 x σ → GW E cX3_take 7 RX3 2 43 σ 18 [(0, vR o0), (4, vR 14), (5, vI x)] []) {Q : Mem → Prop} (hR : RV E none Q) {l5 : Int} {σ : Mem} (h : wX3_take_18 o0 K18 Q l5 σ) : GW E cX3_take 7 RX3 2 43 σ 18 [(0, vR o0), (4, vR 14), (5, vI l5)] [] := by
  unfold wX3_take_18 at h
  refine g_iload dX3_take_18 rfl ?_
  refine g_bipush dX3_take_20 8 rfl (by decide) ?_
  obtain ⟨hA, hB⟩ := h
  refine g_icmp_ge (tgt := 72) dX3_take_22 (by decide) (fun hc => ?_) (fun hc => ?_)
  · replace h := hA hc
    exact g_vret hR dX3_take_72 h
  · replace h := hB hc
    refine g_iconst dX3_take_25 0 rfl (by decide) ?_
    refine g_istore (lv' := [(6, vI 0), (0, vR o0), (4, vR 14), (5, vI l5)]) dX3_take_26 (by decide) rfl ?_
    refine g_lv (lv' := [(0, vR o0), (4, vR 14), (5, vI l5), (6, vI 0)]) [1, 2, 3, 0] rfl ?_
    exact eX3_take_28 ho0 hK18 hR h
theorem eX3_take_18 {E : TE} {o0 : Nat} (ho0 : isHo o0) {Q : Mem → Prop} (hR : RV E none Q) {l5 : Int} {σ : Mem} (h : wLX3_take_18 o0 Q l5 σ) : GW E cX3_take 7 RX3 2 43 σ 18 [(0, vR o0), (4, vR 14), (5, vI l5)] [] := by
  obtain ⟨n, h⟩ := h
  exact lp_GW (P := fun (x : Int) (σ : Mem) => GW E cX3_take 7 RX3 2 43 σ 18 [(0, vR o0), (4, vR 14), (5, vI x)] []) (fun K hK x σ h  => bX3_take_18 ho0 hK hR h) n _ σ h 
set_option maxHeartbeats 1000000 in
theorem kX3_take {o0 : Nat} {l1 : Int} {l2 : Int} {l3 : Int} (ho0 : isHo o0) {σ : Mem} {Q : Mem → Prop} (h : wX3_take o0 l1 l2 l3 σ Q) (l : Launch) (D : va_G) (cy : Nat → ClassId) (ad : Nat → Nat) : MV l yX3_take cX3_take 7 none 2 43 D cy ad [vR o0, vI l1, vI l2, vI l3, vR 14] σ Q := by
  refine m_V (own := RX3) (lv := [(0, vR o0), (1, vI l1), (2, vI l2), (3, vI l3), (4, vR 14)]) (by decide +kernel) rfl (Nat.le_of_ble_eq_true rfl) rfl (fun E hR => ?_) l D cy ad
  unfold wX3_take at h
  refine g_aload_n dX3_take_0 rfl ?_
  refine g_iload_n dX3_take_1 rfl ?_
  refine g_putI fp_3_15 (kd_ho ho0) rfl dX3_take_2 ?_
  refine g_nm (fun m1 em1 => ?_)
  replace h := h m1 em1
  refine g_aload_n dX3_take_5 rfl ?_
  refine g_iload_n dX3_take_6 rfl ?_
  refine g_putI fp_3_19 (kd_ho ho0) rfl dX3_take_7 ?_
  refine g_nm (fun m2 em2 => ?_)
  replace h := h m2 em2
  refine g_aload_n dX3_take_10 rfl ?_
  refine g_iload_n dX3_take_11 rfl ?_
  refine g_putI fp_3_22 (kd_ho ho0) rfl dX3_take_12 ?_
  refine g_nm (fun m3 em3 => ?_)
  replace h := h m3 em3
  refine g_iconst dX3_take_15 0 rfl (by decide) ?_
  refine g_istore (lv' := [(5, vI 0), (0, vR o0), (1, vI l1), (2, vI l2), (3, vI l3), (4, vR 14)]) dX3_take_16 (by decide) rfl ?_
  refine g_lv (lv' := [(0, vR o0), (4, vR 14), (5, vI 0)]) [1, 5, 0] rfl ?_
  exact eX3_take_18 ho0 hR h
def wX3_steps_25 (o0 : Nat) (K4 : (Int × Int) → Mem → Prop) (Q : Int → Mem → Prop) (l2 : Int) (s0 : Int) (s1 : Int) (σ : Mem) : Prop := (∀ x1 : Int, x1 = w32 (s1 + s0) → (∀ x2 : Int, x2 = w32 (l2 + 1) → K4 (x1, x2) σ))
def wX3_steps_4 (o0 : Nat) (K4 : (Int × Int) → Mem → Prop) (Q : Int → Mem → Prop) (l1 : Int) (l2 : Int) (σ : Mem) : Prop := ((64 ≤ l2 → Q l1 σ) ∧ (¬ 64 ≤ l2 → ((0 ≤ l2 ∧ l2 < 64) ∧ ((σ (o0 + 4) l2.toNat ≤ 0 → wX3_steps_25 o0 K4 Q l2 0 l1 σ) ∧ (¬ σ (o0 + 4) l2.toNat ≤ 0 → wX3_steps_25 o0 K4 Q l2 1 l1 σ)))))
def wLX3_steps_4 (o0 : Nat) (Q : Int → Mem → Prop) (l1 : Int) (l2 : Int) (σ : Mem) : Prop := ∃ n, lp (fun (K4 : (Int × Int) → Mem → Prop) (x : Int × Int) (σ : Mem) => wX3_steps_4 o0 K4 Q x.1 x.2 σ) n (l1, l2) σ
def wX3_steps (o0 : Nat) (σ : Mem) (Q : Int → Mem → Prop) : Prop := wLX3_steps_4 o0 Q 0 0 σ
set_option maxHeartbeats 1000000 in
theorem bX3_steps_25 {E : TE} {o0 : Nat} (ho0 : isHo o0) {K4 : (Int × Int) → Mem → Prop} (hK4 : ∀ (x : Int × Int) (σ : Mem), K4 x σ → GW E cX3_steps 3 RX3 0 0 σ 4 [(0, vR o0), (1, vI x.1), (2, vI x.2)] []) {Q : Int → Mem → Prop} (hR : RI E (some .int) Q) {l2 : Int} {s0 : Int} {s1 : Int} {σ : Mem} (h : wX3_steps_25 o0 K4 Q l2 s0 s1 σ) : GW E cX3_steps 3 RX3 0 0 σ 25 [(0, vR o0), (2, vI l2)] [vI s0, vI s1] := by
  unfold wX3_steps_25 at h
  refine g_iadd dX3_steps_25 ?_
  refine g_topI (fun x1 ex1 => ?_)
  replace h := h x1 ex1
  refine g_istore_n (lv' := [(1, vI x1), (0, vR o0), (2, vI l2)]) dX3_steps_26 (by decide) rfl ?_
  refine g_iinc (lv' := [(2, vI (w32 (l2 + 1))), (1, vI x1), (0, vR o0)]) dX3_steps_27 rfl (by decide) rfl ?_
  refine g_loc (a := w32 (l2 + 1)) (i := 2) (lv := [(1, vI x1), (0, vR o0)]) (fun x2 ex2 => ?_)
  replace h := h x2 ex2
  refine g_goto (tgt := 4) dX3_steps_30 (by decide) ?_
  refine g_lv (lv' := [(0, vR o0), (1, vI x1), (2, vI x2)]) [2, 1, 0] rfl ?_
  exact hK4 ((x1, x2)) σ h
set_option maxHeartbeats 1000000 in
theorem bX3_steps_4 {E : TE} {o0 : Nat} (ho0 : isHo o0) {K4 : (Int × Int) → Mem → Prop} (hK4 : ∀ (x : Int × Int) (σ : Mem), K4 x σ → GW E cX3_steps 3 RX3 0 0 σ 4 [(0, vR o0), (1, vI x.1), (2, vI x.2)] []) {Q : Int → Mem → Prop} (hR : RI E (some .int) Q) {l1 : Int} {l2 : Int} {σ : Mem} (h : wX3_steps_4 o0 K4 Q l1 l2 σ) : GW E cX3_steps 3 RX3 0 0 σ 4 [(0, vR o0), (1, vI l1), (2, vI l2)] [] := by
  unfold wX3_steps_4 at h
  refine g_iload_n dX3_steps_4 rfl ?_
  refine g_bipush dX3_steps_5 64 rfl (by decide) ?_
  obtain ⟨hA, hB⟩ := h
  refine g_icmp_ge (tgt := 33) dX3_steps_7 (by decide) (fun hc => ?_) (fun hc => ?_)
  · replace h := hA hc
    refine g_iload_n dX3_steps_33 rfl ?_
    exact g_iret hR dX3_steps_34 h
  · replace h := hB hc
    refine g_iload_n dX3_steps_10 rfl ?_
    refine g_aload_n dX3_steps_11 rfl ?_
    refine g_getR (r := o0 + 4) fl_3_9 (kd_ho ho0) rfl dX3_steps_12 ?_
    refine g_iload_n dX3_steps_15 rfl ?_
    obtain ⟨hin, h⟩ := h
    refine g_iald (kd_fl ho0) hin dX3_steps_16 ?_
    obtain ⟨hA, hB⟩ := h
    refine g_if_le (tgt := 24) dX3_steps_17 (by decide) (fun hc => ?_) (fun hc => ?_)
    · replace h := hA hc
      refine g_iconst dX3_steps_24 0 rfl (by decide) ?_
      refine g_lv (lv' := [(0, vR o0), (2, vI l2)]) [0, 2] rfl ?_
      exact bX3_steps_25 ho0 hK4 hR h
    · replace h := hB hc
      refine g_iconst dX3_steps_20 1 rfl (by decide) ?_
      refine g_goto (tgt := 25) dX3_steps_21 (by decide) ?_
      refine g_lv (lv' := [(0, vR o0), (2, vI l2)]) [0, 2] rfl ?_
      exact bX3_steps_25 ho0 hK4 hR h
theorem eX3_steps_4 {E : TE} {o0 : Nat} (ho0 : isHo o0) {Q : Int → Mem → Prop} (hR : RI E (some .int) Q) {l1 : Int} {l2 : Int} {σ : Mem} (h : wLX3_steps_4 o0 Q l1 l2 σ) : GW E cX3_steps 3 RX3 0 0 σ 4 [(0, vR o0), (1, vI l1), (2, vI l2)] [] := by
  obtain ⟨n, h⟩ := h
  exact lp_GW (P := fun (x : Int × Int) (σ : Mem) => GW E cX3_steps 3 RX3 0 0 σ 4 [(0, vR o0), (1, vI x.1), (2, vI x.2)] []) (fun K hK x σ h  => bX3_steps_4 ho0 hK hR h) n _ σ h 
set_option maxHeartbeats 1000000 in
theorem kX3_steps {o0 : Nat} (ho0 : isHo o0) {σ : Mem} {Q : Int → Mem → Prop} (h : wX3_steps o0 σ Q) (l : Launch) (D : va_G) (cy : Nat → ClassId) (ad : Nat → Nat) : MI l yX3_steps cX3_steps 3 (some .int) 0 0 D cy ad [vR o0] σ Q := by
  refine m_I (own := RX3) (lv := [(0, vR o0)]) (by decide +kernel) rfl (Nat.le_of_ble_eq_true rfl) rfl (fun E hR => ?_) l D cy ad
  unfold wX3_steps at h
  refine g_iconst dX3_steps_0 0 rfl (by decide) ?_
  refine g_istore_n (lv' := [(1, vI 0), (0, vR o0)]) dX3_steps_1 (by decide) rfl ?_
  refine g_iconst dX3_steps_2 0 rfl (by decide) ?_
  refine g_istore_n (lv' := [(2, vI 0), (1, vI 0), (0, vR o0)]) dX3_steps_3 (by decide) rfl ?_
  refine g_lv (lv' := [(0, vR o0), (1, vI 0), (2, vI 0)]) [2, 1, 0] rfl ?_
  exact eX3_steps_4 ho0 hR h
def wX1_startAnew_56 (b0 : Nat) (K56 : Int → Mem → Prop) (Q : Mem → Prop) (l2 : Int) (σ : Mem) : Prop := ((4 ≤ l2 → Q σ) ∧ (¬ 4 ≤ l2 → ((0 ≤ l2 ∧ l2 < 4) ∧ (∀ m2 : Mem, m2 = up2 σ (b0 + 5 + l2.toNat) 2 0 → (∀ x3 : Int, x3 = w32 (l2 + 1) → K56 x3 m2)))))
def wLX1_startAnew_56 (b0 : Nat) (Q : Mem → Prop) (l2 : Int) (σ : Mem) : Prop := ∃ n, lp (fun (K56 : Int → Mem → Prop) (x : Int) (σ : Mem) => wX1_startAnew_56 b0 K56 Q x σ) n l2 σ
def wX1_startAnew_35 (b0 : Nat) (K35 : Int → Mem → Prop) (Q : Mem → Prop) (l2 : Int) (σ : Mem) : Prop := ((8 ≤ l2 → wLX1_startAnew_56 b0 Q 0 σ) ∧ (¬ 8 ≤ l2 → ((0 ≤ l2 ∧ l2 < 8) ∧ (∀ m1 : Mem, m1 = up2 σ (b0 + 3) l2.toNat 0 → (∀ x2 : Int, x2 = w32 (l2 + 1) → K35 x2 m1)))))
def wLX1_startAnew_35 (b0 : Nat) (Q : Mem → Prop) (l2 : Int) (σ : Mem) : Prop := ∃ n, lp (fun (K35 : Int → Mem → Prop) (x : Int) (σ : Mem) => wX1_startAnew_35 b0 K35 Q x σ) n l2 σ
def wX1_startAnew_7 (b0 : Nat) (K7 : Int → Mem → Prop) (Q : Mem → Prop) (l2 : Int) (σ : Mem) : Prop := ((64 ≤ l2 → wLX1_startAnew_35 b0 Q 0 σ) ∧ (¬ 64 ≤ l2 → ((0 ≤ l2 ∧ l2 < 64) ∧ (∀ m1 : Mem, m1 = up2 σ (b0 + 1) l2.toNat 0 → ((0 ≤ l2 ∧ l2 < 64) ∧ (∀ m2 : Mem, m2 = up2 m1 (b0 + 2) l2.toNat 0 → (∀ x3 : Int, x3 = w32 (l2 + 1) → K7 x3 m2)))))))
def wLX1_startAnew_7 (b0 : Nat) (Q : Mem → Prop) (l2 : Int) (σ : Mem) : Prop := ∃ n, lp (fun (K7 : Int → Mem → Prop) (x : Int) (σ : Mem) => wX1_startAnew_7 b0 K7 Q x σ) n l2 σ
def wX1_startAnew (b0 : Nat) (l1 : Int) (σ : Mem) (Q : Mem → Prop) : Prop := (∀ m1 : Mem, m1 = up2 σ b0 0 l1 → wLX1_startAnew_7 b0 Q 0 m1)
set_option maxHeartbeats 1000000 in
theorem bX1_startAnew_56 {E : TE} {b0 : Nat} (hb0 : isBk b0) {K56 : Int → Mem → Prop} (hK56 : ∀ (x : Int) (σ : Mem), K56 x σ → GW E cX1_startAnew 3 RX1 0 0 σ 56 [(0, vR b0), (2, vI x)] []) {Q : Mem → Prop} (hR : RV E none Q) {l2 : Int} {σ : Mem} (h : wX1_startAnew_56 b0 K56 Q l2 σ) : GW E cX1_startAnew 3 RX1 0 0 σ 56 [(0, vR b0), (2, vI l2)] [] := by
  unfold wX1_startAnew_56 at h
  refine g_iload_n dX1_startAnew_56 rfl ?_
  refine g_iconst dX1_startAnew_57 4 rfl (by decide) ?_
  obtain ⟨hA, hB⟩ := h
  refine g_icmp_ge (tgt := 77) dX1_startAnew_58 (by decide) (fun hc => ?_) (fun hc => ?_)
  · replace h := hA hc
    exact g_vret hR dX1_startAnew_77 h
  · replace h := hB hc
    refine g_aload_n dX1_startAnew_61 rfl ?_
    refine g_getR (r := b0 + 4) fl_1_27 (kd_bk0 hb0) rfl dX1_startAnew_62 ?_
    refine g_iload_n dX1_startAnew_65 rfl ?_
    obtain ⟨hin, h⟩ := h
    have hi1 := hin
    refine g_aald (kd_bk4 hb0) (Or.inr rfl) hin (ho_r hi1) dX1_startAnew_66 ?_
    refine g_iconst dX1_startAnew_67 0 rfl (by decide) ?_
    refine g_putI fp_1_32 (kd_ho (ho_of hb0 hi1)) rfl dX1_startAnew_68 ?_
    refine g_nm (fun m2 em2 => ?_)
    replace h := h m2 em2
    refine g_iinc (lv' := [(2, vI (w32 (l2 + 1))), (0, vR b0)]) dX1_startAnew_71 rfl (by decide) rfl ?_
    refine g_loc (a := w32 (l2 + 1)) (i := 2) (lv := [(0, vR b0)]) (fun x3 ex3 => ?_)
    replace h := h x3 ex3
    refine g_goto (tgt := 56) dX1_startAnew_74 (by decide) ?_
    refine g_lv (lv' := [(0, vR b0), (2, vI x3)]) [1, 0] rfl ?_
    exact hK56 x3 m2 h
theorem eX1_startAnew_56 {E : TE} {b0 : Nat} (hb0 : isBk b0) {Q : Mem → Prop} (hR : RV E none Q) {l2 : Int} {σ : Mem} (h : wLX1_startAnew_56 b0 Q l2 σ) : GW E cX1_startAnew 3 RX1 0 0 σ 56 [(0, vR b0), (2, vI l2)] [] := by
  obtain ⟨n, h⟩ := h
  exact lp_GW (P := fun (x : Int) (σ : Mem) => GW E cX1_startAnew 3 RX1 0 0 σ 56 [(0, vR b0), (2, vI x)] []) (fun K hK x σ h  => bX1_startAnew_56 hb0 hK hR h) n _ σ h 
set_option maxHeartbeats 1000000 in
theorem bX1_startAnew_35 {E : TE} {b0 : Nat} (hb0 : isBk b0) {K35 : Int → Mem → Prop} (hK35 : ∀ (x : Int) (σ : Mem), K35 x σ → GW E cX1_startAnew 3 RX1 0 0 σ 35 [(0, vR b0), (2, vI x)] []) {Q : Mem → Prop} (hR : RV E none Q) {l2 : Int} {σ : Mem} (h : wX1_startAnew_35 b0 K35 Q l2 σ) : GW E cX1_startAnew 3 RX1 0 0 σ 35 [(0, vR b0), (2, vI l2)] [] := by
  unfold wX1_startAnew_35 at h
  refine g_iload_n dX1_startAnew_35 rfl ?_
  refine g_bipush dX1_startAnew_36 8 rfl (by decide) ?_
  obtain ⟨hA, hB⟩ := h
  refine g_icmp_ge (tgt := 54) dX1_startAnew_38 (by decide) (fun hc => ?_) (fun hc => ?_)
  · replace h := hA hc
    refine g_iconst dX1_startAnew_54 0 rfl (by decide) ?_
    refine g_istore_n (lv' := [(2, vI 0), (0, vR b0)]) dX1_startAnew_55 (by decide) rfl ?_
    refine g_lv (lv' := [(0, vR b0), (2, vI 0)]) [1, 0] rfl ?_
    exact eX1_startAnew_56 hb0 hR h
  · replace h := hB hc
    refine g_aload_n dX1_startAnew_41 rfl ?_
    refine g_getR (r := b0 + 3) fl_1_22 (kd_bk0 hb0) rfl dX1_startAnew_42 ?_
    refine g_iload_n dX1_startAnew_45 rfl ?_
    refine g_iconst dX1_startAnew_46 0 rfl (by decide) ?_
    obtain ⟨hin, h⟩ := h
    refine g_iast (kd_bk3 hb0) hin dX1_startAnew_47 ?_
    refine g_nm (fun m1 em1 => ?_)
    replace h := h m1 em1
    refine g_iinc (lv' := [(2, vI (w32 (l2 + 1))), (0, vR b0)]) dX1_startAnew_48 rfl (by decide) rfl ?_
    refine g_loc (a := w32 (l2 + 1)) (i := 2) (lv := [(0, vR b0)]) (fun x2 ex2 => ?_)
    replace h := h x2 ex2
    refine g_goto (tgt := 35) dX1_startAnew_51 (by decide) ?_
    refine g_lv (lv' := [(0, vR b0), (2, vI x2)]) [1, 0] rfl ?_
    exact hK35 x2 m1 h
theorem eX1_startAnew_35 {E : TE} {b0 : Nat} (hb0 : isBk b0) {Q : Mem → Prop} (hR : RV E none Q) {l2 : Int} {σ : Mem} (h : wLX1_startAnew_35 b0 Q l2 σ) : GW E cX1_startAnew 3 RX1 0 0 σ 35 [(0, vR b0), (2, vI l2)] [] := by
  obtain ⟨n, h⟩ := h
  exact lp_GW (P := fun (x : Int) (σ : Mem) => GW E cX1_startAnew 3 RX1 0 0 σ 35 [(0, vR b0), (2, vI x)] []) (fun K hK x σ h  => bX1_startAnew_35 hb0 hK hR h) n _ σ h 
set_option maxHeartbeats 1000000 in
theorem bX1_startAnew_7 {E : TE} {b0 : Nat} (hb0 : isBk b0) {K7 : Int → Mem → Prop} (hK7 : ∀ (x : Int) (σ : Mem), K7 x σ → GW E cX1_startAnew 3 RX1 0 0 σ 7 [(0, vR b0), (2, vI x)] []) {Q : Mem → Prop} (hR : RV E none Q) {l2 : Int} {σ : Mem} (h : wX1_startAnew_7 b0 K7 Q l2 σ) : GW E cX1_startAnew 3 RX1 0 0 σ 7 [(0, vR b0), (2, vI l2)] [] := by
  unfold wX1_startAnew_7 at h
  refine g_iload_n dX1_startAnew_7 rfl ?_
  refine g_bipush dX1_startAnew_8 64 rfl (by decide) ?_
  obtain ⟨hA, hB⟩ := h
  refine g_icmp_ge (tgt := 33) dX1_startAnew_10 (by decide) (fun hc => ?_) (fun hc => ?_)
  · replace h := hA hc
    refine g_iconst dX1_startAnew_33 0 rfl (by decide) ?_
    refine g_istore_n (lv' := [(2, vI 0), (0, vR b0)]) dX1_startAnew_34 (by decide) rfl ?_
    refine g_lv (lv' := [(0, vR b0), (2, vI 0)]) [1, 0] rfl ?_
    exact eX1_startAnew_35 hb0 hR h
  · replace h := hB hc
    refine g_aload_n dX1_startAnew_13 rfl ?_
    refine g_getR (r := b0 + 1) fl_1_15 (kd_bk0 hb0) rfl dX1_startAnew_14 ?_
    refine g_iload_n dX1_startAnew_17 rfl ?_
    refine g_iconst dX1_startAnew_18 0 rfl (by decide) ?_
    obtain ⟨hin, h⟩ := h
    refine g_iast (kd_bk1 hb0) hin dX1_startAnew_19 ?_
    refine g_nm (fun m1 em1 => ?_)
    replace h := h m1 em1
    refine g_aload_n dX1_startAnew_20 rfl ?_
    refine g_getR (r := b0 + 2) fl_1_19 (kd_bk0 hb0) rfl dX1_startAnew_21 ?_
    refine g_iload_n dX1_startAnew_24 rfl ?_
    refine g_iconst dX1_startAnew_25 0 rfl (by decide) ?_
    obtain ⟨hin, h⟩ := h
    refine g_iast (kd_bk2 hb0) hin dX1_startAnew_26 ?_
    refine g_nm (fun m2 em2 => ?_)
    replace h := h m2 em2
    refine g_iinc (lv' := [(2, vI (w32 (l2 + 1))), (0, vR b0)]) dX1_startAnew_27 rfl (by decide) rfl ?_
    refine g_loc (a := w32 (l2 + 1)) (i := 2) (lv := [(0, vR b0)]) (fun x3 ex3 => ?_)
    replace h := h x3 ex3
    refine g_goto (tgt := 7) dX1_startAnew_30 (by decide) ?_
    refine g_lv (lv' := [(0, vR b0), (2, vI x3)]) [1, 0] rfl ?_
    exact hK7 x3 m2 h
theorem eX1_startAnew_7 {E : TE} {b0 : Nat} (hb0 : isBk b0) {Q : Mem → Prop} (hR : RV E none Q) {l2 : Int} {σ : Mem} (h : wLX1_startAnew_7 b0 Q l2 σ) : GW E cX1_startAnew 3 RX1 0 0 σ 7 [(0, vR b0), (2, vI l2)] [] := by
  obtain ⟨n, h⟩ := h
  exact lp_GW (P := fun (x : Int) (σ : Mem) => GW E cX1_startAnew 3 RX1 0 0 σ 7 [(0, vR b0), (2, vI x)] []) (fun K hK x σ h  => bX1_startAnew_7 hb0 hK hR h) n _ σ h 
set_option maxHeartbeats 1000000 in
theorem kX1_startAnew {b0 : Nat} {l1 : Int} (hb0 : isBk b0) {σ : Mem} {Q : Mem → Prop} (h : wX1_startAnew b0 l1 σ Q) (l : Launch) (D : va_G) (cy : Nat → ClassId) (ad : Nat → Nat) : MV l yX1_startAnew cX1_startAnew 3 none 0 0 D cy ad [vR b0, vI l1] σ Q := by
  refine m_V (own := RX1) (lv := [(0, vR b0), (1, vI l1)]) (by decide +kernel) rfl (Nat.le_of_ble_eq_true rfl) rfl (fun E hR => ?_) l D cy ad
  unfold wX1_startAnew at h
  refine g_aload_n dX1_startAnew_0 rfl ?_
  refine g_iload_n dX1_startAnew_1 rfl ?_
  refine g_putI fp_1_9 (kd_bk0 hb0) rfl dX1_startAnew_2 ?_
  refine g_nm (fun m1 em1 => ?_)
  replace h := h m1 em1
  refine g_iconst dX1_startAnew_5 0 rfl (by decide) ?_
  refine g_istore_n (lv' := [(2, vI 0), (0, vR b0), (1, vI l1)]) dX1_startAnew_6 (by decide) rfl ?_
  refine g_lv (lv' := [(0, vR b0), (2, vI 0)]) [1, 0] rfl ?_
  exact eX1_startAnew_7 hb0 hR h
def wX1_copyFrom_55 (b0 : Nat) (b1 : Nat) (K55 : Int → Mem → Prop) (Q : Mem → Prop) (l2 : Int) (σ : Mem) : Prop := ((4 ≤ l2 → Q σ) ∧ (¬ 4 ≤ l2 → ((0 ≤ l2 ∧ l2 < 4) ∧ ((0 ≤ l2 ∧ l2 < 4) ∧ (wX3_copyFrom (b0 + 5 + l2.toNat) (b1 + 5 + l2.toNat) σ (fun m3 => (∀ x4 : Int, x4 = w32 (l2 + 1) → K55 x4 m3)))))))
def wLX1_copyFrom_55 (b0 : Nat) (b1 : Nat) (Q : Mem → Prop) (l2 : Int) (σ : Mem) : Prop := ∃ n, lp (fun (K55 : Int → Mem → Prop) (x : Int) (σ : Mem) => wX1_copyFrom_55 b0 b1 K55 Q x σ) n l2 σ
def wX1_copyFrom (b0 : Nat) (b1 : Nat) (σ : Mem) (Q : Mem → Prop) : Prop := (∀ m1 : Mem, m1 = up2 σ b0 0 (σ b1 0) → (∀ m2 : Mem, m2 = upA m1 (b0 + 1) (acp (m1 (b1 + 1)) (m1 (b0 + 1)) 0 0 64) → (∀ m3 : Mem, m3 = upA m2 (b0 + 2) (acp (m2 (b1 + 2)) (m2 (b0 + 2)) 0 0 64) → (∀ m4 : Mem, m4 = upA m3 (b0 + 3) (acp (m3 (b1 + 3)) (m3 (b0 + 3)) 0 0 8) → wLX1_copyFrom_55 b0 b1 Q 0 m4))))
set_option maxHeartbeats 1000000 in
theorem bX1_copyFrom_55 {E : TE} {b0 : Nat} {b1 : Nat} (hb0 : isBk b0) (hb1 : isBk b1) {K55 : Int → Mem → Prop} (hK55 : ∀ (x : Int) (σ : Mem), K55 x σ → GW E cX1_copyFrom 3 RX1 2 85 σ 55 [(0, vR b0), (1, vR b1), (2, vI x)] []) {Q : Mem → Prop} (hR : RV E none Q) {l2 : Int} {σ : Mem} (h : wX1_copyFrom_55 b0 b1 K55 Q l2 σ) : GW E cX1_copyFrom 3 RX1 2 85 σ 55 [(0, vR b0), (1, vR b1), (2, vI l2)] [] := by
  unfold wX1_copyFrom_55 at h
  refine g_iload_n dX1_copyFrom_55 rfl ?_
  refine g_iconst dX1_copyFrom_56 4 rfl (by decide) ?_
  obtain ⟨hA, hB⟩ := h
  refine g_icmp_ge (tgt := 81) dX1_copyFrom_57 (by decide) (fun hc => ?_) (fun hc => ?_)
  · replace h := hA hc
    exact g_vret hR dX1_copyFrom_81 h
  · replace h := hB hc
    refine g_aload_n dX1_copyFrom_60 rfl ?_
    refine g_getR (r := b0 + 4) fl_1_27 (kd_bk0 hb0) rfl dX1_copyFrom_61 ?_
    refine g_iload_n dX1_copyFrom_64 rfl ?_
    obtain ⟨hin, h⟩ := h
    have hi1 := hin
    refine g_aald (kd_bk4 hb0) (Or.inr rfl) hin (ho_r hi1) dX1_copyFrom_65 ?_
    refine g_aload_n dX1_copyFrom_66 rfl ?_
    refine g_getR (r := b1 + 4) fl_1_27 (kd_bk0 hb1) rfl dX1_copyFrom_67 ?_
    refine g_iload_n dX1_copyFrom_70 rfl ?_
    obtain ⟨hin, h⟩ := h
    have hi2 := hin
    refine g_aald (kd_bk4 hb1) (Or.inr rfl) hin (ho_r hi2) dX1_copyFrom_71 ?_
    refine g_cVv (st := []) (av := [vR (b1 + 5 + l2.toNat)]) (kX3_copyFrom (ho_of hb0 hi1) (ho_of hb1 hi2) h) (kd_ho (ho_of hb0 hi1)) rfl cw_RX1_41 (by decide) (by decide) (Nat.le_of_ble_eq_true rfl) rfl dX1_copyFrom_72 (fun m3 h => ?_)
    refine g_iinc (lv' := [(2, vI (w32 (l2 + 1))), (0, vR b0), (1, vR b1)]) dX1_copyFrom_75 rfl (by decide) rfl ?_
    refine g_loc (a := w32 (l2 + 1)) (i := 2) (lv := [(0, vR b0), (1, vR b1)]) (fun x4 ex4 => ?_)
    replace h := h x4 ex4
    refine g_goto (tgt := 55) dX1_copyFrom_78 (by decide) ?_
    refine g_lv (lv' := [(0, vR b0), (1, vR b1), (2, vI x4)]) [1, 2, 0] rfl ?_
    exact hK55 x4 m3 h
theorem eX1_copyFrom_55 {E : TE} {b0 : Nat} {b1 : Nat} (hb0 : isBk b0) (hb1 : isBk b1) {Q : Mem → Prop} (hR : RV E none Q) {l2 : Int} {σ : Mem} (h : wLX1_copyFrom_55 b0 b1 Q l2 σ) : GW E cX1_copyFrom 3 RX1 2 85 σ 55 [(0, vR b0), (1, vR b1), (2, vI l2)] [] := by
  obtain ⟨n, h⟩ := h
  exact lp_GW (P := fun (x : Int) (σ : Mem) => GW E cX1_copyFrom 3 RX1 2 85 σ 55 [(0, vR b0), (1, vR b1), (2, vI x)] []) (fun K hK x σ h  => bX1_copyFrom_55 hb0 hb1 hK hR h) n _ σ h 
set_option maxHeartbeats 1000000 in
theorem kX1_copyFrom {b0 : Nat} {b1 : Nat} (hb0 : isBk b0) (hb1 : isBk b1) {σ : Mem} {Q : Mem → Prop} (h : wX1_copyFrom b0 b1 σ Q) (l : Launch) (D : va_G) (cy : Nat → ClassId) (ad : Nat → Nat) : MV l yX1_copyFrom cX1_copyFrom 3 none 2 85 D cy ad [vR b0, vR b1] σ Q := by
  refine m_V (own := RX1) (lv := [(0, vR b0), (1, vR b1)]) (by decide +kernel) rfl (Nat.le_of_ble_eq_true rfl) rfl (fun E hR => ?_) l D cy ad
  unfold wX1_copyFrom at h
  refine g_aload_n dX1_copyFrom_0 rfl ?_
  refine g_aload_n dX1_copyFrom_1 rfl ?_
  refine g_getI fl_1_9 (kd_bk0 hb1) rfl dX1_copyFrom_2 ?_
  refine g_putI fp_1_9 (kd_bk0 hb0) rfl dX1_copyFrom_5 ?_
  refine g_nm (fun m1 em1 => ?_)
  replace h := h m1 em1
  refine g_aload_n dX1_copyFrom_8 rfl ?_
  refine g_getR (r := b1 + 1) fl_1_15 (kd_bk0 hb1) rfl dX1_copyFrom_9 ?_
  refine g_iconst dX1_copyFrom_12 0 rfl (by decide) ?_
  refine g_aload_n dX1_copyFrom_13 rfl ?_
  refine g_getR (r := b0 + 1) fl_1_15 (kd_bk0 hb0) rfl dX1_copyFrom_14 ?_
  refine g_iconst dX1_copyFrom_17 0 rfl (by decide) ?_
  refine g_bipush dX1_copyFrom_18 64 rfl (by decide) ?_
  refine g_acopy q_478 q_480 q_479 q_106 (kd_bk1 hb1) (kd_bk1 hb0) (by decide) (by decide) (Nat.le_of_ble_eq_true rfl) dX1_copyFrom_20 ?_
  refine g_nm (fun m2 em2 => ?_)
  replace h := h m2 em2
  refine g_aload_n dX1_copyFrom_23 rfl ?_
  refine g_getR (r := b1 + 2) fl_1_19 (kd_bk0 hb1) rfl dX1_copyFrom_24 ?_
  refine g_iconst dX1_copyFrom_27 0 rfl (by decide) ?_
  refine g_aload_n dX1_copyFrom_28 rfl ?_
  refine g_getR (r := b0 + 2) fl_1_19 (kd_bk0 hb0) rfl dX1_copyFrom_29 ?_
  refine g_iconst dX1_copyFrom_32 0 rfl (by decide) ?_
  refine g_bipush dX1_copyFrom_33 64 rfl (by decide) ?_
  refine g_acopy q_478 q_480 q_479 q_106 (kd_bk2 hb1) (kd_bk2 hb0) (by decide) (by decide) (Nat.le_of_ble_eq_true rfl) dX1_copyFrom_35 ?_
  refine g_nm (fun m3 em3 => ?_)
  replace h := h m3 em3
  refine g_aload_n dX1_copyFrom_38 rfl ?_
  refine g_getR (r := b1 + 3) fl_1_22 (kd_bk0 hb1) rfl dX1_copyFrom_39 ?_
  refine g_iconst dX1_copyFrom_42 0 rfl (by decide) ?_
  refine g_aload_n dX1_copyFrom_43 rfl ?_
  refine g_getR (r := b0 + 3) fl_1_22 (kd_bk0 hb0) rfl dX1_copyFrom_44 ?_
  refine g_iconst dX1_copyFrom_47 0 rfl (by decide) ?_
  refine g_bipush dX1_copyFrom_48 8 rfl (by decide) ?_
  refine g_acopy q_478 q_480 q_479 q_106 (kd_bk3 hb1) (kd_bk3 hb0) (by decide) (by decide) (Nat.le_of_ble_eq_true rfl) dX1_copyFrom_50 ?_
  refine g_nm (fun m4 em4 => ?_)
  replace h := h m4 em4
  refine g_iconst dX1_copyFrom_53 0 rfl (by decide) ?_
  refine g_istore_n (lv' := [(2, vI 0), (0, vR b0), (1, vR b1)]) dX1_copyFrom_54 (by decide) rfl ?_
  refine g_lv (lv' := [(0, vR b0), (1, vR b1), (2, vI 0)]) [1, 2, 0] rfl ?_
  exact eX1_copyFrom_55 hb0 hb1 hR h
def wX1_has (b0 : Nat) (l1 : Int) (σ : Mem) (Q : Int → Mem → Prop) : Prop := ((l1 < 0 → Q 0 σ) ∧ (¬ l1 < 0 → ((σ b0 0 ≤ l1 → Q 0 σ) ∧ (¬ σ b0 0 ≤ l1 → Q 1 σ))))
set_option maxHeartbeats 1000000 in
theorem kX1_has {b0 : Nat} {l1 : Int} (hb0 : isBk b0) {σ : Mem} {Q : Int → Mem → Prop} (h : wX1_has b0 l1 σ Q) (l : Launch) (D : va_G) (cy : Nat → ClassId) (ad : Nat → Nat) : MI l yX1_has cX1_has 2 (some .boolean) 0 0 D cy ad [vR b0, vI l1] σ Q := by
  refine m_I (own := RX1) (lv := [(0, vR b0), (1, vI l1)]) (by decide +kernel) rfl (Nat.le_of_ble_eq_true rfl) rfl (fun E hR => ?_) l D cy ad
  unfold wX1_has at h
  refine g_iload_n dX1_has_0 rfl ?_
  obtain ⟨hA, hB⟩ := h
  refine g_if_lt (tgt := 16) dX1_has_1 (by decide) (fun hc => ?_) (fun hc => ?_)
  · replace h := hA hc
    refine g_iconst dX1_has_16 0 rfl (by decide) ?_
    exact g_zret hR dX1_has_17 (by decide) h
  · replace h := hB hc
    refine g_iload_n dX1_has_4 rfl ?_
    refine g_aload_n dX1_has_5 rfl ?_
    refine g_getI fl_1_9 (kd_bk0 hb0) rfl dX1_has_6 ?_
    obtain ⟨hA, hB⟩ := h
    refine g_icmp_ge (tgt := 16) dX1_has_9 (by decide) (fun hc => ?_) (fun hc => ?_)
    · replace h := hA hc
      refine g_iconst dX1_has_16 0 rfl (by decide) ?_
      exact g_zret hR dX1_has_17 (by decide) h
    · replace h := hB hc
      refine g_iconst dX1_has_12 1 rfl (by decide) ?_
      refine g_goto (tgt := 17) dX1_has_13 (by decide) ?_
      exact g_zret hR dX1_has_17 (by decide) h
def wX1_hasBoth (b0 : Nat) (l1 : Int) (l2 : Int) (σ : Mem) (Q : Int → Mem → Prop) : Prop := (wX1_has b0 l1 σ (fun y2 m1 => ((y2 = 0 → Q 0 m1) ∧ (¬ y2 = 0 → (wX1_has b0 l2 m1 (fun y4 m3 => ((y4 = 0 → Q 0 m3) ∧ (¬ y4 = 0 → ((l1 = l2 → Q 0 m3) ∧ (¬ l1 = l2 → Q 1 m3))))))))))
set_option maxHeartbeats 1000000 in
theorem kX1_hasBoth {b0 : Nat} {l1 : Int} {l2 : Int} (hb0 : isBk b0) {σ : Mem} {Q : Int → Mem → Prop} (h : wX1_hasBoth b0 l1 l2 σ Q) (l : Launch) (D : va_G) (cy : Nat → ClassId) (ad : Nat → Nat) : MI l yX1_hasBoth cX1_hasBoth 3 (some .boolean) 1 21 D cy ad [vR b0, vI l1, vI l2] σ Q := by
  refine m_I (own := RX1) (lv := [(0, vR b0), (1, vI l1), (2, vI l2)]) (by decide +kernel) rfl (Nat.le_of_ble_eq_true rfl) rfl (fun E hR => ?_) l D cy ad
  unfold wX1_hasBoth at h
  refine g_aload_n dX1_hasBoth_0 rfl ?_
  refine g_iload_n dX1_hasBoth_1 rfl ?_
  refine g_cVi (st := []) (av := [vI l1]) (kX1_has hb0 h) (kd_bk0 hb0) rfl cw_RX1_45 (by decide) (by decide) (Nat.le_of_ble_eq_true rfl) rfl dX1_hasBoth_2 (fun y2 m1 h => ?_)
  obtain ⟨hA, hB⟩ := h
  refine g_if_eq (tgt := 25) dX1_hasBoth_5 (by decide) (fun hc => ?_) (fun hc => ?_)
  · replace h := hA hc
    refine g_iconst dX1_hasBoth_25 0 rfl (by decide) ?_
    exact g_zret hR dX1_hasBoth_26 (by decide) h
  · replace h := hB hc
    refine g_aload_n dX1_hasBoth_8 rfl ?_
    refine g_iload_n dX1_hasBoth_9 rfl ?_
    refine g_cVi (st := []) (av := [vI l2]) (kX1_has hb0 h) (kd_bk0 hb0) rfl cw_RX1_45 (by decide) (by decide) (Nat.le_of_ble_eq_true rfl) rfl dX1_hasBoth_10 (fun y4 m3 h => ?_)
    obtain ⟨hA, hB⟩ := h
    refine g_if_eq (tgt := 25) dX1_hasBoth_13 (by decide) (fun hc => ?_) (fun hc => ?_)
    · replace h := hA hc
      refine g_iconst dX1_hasBoth_25 0 rfl (by decide) ?_
      exact g_zret hR dX1_hasBoth_26 (by decide) h
    · replace h := hB hc
      refine g_iload_n dX1_hasBoth_16 rfl ?_
      refine g_iload_n dX1_hasBoth_17 rfl ?_
      obtain ⟨hA, hB⟩ := h
      refine g_icmp_eq (tgt := 25) dX1_hasBoth_18 (by decide) (fun hc => ?_) (fun hc => ?_)
      · replace h := hA hc
        refine g_iconst dX1_hasBoth_25 0 rfl (by decide) ?_
        exact g_zret hR dX1_hasBoth_26 (by decide) h
      · replace h := hB hc
        refine g_iconst dX1_hasBoth_21 1 rfl (by decide) ?_
        refine g_goto (tgt := 26) dX1_hasBoth_22 (by decide) ?_
        exact g_zret hR dX1_hasBoth_26 (by decide) h
def wX1_owed (b0 : Nat) (l1 : Int) (l2 : Int) (σ : Mem) (Q : Int → Mem → Prop) : Prop := (wX10_at l1 l2 σ (fun y2 m1 => ((0 ≤ y2 ∧ y2 < 64) ∧ Q (max (m1 (b0 + 2) y2.toNat) 0) m1)))
set_option maxHeartbeats 1000000 in
theorem kX1_owed {b0 : Nat} {l1 : Int} {l2 : Int} (hb0 : isBk b0) {σ : Mem} {Q : Int → Mem → Prop} (h : wX1_owed b0 l1 l2 σ Q) (l : Launch) (D : va_G) (cy : Nat → ClassId) (ad : Nat → Nat) : MI l yX1_owed cX1_owed 3 (some .int) 1 24 D cy ad [vR b0, vI l1, vI l2] σ Q := by
  refine m_I (own := RX1) (lv := [(0, vR b0), (1, vI l1), (2, vI l2)]) (by decide +kernel) rfl (Nat.le_of_ble_eq_true rfl) rfl (fun E hR => ?_) l D cy ad
  unfold wX1_owed at h
  refine g_aload_n dX1_owed_0 rfl ?_
  refine g_getR (r := b0 + 2) fl_1_19 (kd_bk0 hb0) rfl dX1_owed_1 ?_
  refine g_iload_n dX1_owed_4 rfl ?_
  refine g_iload_n dX1_owed_5 rfl ?_
  refine g_cNi (st := [vR (b0 + 2)]) (av := [vI l1, vI l2]) (kX10_at h) cw_RX1_49 (by decide) (by decide) (Nat.le_of_ble_eq_true rfl) rfl dX1_owed_6 (fun y2 m1 h => ?_)
  obtain ⟨hin, h⟩ := h
  refine g_iald (kd_bk2 hb0) hin dX1_owed_9 ?_
  refine g_iconst dX1_owed_10 0 rfl (by decide) ?_
  refine g_mmax q_518 q_519 q_107 q_mmax (by decide) (Nat.le_of_ble_eq_true rfl) dX1_owed_11 ?_
  exact g_iret hR dX1_owed_14 h
def wX1_heldBetween_12 (b0 : Nat) (K12 : (Int × Int × Int) → Mem → Prop) (Q : Int → Mem → Prop) (l3 : Int) (l4 : Int) (l5 : Int) (σ : Mem) : Prop := ((4 ≤ l5 → Q l4 σ) ∧ (¬ 4 ≤ l5 → ((0 ≤ l5 ∧ l5 < 4) ∧ ((σ (b0 + 5 + l5.toNat) 2 ≤ 0 → (∀ x2 : Int, x2 = w32 (l5 + 1) → K12 (l3, l4, x2) σ)) ∧ (¬ σ (b0 + 5 + l5.toNat) 2 ≤ 0 → ((0 ≤ l5 ∧ l5 < 4) ∧ ((0 ≤ l3 ∧ l3 < 64) ∧ (∀ x4 : Int, x4 = w32 (l4 + (σ (b0 + 5 + l5.toNat + 4) l3.toNat)) → (∀ x5 : Int, x5 = w32 (l5 + 1) → K12 (l3, x4, x5) σ)))))))))
def wLX1_heldBetween_12 (b0 : Nat) (Q : Int → Mem → Prop) (l3 : Int) (l4 : Int) (l5 : Int) (σ : Mem) : Prop := ∃ n, lp (fun (K12 : (Int × Int × Int) → Mem → Prop) (x : Int × Int × Int) (σ : Mem) => wX1_heldBetween_12 b0 K12 Q x.1 x.2.1 x.2.2 σ) n (l3, l4, l5) σ
def wX1_heldBetween (b0 : Nat) (l1 : Int) (l2 : Int) (σ : Mem) (Q : Int → Mem → Prop) : Prop := (wX10_at l1 l2 σ (fun y2 m1 => wLX1_heldBetween_12 b0 Q y2 0 0 m1))
set_option maxHeartbeats 1000000 in
theorem bX1_heldBetween_12 {E : TE} {b0 : Nat} (hb0 : isBk b0) {K12 : (Int × Int × Int) → Mem → Prop} (hK12 : ∀ (x : Int × Int × Int) (σ : Mem), K12 x σ → GW E cX1_heldBetween 6 RX1 1 21 σ 12 [(0, vR b0), (3, vI x.1), (4, vI x.2.1), (5, vI x.2.2)] []) {Q : Int → Mem → Prop} (hR : RI E (some .int) Q) {l3 : Int} {l4 : Int} {l5 : Int} {σ : Mem} (h : wX1_heldBetween_12 b0 K12 Q l3 l4 l5 σ) : GW E cX1_heldBetween 6 RX1 1 21 σ 12 [(0, vR b0), (3, vI l3), (4, vI l4), (5, vI l5)] [] := by
  unfold wX1_heldBetween_12 at h
  refine g_iload dX1_heldBetween_12 rfl ?_
  refine g_iconst dX1_heldBetween_14 4 rfl (by decide) ?_
  obtain ⟨hA, hB⟩ := h
  refine g_icmp_ge (tgt := 54) dX1_heldBetween_15 (by decide) (fun hc => ?_) (fun hc => ?_)
  · replace h := hA hc
    refine g_iload dX1_heldBetween_54 rfl ?_
    exact g_iret hR dX1_heldBetween_56 h
  · replace h := hB hc
    refine g_aload_n dX1_heldBetween_18 rfl ?_
    refine g_getR (r := b0 + 4) fl_1_27 (kd_bk0 hb0) rfl dX1_heldBetween_19 ?_
    refine g_iload dX1_heldBetween_22 rfl ?_
    obtain ⟨hin, h⟩ := h
    have hi1 := hin
    refine g_aald (kd_bk4 hb0) (Or.inr rfl) hin (ho_r hi1) dX1_heldBetween_24 ?_
    refine g_getI fl_1_32 (kd_ho (ho_of hb0 hi1)) rfl dX1_heldBetween_25 ?_
    obtain ⟨hA, hB⟩ := h
    refine g_if_le (tgt := 48) dX1_heldBetween_28 (by decide) (fun hc => ?_) (fun hc => ?_)
    · replace h := hA hc
      refine g_iinc (lv' := [(5, vI (w32 (l5 + 1))), (0, vR b0), (3, vI l3), (4, vI l4)]) dX1_heldBetween_48 rfl (by decide) rfl ?_
      refine g_loc (a := w32 (l5 + 1)) (i := 5) (lv := [(0, vR b0), (3, vI l3), (4, vI l4)]) (fun x2 ex2 => ?_)
      replace h := h x2 ex2
      refine g_goto (tgt := 12) dX1_heldBetween_51 (by decide) ?_
      refine g_lv (lv' := [(0, vR b0), (3, vI l3), (4, vI l4), (5, vI x2)]) [1, 2, 3, 0] rfl ?_
      exact hK12 ((l3, l4, x2)) σ h
    · replace h := hB hc
      refine g_iload dX1_heldBetween_31 rfl ?_
      refine g_aload_n dX1_heldBetween_33 rfl ?_
      refine g_getR (r := b0 + 4) fl_1_27 (kd_bk0 hb0) rfl dX1_heldBetween_34 ?_
      refine g_iload dX1_heldBetween_37 rfl ?_
      obtain ⟨hin, h⟩ := h
      have hi3 := hin
      refine g_aald (kd_bk4 hb0) (Or.inr rfl) hin (ho_r hi3) dX1_heldBetween_39 ?_
      refine g_getR (r := b0 + 5 + l5.toNat + 4) fl_1_58 (kd_ho (ho_of hb0 hi3)) rfl dX1_heldBetween_40 ?_
      refine g_iload_n dX1_heldBetween_43 rfl ?_
      obtain ⟨hin, h⟩ := h
      refine g_iald (kd_fl (ho_of hb0 hi3)) hin dX1_heldBetween_44 ?_
      refine g_iadd dX1_heldBetween_45 ?_
      refine g_topI (fun x4 ex4 => ?_)
      replace h := h x4 ex4
      refine g_istore (lv' := [(4, vI x4), (0, vR b0), (3, vI l3), (5, vI l5)]) dX1_heldBetween_46 (by decide) rfl ?_
      refine g_iinc (lv' := [(5, vI (w32 (l5 + 1))), (4, vI x4), (0, vR b0), (3, vI l3)]) dX1_heldBetween_48 rfl (by decide) rfl ?_
      refine g_loc (a := w32 (l5 + 1)) (i := 5) (lv := [(4, vI x4), (0, vR b0), (3, vI l3)]) (fun x5 ex5 => ?_)
      replace h := h x5 ex5
      refine g_goto (tgt := 12) dX1_heldBetween_51 (by decide) ?_
      refine g_lv (lv' := [(0, vR b0), (3, vI l3), (4, vI x4), (5, vI x5)]) [2, 3, 1, 0] rfl ?_
      exact hK12 ((l3, x4, x5)) σ h
theorem eX1_heldBetween_12 {E : TE} {b0 : Nat} (hb0 : isBk b0) {Q : Int → Mem → Prop} (hR : RI E (some .int) Q) {l3 : Int} {l4 : Int} {l5 : Int} {σ : Mem} (h : wLX1_heldBetween_12 b0 Q l3 l4 l5 σ) : GW E cX1_heldBetween 6 RX1 1 21 σ 12 [(0, vR b0), (3, vI l3), (4, vI l4), (5, vI l5)] [] := by
  obtain ⟨n, h⟩ := h
  exact lp_GW (P := fun (x : Int × Int × Int) (σ : Mem) => GW E cX1_heldBetween 6 RX1 1 21 σ 12 [(0, vR b0), (3, vI x.1), (4, vI x.2.1), (5, vI x.2.2)] []) (fun K hK x σ h  => bX1_heldBetween_12 hb0 hK hR h) n _ σ h 
set_option maxHeartbeats 1000000 in
theorem kX1_heldBetween {b0 : Nat} {l1 : Int} {l2 : Int} (hb0 : isBk b0) {σ : Mem} {Q : Int → Mem → Prop} (h : wX1_heldBetween b0 l1 l2 σ Q) (l : Launch) (D : va_G) (cy : Nat → ClassId) (ad : Nat → Nat) : MI l yX1_heldBetween cX1_heldBetween 6 (some .int) 1 21 D cy ad [vR b0, vI l1, vI l2] σ Q := by
  refine m_I (own := RX1) (lv := [(0, vR b0), (1, vI l1), (2, vI l2)]) (by decide +kernel) rfl (Nat.le_of_ble_eq_true rfl) rfl (fun E hR => ?_) l D cy ad
  unfold wX1_heldBetween at h
  refine g_iload_n dX1_heldBetween_0 rfl ?_
  refine g_iload_n dX1_heldBetween_1 rfl ?_
  refine g_cNi (st := []) (av := [vI l1, vI l2]) (kX10_at h) cw_RX1_49 (by decide) (by decide) (Nat.le_of_ble_eq_true rfl) rfl dX1_heldBetween_2 (fun y2 m1 h => ?_)
  refine g_istore_n (lv' := [(3, vI y2), (0, vR b0), (1, vI l1), (2, vI l2)]) dX1_heldBetween_5 (by decide) rfl ?_
  refine g_iconst dX1_heldBetween_6 0 rfl (by decide) ?_
  refine g_istore (lv' := [(4, vI 0), (3, vI y2), (0, vR b0), (1, vI l1), (2, vI l2)]) dX1_heldBetween_7 (by decide) rfl ?_
  refine g_iconst dX1_heldBetween_9 0 rfl (by decide) ?_
  refine g_istore (lv' := [(5, vI 0), (4, vI 0), (3, vI y2), (0, vR b0), (1, vI l1), (2, vI l2)]) dX1_heldBetween_10 (by decide) rfl ?_
  refine g_lv (lv' := [(0, vR b0), (3, vI y2), (4, vI 0), (5, vI 0)]) [3, 2, 1, 0] rfl ?_
  exact eX1_heldBetween_12 hb0 hR h
def wX1_room (b0 : Nat) (l1 : Int) (l2 : Int) (σ : Mem) (Q : Int → Mem → Prop) : Prop := (wX10_at l2 l1 σ (fun y2 m1 => ((0 ≤ y2 ∧ y2 < 64) ∧ (wX10_at l1 l2 m1 (fun y4 m3 => ((0 ≤ y4 ∧ y4 < 64) ∧ (wX1_heldBetween b0 l1 l2 m3 (fun y6 m5 => Q (w32 ((w32 ((m1 (b0 + 1) y2.toNat) - (m3 (b0 + 2) y4.toNat))) - y6)) m5))))))))
set_option maxHeartbeats 1000000 in
theorem kX1_room {b0 : Nat} {l1 : Int} {l2 : Int} (hb0 : isBk b0) {σ : Mem} {Q : Int → Mem → Prop} (h : wX1_room b0 l1 l2 σ Q) (l : Launch) (D : va_G) (cy : Nat → ClassId) (ad : Nat → Nat) : MI l yX1_room cX1_room 3 (some .int) 2 46 D cy ad [vR b0, vI l1, vI l2] σ Q := by
  refine m_I (own := RX1) (lv := [(0, vR b0), (1, vI l1), (2, vI l2)]) (by decide +kernel) rfl (Nat.le_of_ble_eq_true rfl) rfl (fun E hR => ?_) l D cy ad
  unfold wX1_room at h
  refine g_aload_n dX1_room_0 rfl ?_
  refine g_getR (r := b0 + 1) fl_1_15 (kd_bk0 hb0) rfl dX1_room_1 ?_
  refine g_iload_n dX1_room_4 rfl ?_
  refine g_iload_n dX1_room_5 rfl ?_
  refine g_cNi (st := [vR (b0 + 1)]) (av := [vI l2, vI l1]) (kX10_at h) cw_RX1_49 (by decide) (by decide) (Nat.le_of_ble_eq_true rfl) rfl dX1_room_6 (fun y2 m1 h => ?_)
  obtain ⟨hin, h⟩ := h
  refine g_iald (kd_bk1 hb0) hin dX1_room_9 ?_
  refine g_aload_n dX1_room_10 rfl ?_
  refine g_getR (r := b0 + 2) fl_1_19 (kd_bk0 hb0) rfl dX1_room_11 ?_
  refine g_iload_n dX1_room_14 rfl ?_
  refine g_iload_n dX1_room_15 rfl ?_
  refine g_cNi (st := [vR (b0 + 2), vI (m1 (b0 + 1) y2.toNat)]) (av := [vI l1, vI l2]) (kX10_at h) cw_RX1_49 (by decide) (by decide) (Nat.le_of_ble_eq_true rfl) rfl dX1_room_16 (fun y4 m3 h => ?_)
  obtain ⟨hin, h⟩ := h
  refine g_iald (kd_bk2 hb0) hin dX1_room_19 ?_
  refine g_isub dX1_room_20 ?_
  refine g_aload_n dX1_room_21 rfl ?_
  refine g_iload_n dX1_room_22 rfl ?_
  refine g_iload_n dX1_room_23 rfl ?_
  refine g_cVi (st := [vI (w32 ((m1 (b0 + 1) y2.toNat) - (m3 (b0 + 2) y4.toNat)))]) (av := [vI l1, vI l2]) (kX1_heldBetween hb0 h) (kd_bk0 hb0) rfl cw_RX1_61 (by decide) (by decide) (Nat.le_of_ble_eq_true rfl) rfl dX1_room_24 (fun y6 m5 h => ?_)
  refine g_isub dX1_room_27 ?_
  exact g_iret hR dX1_room_28 h
def wX1_payStraight (b0 : Nat) (l1 : Int) (l2 : Int) (l3 : Int) (σ : Mem) (Q : Mem → Prop) : Prop := (wX10_at l1 l2 σ (fun y2 m1 => ((0 ≤ y2 ∧ y2 < 64) ∧ ((0 ≤ y2 ∧ y2 < 64) ∧ (∀ m3 : Mem, m3 = up2 m1 (b0 + 2) y2.toNat (w32 ((m1 (b0 + 2) y2.toNat) + l3)) → (wX10_at l2 l1 m3 (fun y5 m4 => ((0 ≤ y5 ∧ y5 < 64) ∧ ((0 ≤ y5 ∧ y5 < 64) ∧ (∀ m6 : Mem, m6 = up2 m4 (b0 + 2) y5.toNat (w32 ((m4 (b0 + 2) y5.toNat) - l3)) → Q m6))))))))))
set_option maxHeartbeats 1000000 in
theorem kX1_payStraight {b0 : Nat} {l1 : Int} {l2 : Int} {l3 : Int} (hb0 : isBk b0) {σ : Mem} {Q : Mem → Prop} (h : wX1_payStraight b0 l1 l2 l3 σ Q) (l : Launch) (D : va_G) (cy : Nat → ClassId) (ad : Nat → Nat) : MV l yX1_payStraight cX1_payStraight 4 none 1 21 D cy ad [vR b0, vI l1, vI l2, vI l3] σ Q := by
  refine m_V (own := RX1) (lv := [(0, vR b0), (1, vI l1), (2, vI l2), (3, vI l3)]) (by decide +kernel) rfl (Nat.le_of_ble_eq_true rfl) rfl (fun E hR => ?_) l D cy ad
  unfold wX1_payStraight at h
  refine g_aload_n dX1_payStraight_0 rfl ?_
  refine g_getR (r := b0 + 2) fl_1_19 (kd_bk0 hb0) rfl dX1_payStraight_1 ?_
  refine g_iload_n dX1_payStraight_4 rfl ?_
  refine g_iload_n dX1_payStraight_5 rfl ?_
  refine g_cNi (st := [vR (b0 + 2)]) (av := [vI l1, vI l2]) (kX10_at h) cw_RX1_49 (by decide) (by decide) (Nat.le_of_ble_eq_true rfl) rfl dX1_payStraight_6 (fun y2 m1 h => ?_)
  refine g_dup2 dX1_payStraight_9 rfl rfl ?_
  obtain ⟨hin, h⟩ := h
  refine g_iald (kd_bk2 hb0) hin dX1_payStraight_10 ?_
  refine g_iload_n dX1_payStraight_11 rfl ?_
  refine g_iadd dX1_payStraight_12 ?_
  obtain ⟨hin, h⟩ := h
  refine g_iast (kd_bk2 hb0) hin dX1_payStraight_13 ?_
  refine g_nm (fun m3 em3 => ?_)
  replace h := h m3 em3
  refine g_aload_n dX1_payStraight_14 rfl ?_
  refine g_getR (r := b0 + 2) fl_1_19 (kd_bk0 hb0) rfl dX1_payStraight_15 ?_
  refine g_iload_n dX1_payStraight_18 rfl ?_
  refine g_iload_n dX1_payStraight_19 rfl ?_
  refine g_cNi (st := [vR (b0 + 2)]) (av := [vI l2, vI l1]) (kX10_at h) cw_RX1_49 (by decide) (by decide) (Nat.le_of_ble_eq_true rfl) rfl dX1_payStraight_20 (fun y5 m4 h => ?_)
  refine g_dup2 dX1_payStraight_23 rfl rfl ?_
  obtain ⟨hin, h⟩ := h
  refine g_iald (kd_bk2 hb0) hin dX1_payStraight_24 ?_
  refine g_iload_n dX1_payStraight_25 rfl ?_
  refine g_isub dX1_payStraight_26 ?_
  obtain ⟨hin, h⟩ := h
  refine g_iast (kd_bk2 hb0) hin dX1_payStraight_27 ?_
  refine g_nm (fun m6 em6 => ?_)
  replace h := h m6 em6
  exact g_vret hR dX1_payStraight_28 h
def wX1_owedInAll_4 (b0 : Nat) (K4 : (Int × Int) → Mem → Prop) (Q : Int → Mem → Prop) (l1 : Int) (l2 : Int) (σ : Mem) : Prop := ((64 ≤ l2 → Q l1 σ) ∧ (¬ 64 ≤ l2 → ((0 ≤ l2 ∧ l2 < 64) ∧ (∀ x1 : Int, x1 = w32 (l1 + (max (σ (b0 + 2) l2.toNat) 0)) → (∀ x2 : Int, x2 = w32 (l2 + 1) → K4 (x1, x2) σ)))))
def wLX1_owedInAll_4 (b0 : Nat) (Q : Int → Mem → Prop) (l1 : Int) (l2 : Int) (σ : Mem) : Prop := ∃ n, lp (fun (K4 : (Int × Int) → Mem → Prop) (x : Int × Int) (σ : Mem) => wX1_owedInAll_4 b0 K4 Q x.1 x.2 σ) n (l1, l2) σ
def wX1_owedInAll (b0 : Nat) (σ : Mem) (Q : Int → Mem → Prop) : Prop := wLX1_owedInAll_4 b0 Q 0 0 σ
set_option maxHeartbeats 1000000 in
theorem bX1_owedInAll_4 {E : TE} {b0 : Nat} (hb0 : isBk b0) {K4 : (Int × Int) → Mem → Prop} (hK4 : ∀ (x : Int × Int) (σ : Mem), K4 x σ → GW E cX1_owedInAll 3 RX1 1 24 σ 4 [(0, vR b0), (1, vI x.1), (2, vI x.2)] []) {Q : Int → Mem → Prop} (hR : RI E (some .int) Q) {l1 : Int} {l2 : Int} {σ : Mem} (h : wX1_owedInAll_4 b0 K4 Q l1 l2 σ) : GW E cX1_owedInAll 3 RX1 1 24 σ 4 [(0, vR b0), (1, vI l1), (2, vI l2)] [] := by
  unfold wX1_owedInAll_4 at h
  refine g_iload_n dX1_owedInAll_4 rfl ?_
  refine g_bipush dX1_owedInAll_5 64 rfl (by decide) ?_
  obtain ⟨hA, hB⟩ := h
  refine g_icmp_ge (tgt := 29) dX1_owedInAll_7 (by decide) (fun hc => ?_) (fun hc => ?_)
  · replace h := hA hc
    refine g_iload_n dX1_owedInAll_29 rfl ?_
    exact g_iret hR dX1_owedInAll_30 h
  · replace h := hB hc
    refine g_iload_n dX1_owedInAll_10 rfl ?_
    refine g_aload_n dX1_owedInAll_11 rfl ?_
    refine g_getR (r := b0 + 2) fl_1_19 (kd_bk0 hb0) rfl dX1_owedInAll_12 ?_
    refine g_iload_n dX1_owedInAll_15 rfl ?_
    obtain ⟨hin, h⟩ := h
    refine g_iald (kd_bk2 hb0) hin dX1_owedInAll_16 ?_
    refine g_iconst dX1_owedInAll_17 0 rfl (by decide) ?_
    refine g_mmax q_518 q_519 q_107 q_mmax (by decide) (Nat.le_of_ble_eq_true rfl) dX1_owedInAll_18 ?_
    refine g_iadd dX1_owedInAll_21 ?_
    refine g_topI (fun x1 ex1 => ?_)
    replace h := h x1 ex1
    refine g_istore_n (lv' := [(1, vI x1), (0, vR b0), (2, vI l2)]) dX1_owedInAll_22 (by decide) rfl ?_
    refine g_iinc (lv' := [(2, vI (w32 (l2 + 1))), (1, vI x1), (0, vR b0)]) dX1_owedInAll_23 rfl (by decide) rfl ?_
    refine g_loc (a := w32 (l2 + 1)) (i := 2) (lv := [(1, vI x1), (0, vR b0)]) (fun x2 ex2 => ?_)
    replace h := h x2 ex2
    refine g_goto (tgt := 4) dX1_owedInAll_26 (by decide) ?_
    refine g_lv (lv' := [(0, vR b0), (1, vI x1), (2, vI x2)]) [2, 1, 0] rfl ?_
    exact hK4 ((x1, x2)) σ h
theorem eX1_owedInAll_4 {E : TE} {b0 : Nat} (hb0 : isBk b0) {Q : Int → Mem → Prop} (hR : RI E (some .int) Q) {l1 : Int} {l2 : Int} {σ : Mem} (h : wLX1_owedInAll_4 b0 Q l1 l2 σ) : GW E cX1_owedInAll 3 RX1 1 24 σ 4 [(0, vR b0), (1, vI l1), (2, vI l2)] [] := by
  obtain ⟨n, h⟩ := h
  exact lp_GW (P := fun (x : Int × Int) (σ : Mem) => GW E cX1_owedInAll 3 RX1 1 24 σ 4 [(0, vR b0), (1, vI x.1), (2, vI x.2)] []) (fun K hK x σ h  => bX1_owedInAll_4 hb0 hK hR h) n _ σ h 
set_option maxHeartbeats 1000000 in
theorem kX1_owedInAll {b0 : Nat} (hb0 : isBk b0) {σ : Mem} {Q : Int → Mem → Prop} (h : wX1_owedInAll b0 σ Q) (l : Launch) (D : va_G) (cy : Nat → ClassId) (ad : Nat → Nat) : MI l yX1_owedInAll cX1_owedInAll 3 (some .int) 1 24 D cy ad [vR b0] σ Q := by
  refine m_I (own := RX1) (lv := [(0, vR b0)]) (by decide +kernel) rfl (Nat.le_of_ble_eq_true rfl) rfl (fun E hR => ?_) l D cy ad
  unfold wX1_owedInAll at h
  refine g_iconst dX1_owedInAll_0 0 rfl (by decide) ?_
  refine g_istore_n (lv' := [(1, vI 0), (0, vR b0)]) dX1_owedInAll_1 (by decide) rfl ?_
  refine g_iconst dX1_owedInAll_2 0 rfl (by decide) ?_
  refine g_istore_n (lv' := [(2, vI 0), (1, vI 0), (0, vR b0)]) dX1_owedInAll_3 (by decide) rfl ?_
  refine g_lv (lv' := [(0, vR b0), (1, vI 0), (2, vI 0)]) [2, 1, 0] rfl ?_
  exact eX1_owedInAll_4 hb0 hR h
def wX1_limitsInAll_4 (b0 : Nat) (K4 : (Int × Int) → Mem → Prop) (Q : Int → Mem → Prop) (l1 : Int) (l2 : Int) (σ : Mem) : Prop := ((64 ≤ l2 → Q l1 σ) ∧ (¬ 64 ≤ l2 → ((0 ≤ l2 ∧ l2 < 64) ∧ (∀ x1 : Int, x1 = w32 (l1 + (σ (b0 + 1) l2.toNat)) → (∀ x2 : Int, x2 = w32 (l2 + 1) → K4 (x1, x2) σ)))))
def wLX1_limitsInAll_4 (b0 : Nat) (Q : Int → Mem → Prop) (l1 : Int) (l2 : Int) (σ : Mem) : Prop := ∃ n, lp (fun (K4 : (Int × Int) → Mem → Prop) (x : Int × Int) (σ : Mem) => wX1_limitsInAll_4 b0 K4 Q x.1 x.2 σ) n (l1, l2) σ
def wX1_limitsInAll (b0 : Nat) (σ : Mem) (Q : Int → Mem → Prop) : Prop := wLX1_limitsInAll_4 b0 Q 0 0 σ
set_option maxHeartbeats 1000000 in
theorem bX1_limitsInAll_4 {E : TE} {b0 : Nat} (hb0 : isBk b0) {K4 : (Int × Int) → Mem → Prop} (hK4 : ∀ (x : Int × Int) (σ : Mem), K4 x σ → GW E cX1_limitsInAll 3 RX1 0 0 σ 4 [(0, vR b0), (1, vI x.1), (2, vI x.2)] []) {Q : Int → Mem → Prop} (hR : RI E (some .int) Q) {l1 : Int} {l2 : Int} {σ : Mem} (h : wX1_limitsInAll_4 b0 K4 Q l1 l2 σ) : GW E cX1_limitsInAll 3 RX1 0 0 σ 4 [(0, vR b0), (1, vI l1), (2, vI l2)] [] := by
  unfold wX1_limitsInAll_4 at h
  refine g_iload_n dX1_limitsInAll_4 rfl ?_
  refine g_bipush dX1_limitsInAll_5 64 rfl (by decide) ?_
  obtain ⟨hA, hB⟩ := h
  refine g_icmp_ge (tgt := 25) dX1_limitsInAll_7 (by decide) (fun hc => ?_) (fun hc => ?_)
  · replace h := hA hc
    refine g_iload_n dX1_limitsInAll_25 rfl ?_
    exact g_iret hR dX1_limitsInAll_26 h
  · replace h := hB hc
    refine g_iload_n dX1_limitsInAll_10 rfl ?_
    refine g_aload_n dX1_limitsInAll_11 rfl ?_
    refine g_getR (r := b0 + 1) fl_1_15 (kd_bk0 hb0) rfl dX1_limitsInAll_12 ?_
    refine g_iload_n dX1_limitsInAll_15 rfl ?_
    obtain ⟨hin, h⟩ := h
    refine g_iald (kd_bk1 hb0) hin dX1_limitsInAll_16 ?_
    refine g_iadd dX1_limitsInAll_17 ?_
    refine g_topI (fun x1 ex1 => ?_)
    replace h := h x1 ex1
    refine g_istore_n (lv' := [(1, vI x1), (0, vR b0), (2, vI l2)]) dX1_limitsInAll_18 (by decide) rfl ?_
    refine g_iinc (lv' := [(2, vI (w32 (l2 + 1))), (1, vI x1), (0, vR b0)]) dX1_limitsInAll_19 rfl (by decide) rfl ?_
    refine g_loc (a := w32 (l2 + 1)) (i := 2) (lv := [(1, vI x1), (0, vR b0)]) (fun x2 ex2 => ?_)
    replace h := h x2 ex2
    refine g_goto (tgt := 4) dX1_limitsInAll_22 (by decide) ?_
    refine g_lv (lv' := [(0, vR b0), (1, vI x1), (2, vI x2)]) [2, 1, 0] rfl ?_
    exact hK4 ((x1, x2)) σ h
theorem eX1_limitsInAll_4 {E : TE} {b0 : Nat} (hb0 : isBk b0) {Q : Int → Mem → Prop} (hR : RI E (some .int) Q) {l1 : Int} {l2 : Int} {σ : Mem} (h : wLX1_limitsInAll_4 b0 Q l1 l2 σ) : GW E cX1_limitsInAll 3 RX1 0 0 σ 4 [(0, vR b0), (1, vI l1), (2, vI l2)] [] := by
  obtain ⟨n, h⟩ := h
  exact lp_GW (P := fun (x : Int × Int) (σ : Mem) => GW E cX1_limitsInAll 3 RX1 0 0 σ 4 [(0, vR b0), (1, vI x.1), (2, vI x.2)] []) (fun K hK x σ h  => bX1_limitsInAll_4 hb0 hK hR h) n _ σ h 
set_option maxHeartbeats 1000000 in
theorem kX1_limitsInAll {b0 : Nat} (hb0 : isBk b0) {σ : Mem} {Q : Int → Mem → Prop} (h : wX1_limitsInAll b0 σ Q) (l : Launch) (D : va_G) (cy : Nat → ClassId) (ad : Nat → Nat) : MI l yX1_limitsInAll cX1_limitsInAll 3 (some .int) 0 0 D cy ad [vR b0] σ Q := by
  refine m_I (own := RX1) (lv := [(0, vR b0)]) (by decide +kernel) rfl (Nat.le_of_ble_eq_true rfl) rfl (fun E hR => ?_) l D cy ad
  unfold wX1_limitsInAll at h
  refine g_iconst dX1_limitsInAll_0 0 rfl (by decide) ?_
  refine g_istore_n (lv' := [(1, vI 0), (0, vR b0)]) dX1_limitsInAll_1 (by decide) rfl ?_
  refine g_iconst dX1_limitsInAll_2 0 rfl (by decide) ?_
  refine g_istore_n (lv' := [(2, vI 0), (1, vI 0), (0, vR b0)]) dX1_limitsInAll_3 (by decide) rfl ?_
  refine g_lv (lv' := [(0, vR b0), (1, vI 0), (2, vI 0)]) [2, 1, 0] rfl ?_
  exact eX1_limitsInAll_4 hb0 hR h
def wX1_openLines_25 (b0 : Nat) (K4 : (Int × Int) → Mem → Prop) (Q : Int → Mem → Prop) (l2 : Int) (s0 : Int) (s1 : Int) (σ : Mem) : Prop := (∀ x1 : Int, x1 = w32 (s1 + s0) → (∀ x2 : Int, x2 = w32 (l2 + 1) → K4 (x1, x2) σ))
def wX1_openLines_4 (b0 : Nat) (K4 : (Int × Int) → Mem → Prop) (Q : Int → Mem → Prop) (l1 : Int) (l2 : Int) (σ : Mem) : Prop := ((64 ≤ l2 → Q l1 σ) ∧ (¬ 64 ≤ l2 → ((0 ≤ l2 ∧ l2 < 64) ∧ ((σ (b0 + 1) l2.toNat ≤ 0 → wX1_openLines_25 b0 K4 Q l2 0 l1 σ) ∧ (¬ σ (b0 + 1) l2.toNat ≤ 0 → wX1_openLines_25 b0 K4 Q l2 1 l1 σ)))))
def wLX1_openLines_4 (b0 : Nat) (Q : Int → Mem → Prop) (l1 : Int) (l2 : Int) (σ : Mem) : Prop := ∃ n, lp (fun (K4 : (Int × Int) → Mem → Prop) (x : Int × Int) (σ : Mem) => wX1_openLines_4 b0 K4 Q x.1 x.2 σ) n (l1, l2) σ
def wX1_openLines (b0 : Nat) (σ : Mem) (Q : Int → Mem → Prop) : Prop := wLX1_openLines_4 b0 Q 0 0 σ
set_option maxHeartbeats 1000000 in
theorem bX1_openLines_25 {E : TE} {b0 : Nat} (hb0 : isBk b0) {K4 : (Int × Int) → Mem → Prop} (hK4 : ∀ (x : Int × Int) (σ : Mem), K4 x σ → GW E cX1_openLines 3 RX1 0 0 σ 4 [(0, vR b0), (1, vI x.1), (2, vI x.2)] []) {Q : Int → Mem → Prop} (hR : RI E (some .int) Q) {l2 : Int} {s0 : Int} {s1 : Int} {σ : Mem} (h : wX1_openLines_25 b0 K4 Q l2 s0 s1 σ) : GW E cX1_openLines 3 RX1 0 0 σ 25 [(0, vR b0), (2, vI l2)] [vI s0, vI s1] := by
  unfold wX1_openLines_25 at h
  refine g_iadd dX1_openLines_25 ?_
  refine g_topI (fun x1 ex1 => ?_)
  replace h := h x1 ex1
  refine g_istore_n (lv' := [(1, vI x1), (0, vR b0), (2, vI l2)]) dX1_openLines_26 (by decide) rfl ?_
  refine g_iinc (lv' := [(2, vI (w32 (l2 + 1))), (1, vI x1), (0, vR b0)]) dX1_openLines_27 rfl (by decide) rfl ?_
  refine g_loc (a := w32 (l2 + 1)) (i := 2) (lv := [(1, vI x1), (0, vR b0)]) (fun x2 ex2 => ?_)
  replace h := h x2 ex2
  refine g_goto (tgt := 4) dX1_openLines_30 (by decide) ?_
  refine g_lv (lv' := [(0, vR b0), (1, vI x1), (2, vI x2)]) [2, 1, 0] rfl ?_
  exact hK4 ((x1, x2)) σ h
set_option maxHeartbeats 1000000 in
theorem bX1_openLines_4 {E : TE} {b0 : Nat} (hb0 : isBk b0) {K4 : (Int × Int) → Mem → Prop} (hK4 : ∀ (x : Int × Int) (σ : Mem), K4 x σ → GW E cX1_openLines 3 RX1 0 0 σ 4 [(0, vR b0), (1, vI x.1), (2, vI x.2)] []) {Q : Int → Mem → Prop} (hR : RI E (some .int) Q) {l1 : Int} {l2 : Int} {σ : Mem} (h : wX1_openLines_4 b0 K4 Q l1 l2 σ) : GW E cX1_openLines 3 RX1 0 0 σ 4 [(0, vR b0), (1, vI l1), (2, vI l2)] [] := by
  unfold wX1_openLines_4 at h
  refine g_iload_n dX1_openLines_4 rfl ?_
  refine g_bipush dX1_openLines_5 64 rfl (by decide) ?_
  obtain ⟨hA, hB⟩ := h
  refine g_icmp_ge (tgt := 33) dX1_openLines_7 (by decide) (fun hc => ?_) (fun hc => ?_)
  · replace h := hA hc
    refine g_iload_n dX1_openLines_33 rfl ?_
    exact g_iret hR dX1_openLines_34 h
  · replace h := hB hc
    refine g_iload_n dX1_openLines_10 rfl ?_
    refine g_aload_n dX1_openLines_11 rfl ?_
    refine g_getR (r := b0 + 1) fl_1_15 (kd_bk0 hb0) rfl dX1_openLines_12 ?_
    refine g_iload_n dX1_openLines_15 rfl ?_
    obtain ⟨hin, h⟩ := h
    refine g_iald (kd_bk1 hb0) hin dX1_openLines_16 ?_
    obtain ⟨hA, hB⟩ := h
    refine g_if_le (tgt := 24) dX1_openLines_17 (by decide) (fun hc => ?_) (fun hc => ?_)
    · replace h := hA hc
      refine g_iconst dX1_openLines_24 0 rfl (by decide) ?_
      refine g_lv (lv' := [(0, vR b0), (2, vI l2)]) [0, 2] rfl ?_
      exact bX1_openLines_25 hb0 hK4 hR h
    · replace h := hB hc
      refine g_iconst dX1_openLines_20 1 rfl (by decide) ?_
      refine g_goto (tgt := 25) dX1_openLines_21 (by decide) ?_
      refine g_lv (lv' := [(0, vR b0), (2, vI l2)]) [0, 2] rfl ?_
      exact bX1_openLines_25 hb0 hK4 hR h
theorem eX1_openLines_4 {E : TE} {b0 : Nat} (hb0 : isBk b0) {Q : Int → Mem → Prop} (hR : RI E (some .int) Q) {l1 : Int} {l2 : Int} {σ : Mem} (h : wLX1_openLines_4 b0 Q l1 l2 σ) : GW E cX1_openLines 3 RX1 0 0 σ 4 [(0, vR b0), (1, vI l1), (2, vI l2)] [] := by
  obtain ⟨n, h⟩ := h
  exact lp_GW (P := fun (x : Int × Int) (σ : Mem) => GW E cX1_openLines 3 RX1 0 0 σ 4 [(0, vR b0), (1, vI x.1), (2, vI x.2)] []) (fun K hK x σ h  => bX1_openLines_4 hb0 hK hR h) n _ σ h 
set_option maxHeartbeats 1000000 in
theorem kX1_openLines {b0 : Nat} (hb0 : isBk b0) {σ : Mem} {Q : Int → Mem → Prop} (h : wX1_openLines b0 σ Q) (l : Launch) (D : va_G) (cy : Nat → ClassId) (ad : Nat → Nat) : MI l yX1_openLines cX1_openLines 3 (some .int) 0 0 D cy ad [vR b0] σ Q := by
  refine m_I (own := RX1) (lv := [(0, vR b0)]) (by decide +kernel) rfl (Nat.le_of_ble_eq_true rfl) rfl (fun E hR => ?_) l D cy ad
  unfold wX1_openLines at h
  refine g_iconst dX1_openLines_0 0 rfl (by decide) ?_
  refine g_istore_n (lv' := [(1, vI 0), (0, vR b0)]) dX1_openLines_1 (by decide) rfl ?_
  refine g_iconst dX1_openLines_2 0 rfl (by decide) ?_
  refine g_istore_n (lv' := [(2, vI 0), (1, vI 0), (0, vR b0)]) dX1_openLines_3 (by decide) rfl ?_
  refine g_lv (lv' := [(0, vR b0), (1, vI 0), (2, vI 0)]) [2, 1, 0] rfl ?_
  exact eX1_openLines_4 hb0 hR h
def wX1_stockInAll_4 (b0 : Nat) (K4 : (Int × Int) → Mem → Prop) (Q : Int → Mem → Prop) (l1 : Int) (l2 : Int) (σ : Mem) : Prop := ((8 ≤ l2 → Q l1 σ) ∧ (¬ 8 ≤ l2 → ((0 ≤ l2 ∧ l2 < 8) ∧ (∀ x1 : Int, x1 = w32 (l1 + (σ (b0 + 3) l2.toNat)) → (∀ x2 : Int, x2 = w32 (l2 + 1) → K4 (x1, x2) σ)))))
def wLX1_stockInAll_4 (b0 : Nat) (Q : Int → Mem → Prop) (l1 : Int) (l2 : Int) (σ : Mem) : Prop := ∃ n, lp (fun (K4 : (Int × Int) → Mem → Prop) (x : Int × Int) (σ : Mem) => wX1_stockInAll_4 b0 K4 Q x.1 x.2 σ) n (l1, l2) σ
def wX1_stockInAll (b0 : Nat) (σ : Mem) (Q : Int → Mem → Prop) : Prop := wLX1_stockInAll_4 b0 Q 0 0 σ
set_option maxHeartbeats 1000000 in
theorem bX1_stockInAll_4 {E : TE} {b0 : Nat} (hb0 : isBk b0) {K4 : (Int × Int) → Mem → Prop} (hK4 : ∀ (x : Int × Int) (σ : Mem), K4 x σ → GW E cX1_stockInAll 3 RX1 0 0 σ 4 [(0, vR b0), (1, vI x.1), (2, vI x.2)] []) {Q : Int → Mem → Prop} (hR : RI E (some .int) Q) {l1 : Int} {l2 : Int} {σ : Mem} (h : wX1_stockInAll_4 b0 K4 Q l1 l2 σ) : GW E cX1_stockInAll 3 RX1 0 0 σ 4 [(0, vR b0), (1, vI l1), (2, vI l2)] [] := by
  unfold wX1_stockInAll_4 at h
  refine g_iload_n dX1_stockInAll_4 rfl ?_
  refine g_bipush dX1_stockInAll_5 8 rfl (by decide) ?_
  obtain ⟨hA, hB⟩ := h
  refine g_icmp_ge (tgt := 25) dX1_stockInAll_7 (by decide) (fun hc => ?_) (fun hc => ?_)
  · replace h := hA hc
    refine g_iload_n dX1_stockInAll_25 rfl ?_
    exact g_iret hR dX1_stockInAll_26 h
  · replace h := hB hc
    refine g_iload_n dX1_stockInAll_10 rfl ?_
    refine g_aload_n dX1_stockInAll_11 rfl ?_
    refine g_getR (r := b0 + 3) fl_1_22 (kd_bk0 hb0) rfl dX1_stockInAll_12 ?_
    refine g_iload_n dX1_stockInAll_15 rfl ?_
    obtain ⟨hin, h⟩ := h
    refine g_iald (kd_bk3 hb0) hin dX1_stockInAll_16 ?_
    refine g_iadd dX1_stockInAll_17 ?_
    refine g_topI (fun x1 ex1 => ?_)
    replace h := h x1 ex1
    refine g_istore_n (lv' := [(1, vI x1), (0, vR b0), (2, vI l2)]) dX1_stockInAll_18 (by decide) rfl ?_
    refine g_iinc (lv' := [(2, vI (w32 (l2 + 1))), (1, vI x1), (0, vR b0)]) dX1_stockInAll_19 rfl (by decide) rfl ?_
    refine g_loc (a := w32 (l2 + 1)) (i := 2) (lv := [(1, vI x1), (0, vR b0)]) (fun x2 ex2 => ?_)
    replace h := h x2 ex2
    refine g_goto (tgt := 4) dX1_stockInAll_22 (by decide) ?_
    refine g_lv (lv' := [(0, vR b0), (1, vI x1), (2, vI x2)]) [2, 1, 0] rfl ?_
    exact hK4 ((x1, x2)) σ h
theorem eX1_stockInAll_4 {E : TE} {b0 : Nat} (hb0 : isBk b0) {Q : Int → Mem → Prop} (hR : RI E (some .int) Q) {l1 : Int} {l2 : Int} {σ : Mem} (h : wLX1_stockInAll_4 b0 Q l1 l2 σ) : GW E cX1_stockInAll 3 RX1 0 0 σ 4 [(0, vR b0), (1, vI l1), (2, vI l2)] [] := by
  obtain ⟨n, h⟩ := h
  exact lp_GW (P := fun (x : Int × Int) (σ : Mem) => GW E cX1_stockInAll 3 RX1 0 0 σ 4 [(0, vR b0), (1, vI x.1), (2, vI x.2)] []) (fun K hK x σ h  => bX1_stockInAll_4 hb0 hK hR h) n _ σ h 
set_option maxHeartbeats 1000000 in
theorem kX1_stockInAll {b0 : Nat} (hb0 : isBk b0) {σ : Mem} {Q : Int → Mem → Prop} (h : wX1_stockInAll b0 σ Q) (l : Launch) (D : va_G) (cy : Nat → ClassId) (ad : Nat → Nat) : MI l yX1_stockInAll cX1_stockInAll 3 (some .int) 0 0 D cy ad [vR b0] σ Q := by
  refine m_I (own := RX1) (lv := [(0, vR b0)]) (by decide +kernel) rfl (Nat.le_of_ble_eq_true rfl) rfl (fun E hR => ?_) l D cy ad
  unfold wX1_stockInAll at h
  refine g_iconst dX1_stockInAll_0 0 rfl (by decide) ?_
  refine g_istore_n (lv' := [(1, vI 0), (0, vR b0)]) dX1_stockInAll_1 (by decide) rfl ?_
  refine g_iconst dX1_stockInAll_2 0 rfl (by decide) ?_
  refine g_istore_n (lv' := [(2, vI 0), (1, vI 0), (0, vR b0)]) dX1_stockInAll_3 (by decide) rfl ?_
  refine g_lv (lv' := [(0, vR b0), (1, vI 0), (2, vI 0)]) [2, 1, 0] rfl ?_
  exact eX1_stockInAll_4 hb0 hR h
def wX1_closeLine_14 (b0 : Nat) (Q : Int → Mem → Prop) (l1 : Int) (s0 : Int) (σ : Mem) : Prop := ((0 ≤ l1 ∧ l1 < 64) ∧ (∀ m1 : Mem, m1 = up2 σ (b0 + 1) l1.toNat 0 → Q s0 m1))
def wX1_closeLine (b0 : Nat) (l1 : Int) (σ : Mem) (Q : Int → Mem → Prop) : Prop := ((0 ≤ l1 ∧ l1 < 64) ∧ ((σ (b0 + 1) l1.toNat ≤ 0 → wX1_closeLine_14 b0 Q l1 0 σ) ∧ (¬ σ (b0 + 1) l1.toNat ≤ 0 → wX1_closeLine_14 b0 Q l1 1 σ)))
set_option maxHeartbeats 1000000 in
theorem bX1_closeLine_14 {E : TE} {b0 : Nat} (hb0 : isBk b0) {Q : Int → Mem → Prop} (hR : RI E (some .int) Q) {l1 : Int} {s0 : Int} {σ : Mem} (h : wX1_closeLine_14 b0 Q l1 s0 σ) : GW E cX1_closeLine 3 RX1 0 0 σ 14 [(0, vR b0), (1, vI l1)] [vI s0] := by
  unfold wX1_closeLine_14 at h
  refine g_istore_n (lv' := [(2, vI s0), (0, vR b0), (1, vI l1)]) dX1_closeLine_14 (by decide) rfl ?_
  refine g_aload_n dX1_closeLine_15 rfl ?_
  refine g_getR (r := b0 + 1) fl_1_15 (kd_bk0 hb0) rfl dX1_closeLine_16 ?_
  refine g_iload_n dX1_closeLine_19 rfl ?_
  refine g_iconst dX1_closeLine_20 0 rfl (by decide) ?_
  obtain ⟨hin, h⟩ := h
  refine g_iast (kd_bk1 hb0) hin dX1_closeLine_21 ?_
  refine g_nm (fun m1 em1 => ?_)
  replace h := h m1 em1
  refine g_iload_n dX1_closeLine_22 rfl ?_
  exact g_iret hR dX1_closeLine_23 h
set_option maxHeartbeats 1000000 in
theorem kX1_closeLine {b0 : Nat} {l1 : Int} (hb0 : isBk b0) {σ : Mem} {Q : Int → Mem → Prop} (h : wX1_closeLine b0 l1 σ Q) (l : Launch) (D : va_G) (cy : Nat → ClassId) (ad : Nat → Nat) : MI l yX1_closeLine cX1_closeLine 3 (some .int) 0 0 D cy ad [vR b0, vI l1] σ Q := by
  refine m_I (own := RX1) (lv := [(0, vR b0), (1, vI l1)]) (by decide +kernel) rfl (Nat.le_of_ble_eq_true rfl) rfl (fun E hR => ?_) l D cy ad
  unfold wX1_closeLine at h
  refine g_aload_n dX1_closeLine_0 rfl ?_
  refine g_getR (r := b0 + 1) fl_1_15 (kd_bk0 hb0) rfl dX1_closeLine_1 ?_
  refine g_iload_n dX1_closeLine_4 rfl ?_
  obtain ⟨hin, h⟩ := h
  refine g_iald (kd_bk1 hb0) hin dX1_closeLine_5 ?_
  obtain ⟨hA, hB⟩ := h
  refine g_if_le (tgt := 13) dX1_closeLine_6 (by decide) (fun hc => ?_) (fun hc => ?_)
  · replace h := hA hc
    refine g_iconst dX1_closeLine_13 0 rfl (by decide) ?_
    exact bX1_closeLine_14 hb0 hR h
  · replace h := hB hc
    refine g_iconst dX1_closeLine_9 1 rfl (by decide) ?_
    refine g_goto (tgt := 14) dX1_closeLine_10 (by decide) ?_
    exact bX1_closeLine_14 hb0 hR h
def wX1_closeLines_4 (b0 : Nat) (K4 : (Int × Int × Int) → Mem → Prop) (Q : Int → Mem → Prop) (l1 : Int) (l2 : Int) (l3 : Int) (σ : Mem) : Prop := ((σ b0 0 ≤ l3 → Q l2 σ) ∧ (¬ σ b0 0 ≤ l3 → (wX10_at l1 l3 σ (fun y2 m1 => (wX1_closeLine b0 y2 m1 (fun y4 m3 => (wX10_at l3 l1 m3 (fun y6 m5 => (wX1_closeLine b0 y6 m5 (fun y8 m7 => (∀ x9 : Int, x9 = w32 (l2 + (w32 (y4 + y8))) → (∀ x10 : Int, x10 = w32 (l3 + 1) → K4 (l1, x9, x10) m7))))))))))))
def wLX1_closeLines_4 (b0 : Nat) (Q : Int → Mem → Prop) (l1 : Int) (l2 : Int) (l3 : Int) (σ : Mem) : Prop := ∃ n, lp (fun (K4 : (Int × Int × Int) → Mem → Prop) (x : Int × Int × Int) (σ : Mem) => wX1_closeLines_4 b0 K4 Q x.1 x.2.1 x.2.2 σ) n (l1, l2, l3) σ
def wX1_closeLines (b0 : Nat) (l1 : Int) (σ : Mem) (Q : Int → Mem → Prop) : Prop := wLX1_closeLines_4 b0 Q l1 0 0 σ
set_option maxHeartbeats 1000000 in
theorem bX1_closeLines_4 {E : TE} {b0 : Nat} (hb0 : isBk b0) {K4 : (Int × Int × Int) → Mem → Prop} (hK4 : ∀ (x : Int × Int × Int) (σ : Mem), K4 x σ → GW E cX1_closeLines 4 RX1 1 22 σ 4 [(0, vR b0), (1, vI x.1), (2, vI x.2.1), (3, vI x.2.2)] []) {Q : Int → Mem → Prop} (hR : RI E (some .int) Q) {l1 : Int} {l2 : Int} {l3 : Int} {σ : Mem} (h : wX1_closeLines_4 b0 K4 Q l1 l2 l3 σ) : GW E cX1_closeLines 4 RX1 1 22 σ 4 [(0, vR b0), (1, vI l1), (2, vI l2), (3, vI l3)] [] := by
  unfold wX1_closeLines_4 at h
  refine g_iload_n dX1_closeLines_4 rfl ?_
  refine g_aload_n dX1_closeLines_5 rfl ?_
  refine g_getI fl_1_9 (kd_bk0 hb0) rfl dX1_closeLines_6 ?_
  obtain ⟨hA, hB⟩ := h
  refine g_icmp_ge (tgt := 40) dX1_closeLines_9 (by decide) (fun hc => ?_) (fun hc => ?_)
  · replace h := hA hc
    refine g_iload_n dX1_closeLines_40 rfl ?_
    exact g_iret hR dX1_closeLines_41 h
  · replace h := hB hc
    refine g_iload_n dX1_closeLines_12 rfl ?_
    refine g_aload_n dX1_closeLines_13 rfl ?_
    refine g_iload_n dX1_closeLines_14 rfl ?_
    refine g_iload_n dX1_closeLines_15 rfl ?_
    refine g_cNi (st := [vR b0, vI l2]) (av := [vI l1, vI l3]) (kX10_at h) cw_RX1_49 (by decide) (by decide) (Nat.le_of_ble_eq_true rfl) rfl dX1_closeLines_16 (fun y2 m1 h => ?_)
    refine g_cVi (st := [vI l2]) (av := [vI y2]) (kX1_closeLine hb0 h) (kd_bk0 hb0) rfl cw_RX1_64 (by decide) (by decide) (Nat.le_of_ble_eq_true rfl) rfl dX1_closeLines_19 (fun y4 m3 h => ?_)
    refine g_aload_n dX1_closeLines_22 rfl ?_
    refine g_iload_n dX1_closeLines_23 rfl ?_
    refine g_iload_n dX1_closeLines_24 rfl ?_
    refine g_cNi (st := [vR b0, vI y4, vI l2]) (av := [vI l3, vI l1]) (kX10_at h) cw_RX1_49 (by decide) (by decide) (Nat.le_of_ble_eq_true rfl) rfl dX1_closeLines_25 (fun y6 m5 h => ?_)
    refine g_cVi (st := [vI y4, vI l2]) (av := [vI y6]) (kX1_closeLine hb0 h) (kd_bk0 hb0) rfl cw_RX1_64 (by decide) (by decide) (Nat.le_of_ble_eq_true rfl) rfl dX1_closeLines_28 (fun y8 m7 h => ?_)
    refine g_iadd dX1_closeLines_31 ?_
    refine g_iadd dX1_closeLines_32 ?_
    refine g_topI (fun x9 ex9 => ?_)
    replace h := h x9 ex9
    refine g_istore_n (lv' := [(2, vI x9), (0, vR b0), (1, vI l1), (3, vI l3)]) dX1_closeLines_33 (by decide) rfl ?_
    refine g_iinc (lv' := [(3, vI (w32 (l3 + 1))), (2, vI x9), (0, vR b0), (1, vI l1)]) dX1_closeLines_34 rfl (by decide) rfl ?_
    refine g_loc (a := w32 (l3 + 1)) (i := 3) (lv := [(2, vI x9), (0, vR b0), (1, vI l1)]) (fun x10 ex10 => ?_)
    replace h := h x10 ex10
    refine g_goto (tgt := 4) dX1_closeLines_37 (by decide) ?_
    refine g_lv (lv' := [(0, vR b0), (1, vI l1), (2, vI x9), (3, vI x10)]) [2, 3, 1, 0] rfl ?_
    exact hK4 ((l1, x9, x10)) m7 h
theorem eX1_closeLines_4 {E : TE} {b0 : Nat} (hb0 : isBk b0) {Q : Int → Mem → Prop} (hR : RI E (some .int) Q) {l1 : Int} {l2 : Int} {l3 : Int} {σ : Mem} (h : wLX1_closeLines_4 b0 Q l1 l2 l3 σ) : GW E cX1_closeLines 4 RX1 1 22 σ 4 [(0, vR b0), (1, vI l1), (2, vI l2), (3, vI l3)] [] := by
  obtain ⟨n, h⟩ := h
  exact lp_GW (P := fun (x : Int × Int × Int) (σ : Mem) => GW E cX1_closeLines 4 RX1 1 22 σ 4 [(0, vR b0), (1, vI x.1), (2, vI x.2.1), (3, vI x.2.2)] []) (fun K hK x σ h  => bX1_closeLines_4 hb0 hK hR h) n _ σ h 
set_option maxHeartbeats 1000000 in
theorem kX1_closeLines {b0 : Nat} {l1 : Int} (hb0 : isBk b0) {σ : Mem} {Q : Int → Mem → Prop} (h : wX1_closeLines b0 l1 σ Q) (l : Launch) (D : va_G) (cy : Nat → ClassId) (ad : Nat → Nat) : MI l yX1_closeLines cX1_closeLines 4 (some .int) 1 22 D cy ad [vR b0, vI l1] σ Q := by
  refine m_I (own := RX1) (lv := [(0, vR b0), (1, vI l1)]) (by decide +kernel) rfl (Nat.le_of_ble_eq_true rfl) rfl (fun E hR => ?_) l D cy ad
  unfold wX1_closeLines at h
  refine g_iconst dX1_closeLines_0 0 rfl (by decide) ?_
  refine g_istore_n (lv' := [(2, vI 0), (0, vR b0), (1, vI l1)]) dX1_closeLines_1 (by decide) rfl ?_
  refine g_iconst dX1_closeLines_2 0 rfl (by decide) ?_
  refine g_istore_n (lv' := [(3, vI 0), (2, vI 0), (0, vR b0), (1, vI l1)]) dX1_closeLines_3 (by decide) rfl ?_
  refine g_lv (lv' := [(0, vR b0), (1, vI l1), (2, vI 0), (3, vI 0)]) [2, 3, 1, 0] rfl ?_
  exact eX1_closeLines_4 hb0 hR h
def wX1_heldPlaces_29 (b0 : Nat) (K4 : (Int × Int) → Mem → Prop) (Q : Int → Mem → Prop) (l2 : Int) (s0 : Int) (s1 : Int) (σ : Mem) : Prop := (∀ x1 : Int, x1 = bor s1 s0 → (∀ x2 : Int, x2 = w32 (l2 + 1) → K4 (x1, x2) σ))
def wX1_heldPlaces_4 (b0 : Nat) (K4 : (Int × Int) → Mem → Prop) (Q : Int → Mem → Prop) (l1 : Int) (l2 : Int) (σ : Mem) : Prop := ((4 ≤ l2 → Q l1 σ) ∧ (¬ 4 ≤ l2 → ((0 ≤ l2 ∧ l2 < 4) ∧ ((σ (b0 + 5 + l2.toNat) 2 ≤ 0 → wX1_heldPlaces_29 b0 K4 Q l2 0 l1 σ) ∧ (¬ σ (b0 + 5 + l2.toNat) 2 ≤ 0 → wX1_heldPlaces_29 b0 K4 Q l2 (bshl 1 l2) l1 σ)))))
def wLX1_heldPlaces_4 (b0 : Nat) (Q : Int → Mem → Prop) (l1 : Int) (l2 : Int) (σ : Mem) : Prop := ∃ n, lp (fun (K4 : (Int × Int) → Mem → Prop) (x : Int × Int) (σ : Mem) => wX1_heldPlaces_4 b0 K4 Q x.1 x.2 σ) n (l1, l2) σ
def wX1_heldPlaces (b0 : Nat) (σ : Mem) (Q : Int → Mem → Prop) : Prop := wLX1_heldPlaces_4 b0 Q 0 0 σ
set_option maxHeartbeats 1000000 in
theorem bX1_heldPlaces_29 {E : TE} {b0 : Nat} (hb0 : isBk b0) {K4 : (Int × Int) → Mem → Prop} (hK4 : ∀ (x : Int × Int) (σ : Mem), K4 x σ → GW E cX1_heldPlaces 3 RX1 0 0 σ 4 [(0, vR b0), (1, vI x.1), (2, vI x.2)] []) {Q : Int → Mem → Prop} (hR : RI E (some .int) Q) {l2 : Int} {s0 : Int} {s1 : Int} {σ : Mem} (h : wX1_heldPlaces_29 b0 K4 Q l2 s0 s1 σ) : GW E cX1_heldPlaces 3 RX1 0 0 σ 29 [(0, vR b0), (2, vI l2)] [vI s0, vI s1] := by
  unfold wX1_heldPlaces_29 at h
  refine g_ior dX1_heldPlaces_29 ?_
  refine g_topI (fun x1 ex1 => ?_)
  replace h := h x1 ex1
  refine g_istore_n (lv' := [(1, vI x1), (0, vR b0), (2, vI l2)]) dX1_heldPlaces_30 (by decide) rfl ?_
  refine g_iinc (lv' := [(2, vI (w32 (l2 + 1))), (1, vI x1), (0, vR b0)]) dX1_heldPlaces_31 rfl (by decide) rfl ?_
  refine g_loc (a := w32 (l2 + 1)) (i := 2) (lv := [(1, vI x1), (0, vR b0)]) (fun x2 ex2 => ?_)
  replace h := h x2 ex2
  refine g_goto (tgt := 4) dX1_heldPlaces_34 (by decide) ?_
  refine g_lv (lv' := [(0, vR b0), (1, vI x1), (2, vI x2)]) [2, 1, 0] rfl ?_
  exact hK4 ((x1, x2)) σ h
set_option maxHeartbeats 1000000 in
theorem bX1_heldPlaces_4 {E : TE} {b0 : Nat} (hb0 : isBk b0) {K4 : (Int × Int) → Mem → Prop} (hK4 : ∀ (x : Int × Int) (σ : Mem), K4 x σ → GW E cX1_heldPlaces 3 RX1 0 0 σ 4 [(0, vR b0), (1, vI x.1), (2, vI x.2)] []) {Q : Int → Mem → Prop} (hR : RI E (some .int) Q) {l1 : Int} {l2 : Int} {σ : Mem} (h : wX1_heldPlaces_4 b0 K4 Q l1 l2 σ) : GW E cX1_heldPlaces 3 RX1 0 0 σ 4 [(0, vR b0), (1, vI l1), (2, vI l2)] [] := by
  unfold wX1_heldPlaces_4 at h
  refine g_iload_n dX1_heldPlaces_4 rfl ?_
  refine g_iconst dX1_heldPlaces_5 4 rfl (by decide) ?_
  obtain ⟨hA, hB⟩ := h
  refine g_icmp_ge (tgt := 37) dX1_heldPlaces_6 (by decide) (fun hc => ?_) (fun hc => ?_)
  · replace h := hA hc
    refine g_iload_n dX1_heldPlaces_37 rfl ?_
    exact g_iret hR dX1_heldPlaces_38 h
  · replace h := hB hc
    refine g_iload_n dX1_heldPlaces_9 rfl ?_
    refine g_aload_n dX1_heldPlaces_10 rfl ?_
    refine g_getR (r := b0 + 4) fl_1_27 (kd_bk0 hb0) rfl dX1_heldPlaces_11 ?_
    refine g_iload_n dX1_heldPlaces_14 rfl ?_
    obtain ⟨hin, h⟩ := h
    have hi1 := hin
    refine g_aald (kd_bk4 hb0) (Or.inr rfl) hin (ho_r hi1) dX1_heldPlaces_15 ?_
    refine g_getI fl_1_32 (kd_ho (ho_of hb0 hi1)) rfl dX1_heldPlaces_16 ?_
    obtain ⟨hA, hB⟩ := h
    refine g_if_le (tgt := 28) dX1_heldPlaces_19 (by decide) (fun hc => ?_) (fun hc => ?_)
    · replace h := hA hc
      refine g_iconst dX1_heldPlaces_28 0 rfl (by decide) ?_
      refine g_lv (lv' := [(0, vR b0), (2, vI l2)]) [0, 2] rfl ?_
      exact bX1_heldPlaces_29 hb0 hK4 hR h
    · replace h := hB hc
      refine g_iconst dX1_heldPlaces_22 1 rfl (by decide) ?_
      refine g_iload_n dX1_heldPlaces_23 rfl ?_
      refine g_ishl dX1_heldPlaces_24 ?_
      refine g_goto (tgt := 29) dX1_heldPlaces_25 (by decide) ?_
      refine g_lv (lv' := [(0, vR b0), (2, vI l2)]) [0, 2] rfl ?_
      exact bX1_heldPlaces_29 hb0 hK4 hR h
theorem eX1_heldPlaces_4 {E : TE} {b0 : Nat} (hb0 : isBk b0) {Q : Int → Mem → Prop} (hR : RI E (some .int) Q) {l1 : Int} {l2 : Int} {σ : Mem} (h : wLX1_heldPlaces_4 b0 Q l1 l2 σ) : GW E cX1_heldPlaces 3 RX1 0 0 σ 4 [(0, vR b0), (1, vI l1), (2, vI l2)] [] := by
  obtain ⟨n, h⟩ := h
  exact lp_GW (P := fun (x : Int × Int) (σ : Mem) => GW E cX1_heldPlaces 3 RX1 0 0 σ 4 [(0, vR b0), (1, vI x.1), (2, vI x.2)] []) (fun K hK x σ h  => bX1_heldPlaces_4 hb0 hK hR h) n _ σ h 
set_option maxHeartbeats 1000000 in
theorem kX1_heldPlaces {b0 : Nat} (hb0 : isBk b0) {σ : Mem} {Q : Int → Mem → Prop} (h : wX1_heldPlaces b0 σ Q) (l : Launch) (D : va_G) (cy : Nat → ClassId) (ad : Nat → Nat) : MI l yX1_heldPlaces cX1_heldPlaces 3 (some .int) 0 0 D cy ad [vR b0] σ Q := by
  refine m_I (own := RX1) (lv := [(0, vR b0)]) (by decide +kernel) rfl (Nat.le_of_ble_eq_true rfl) rfl (fun E hR => ?_) l D cy ad
  unfold wX1_heldPlaces at h
  refine g_iconst dX1_heldPlaces_0 0 rfl (by decide) ?_
  refine g_istore_n (lv' := [(1, vI 0), (0, vR b0)]) dX1_heldPlaces_1 (by decide) rfl ?_
  refine g_iconst dX1_heldPlaces_2 0 rfl (by decide) ?_
  refine g_istore_n (lv' := [(2, vI 0), (1, vI 0), (0, vR b0)]) dX1_heldPlaces_3 (by decide) rfl ?_
  refine g_lv (lv' := [(0, vR b0), (1, vI 0), (2, vI 0)]) [2, 1, 0] rfl ?_
  exact eX1_heldPlaces_4 hb0 hR h
def wX1_holdsAny (b0 : Nat) (σ : Mem) (Q : Int → Mem → Prop) : Prop := (wX1_heldPlaces b0 σ (fun y2 m1 => ((y2 = 0 → Q 0 m1) ∧ (¬ y2 = 0 → Q 1 m1))))
set_option maxHeartbeats 1000000 in
theorem kX1_holdsAny {b0 : Nat} (hb0 : isBk b0) {σ : Mem} {Q : Int → Mem → Prop} (h : wX1_holdsAny b0 σ Q) (l : Launch) (D : va_G) (cy : Nat → ClassId) (ad : Nat → Nat) : MI l yX1_holdsAny cX1_holdsAny 1 (some .boolean) 1 22 D cy ad [vR b0] σ Q := by
  refine m_I (own := RX1) (lv := [(0, vR b0)]) (by decide +kernel) rfl (Nat.le_of_ble_eq_true rfl) rfl (fun E hR => ?_) l D cy ad
  unfold wX1_holdsAny at h
  refine g_aload_n dX1_holdsAny_0 rfl ?_
  refine g_cVi (st := []) (av := []) (kX1_heldPlaces hb0 h) (kd_bk0 hb0) rfl cw_RX1_68 (by decide) (by decide) (Nat.le_of_ble_eq_true rfl) rfl dX1_holdsAny_1 (fun y2 m1 h => ?_)
  obtain ⟨hA, hB⟩ := h
  refine g_if_eq (tgt := 11) dX1_holdsAny_4 (by decide) (fun hc => ?_) (fun hc => ?_)
  · replace h := hA hc
    refine g_iconst dX1_holdsAny_11 0 rfl (by decide) ?_
    exact g_zret hR dX1_holdsAny_12 (by decide) h
  · replace h := hB hc
    refine g_iconst dX1_holdsAny_7 1 rfl (by decide) ?_
    refine g_goto (tgt := 12) dX1_holdsAny_8 (by decide) ?_
    exact g_zret hR dX1_holdsAny_12 (by decide) h
def wX1_isHeldAt (b0 : Nat) (l1 : Int) (σ : Mem) (Q : Int → Mem → Prop) : Prop := ((l1 < 0 → Q 0 σ) ∧ (¬ l1 < 0 → ((4 ≤ l1 → Q 0 σ) ∧ (¬ 4 ≤ l1 → ((0 ≤ l1 ∧ l1 < 4) ∧ ((σ (b0 + 5 + l1.toNat) 2 ≤ 0 → Q 0 σ) ∧ (¬ σ (b0 + 5 + l1.toNat) 2 ≤ 0 → Q 1 σ)))))))
set_option maxHeartbeats 1000000 in
theorem kX1_isHeldAt {b0 : Nat} {l1 : Int} (hb0 : isBk b0) {σ : Mem} {Q : Int → Mem → Prop} (h : wX1_isHeldAt b0 l1 σ Q) (l : Launch) (D : va_G) (cy : Nat → ClassId) (ad : Nat → Nat) : MI l yX1_isHeldAt cX1_isHeldAt 2 (some .boolean) 0 0 D cy ad [vR b0, vI l1] σ Q := by
  refine m_I (own := RX1) (lv := [(0, vR b0), (1, vI l1)]) (by decide +kernel) rfl (Nat.le_of_ble_eq_true rfl) rfl (fun E hR => ?_) l D cy ad
  unfold wX1_isHeldAt at h
  refine g_iload_n dX1_isHeldAt_0 rfl ?_
  obtain ⟨hA, hB⟩ := h
  refine g_if_lt (tgt := 25) dX1_isHeldAt_1 (by decide) (fun hc => ?_) (fun hc => ?_)
  · replace h := hA hc
    refine g_iconst dX1_isHeldAt_25 0 rfl (by decide) ?_
    exact g_zret hR dX1_isHeldAt_26 (by decide) h
  · replace h := hB hc
    refine g_iload_n dX1_isHeldAt_4 rfl ?_
    refine g_iconst dX1_isHeldAt_5 4 rfl (by decide) ?_
    obtain ⟨hA, hB⟩ := h
    refine g_icmp_ge (tgt := 25) dX1_isHeldAt_6 (by decide) (fun hc => ?_) (fun hc => ?_)
    · replace h := hA hc
      refine g_iconst dX1_isHeldAt_25 0 rfl (by decide) ?_
      exact g_zret hR dX1_isHeldAt_26 (by decide) h
    · replace h := hB hc
      refine g_aload_n dX1_isHeldAt_9 rfl ?_
      refine g_getR (r := b0 + 4) fl_1_27 (kd_bk0 hb0) rfl dX1_isHeldAt_10 ?_
      refine g_iload_n dX1_isHeldAt_13 rfl ?_
      obtain ⟨hin, h⟩ := h
      have hi1 := hin
      refine g_aald (kd_bk4 hb0) (Or.inr rfl) hin (ho_r hi1) dX1_isHeldAt_14 ?_
      refine g_getI fl_1_32 (kd_ho (ho_of hb0 hi1)) rfl dX1_isHeldAt_15 ?_
      obtain ⟨hA, hB⟩ := h
      refine g_if_le (tgt := 25) dX1_isHeldAt_18 (by decide) (fun hc => ?_) (fun hc => ?_)
      · replace h := hA hc
        refine g_iconst dX1_isHeldAt_25 0 rfl (by decide) ?_
        exact g_zret hR dX1_isHeldAt_26 (by decide) h
      · replace h := hB hc
        refine g_iconst dX1_isHeldAt_21 1 rfl (by decide) ?_
        refine g_goto (tgt := 26) dX1_isHeldAt_22 (by decide) ?_
        exact g_zret hR dX1_isHeldAt_26 (by decide) h
def wX1_freePlace_2 (b0 : Nat) (K2 : Int → Mem → Prop) (Q : Int → Mem → Prop) (l1 : Int) (σ : Mem) : Prop := ((4 ≤ l1 → Q ((-1)) σ) ∧ (¬ 4 ≤ l1 → ((0 ≤ l1 ∧ l1 < 4) ∧ ((¬ σ (b0 + 5 + l1.toNat) 2 = 0 → (∀ x2 : Int, x2 = w32 (l1 + 1) → K2 x2 σ)) ∧ (σ (b0 + 5 + l1.toNat) 2 = 0 → Q l1 σ)))))
def wLX1_freePlace_2 (b0 : Nat) (Q : Int → Mem → Prop) (l1 : Int) (σ : Mem) : Prop := ∃ n, lp (fun (K2 : Int → Mem → Prop) (x : Int) (σ : Mem) => wX1_freePlace_2 b0 K2 Q x σ) n l1 σ
def wX1_freePlace (b0 : Nat) (σ : Mem) (Q : Int → Mem → Prop) : Prop := wLX1_freePlace_2 b0 Q 0 σ
set_option maxHeartbeats 1000000 in
theorem bX1_freePlace_2 {E : TE} {b0 : Nat} (hb0 : isBk b0) {K2 : Int → Mem → Prop} (hK2 : ∀ (x : Int) (σ : Mem), K2 x σ → GW E cX1_freePlace 2 RX1 0 0 σ 2 [(0, vR b0), (1, vI x)] []) {Q : Int → Mem → Prop} (hR : RI E (some .int) Q) {l1 : Int} {σ : Mem} (h : wX1_freePlace_2 b0 K2 Q l1 σ) : GW E cX1_freePlace 2 RX1 0 0 σ 2 [(0, vR b0), (1, vI l1)] [] := by
  unfold wX1_freePlace_2 at h
  refine g_iload_n dX1_freePlace_2 rfl ?_
  refine g_iconst dX1_freePlace_3 4 rfl (by decide) ?_
  obtain ⟨hA, hB⟩ := h
  refine g_icmp_ge (tgt := 27) dX1_freePlace_4 (by decide) (fun hc => ?_) (fun hc => ?_)
  · replace h := hA hc
    refine g_iconst dX1_freePlace_27 (-1) rfl (by decide) ?_
    exact g_iret hR dX1_freePlace_28 h
  · replace h := hB hc
    refine g_aload_n dX1_freePlace_7 rfl ?_
    refine g_getR (r := b0 + 4) fl_1_27 (kd_bk0 hb0) rfl dX1_freePlace_8 ?_
    refine g_iload_n dX1_freePlace_11 rfl ?_
    obtain ⟨hin, h⟩ := h
    have hi1 := hin
    refine g_aald (kd_bk4 hb0) (Or.inr rfl) hin (ho_r hi1) dX1_freePlace_12 ?_
    refine g_getI fl_1_32 (kd_ho (ho_of hb0 hi1)) rfl dX1_freePlace_13 ?_
    obtain ⟨hA, hB⟩ := h
    refine g_if_ne (tgt := 21) dX1_freePlace_16 (by decide) (fun hc => ?_) (fun hc => ?_)
    · replace h := hA hc
      refine g_iinc (lv' := [(1, vI (w32 (l1 + 1))), (0, vR b0)]) dX1_freePlace_21 rfl (by decide) rfl ?_
      refine g_loc (a := w32 (l1 + 1)) (i := 1) (lv := [(0, vR b0)]) (fun x2 ex2 => ?_)
      replace h := h x2 ex2
      refine g_goto (tgt := 2) dX1_freePlace_24 (by decide) ?_
      refine g_lv (lv' := [(0, vR b0), (1, vI x2)]) [1, 0] rfl ?_
      exact hK2 x2 σ h
    · replace h := hB hc
      refine g_iload_n dX1_freePlace_19 rfl ?_
      exact g_iret hR dX1_freePlace_20 h
theorem eX1_freePlace_2 {E : TE} {b0 : Nat} (hb0 : isBk b0) {Q : Int → Mem → Prop} (hR : RI E (some .int) Q) {l1 : Int} {σ : Mem} (h : wLX1_freePlace_2 b0 Q l1 σ) : GW E cX1_freePlace 2 RX1 0 0 σ 2 [(0, vR b0), (1, vI l1)] [] := by
  obtain ⟨n, h⟩ := h
  exact lp_GW (P := fun (x : Int) (σ : Mem) => GW E cX1_freePlace 2 RX1 0 0 σ 2 [(0, vR b0), (1, vI x)] []) (fun K hK x σ h  => bX1_freePlace_2 hb0 hK hR h) n _ σ h 
set_option maxHeartbeats 1000000 in
theorem kX1_freePlace {b0 : Nat} (hb0 : isBk b0) {σ : Mem} {Q : Int → Mem → Prop} (h : wX1_freePlace b0 σ Q) (l : Launch) (D : va_G) (cy : Nat → ClassId) (ad : Nat → Nat) : MI l yX1_freePlace cX1_freePlace 2 (some .int) 0 0 D cy ad [vR b0] σ Q := by
  refine m_I (own := RX1) (lv := [(0, vR b0)]) (by decide +kernel) rfl (Nat.le_of_ble_eq_true rfl) rfl (fun E hR => ?_) l D cy ad
  unfold wX1_freePlace at h
  refine g_iconst dX1_freePlace_0 0 rfl (by decide) ?_
  refine g_istore_n (lv' := [(1, vI 0), (0, vR b0)]) dX1_freePlace_1 (by decide) rfl ?_
  refine g_lv (lv' := [(0, vR b0), (1, vI 0)]) [1, 0] rfl ?_
  exact eX1_freePlace_2 hb0 hR h
def wX1_dropAt (b0 : Nat) (l1 : Int) (σ : Mem) (Q : Int → Mem → Prop) : Prop := (wX1_isHeldAt b0 l1 σ (fun y2 m1 => ((¬ y2 = 0 → ((0 ≤ l1 ∧ l1 < 4) ∧ (∀ x4 : Int, x4 = m1 (b0 + 5 + l1.toNat) 2 → ((0 ≤ l1 ∧ l1 < 4) ∧ (∀ m6 : Mem, m6 = up2 m1 (b0 + 5 + l1.toNat) 2 0 → Q x4 m6))))) ∧ (y2 = 0 → Q 0 m1))))
set_option maxHeartbeats 1000000 in
theorem kX1_dropAt {b0 : Nat} {l1 : Int} (hb0 : isBk b0) {σ : Mem} {Q : Int → Mem → Prop} (h : wX1_dropAt b0 l1 σ Q) (l : Launch) (D : va_G) (cy : Nat → ClassId) (ad : Nat → Nat) : MI l yX1_dropAt cX1_dropAt 3 (some .int) 1 21 D cy ad [vR b0, vI l1] σ Q := by
  refine m_I (own := RX1) (lv := [(0, vR b0), (1, vI l1)]) (by decide +kernel) rfl (Nat.le_of_ble_eq_true rfl) rfl (fun E hR => ?_) l D cy ad
  unfold wX1_dropAt at h
  refine g_aload_n dX1_dropAt_0 rfl ?_
  refine g_iload_n dX1_dropAt_1 rfl ?_
  refine g_cVi (st := []) (av := [vI l1]) (kX1_isHeldAt hb0 h) (kd_bk0 hb0) rfl cw_RX1_72 (by decide) (by decide) (Nat.le_of_ble_eq_true rfl) rfl dX1_dropAt_2 (fun y2 m1 h => ?_)
  obtain ⟨hA, hB⟩ := h
  refine g_if_ne (tgt := 10) dX1_dropAt_5 (by decide) (fun hc => ?_) (fun hc => ?_)
  · replace h := hA hc
    refine g_aload_n dX1_dropAt_10 rfl ?_
    refine g_getR (r := b0 + 4) fl_1_27 (kd_bk0 hb0) rfl dX1_dropAt_11 ?_
    refine g_iload_n dX1_dropAt_14 rfl ?_
    obtain ⟨hin, h⟩ := h
    have hi3 := hin
    refine g_aald (kd_bk4 hb0) (Or.inr rfl) hin (ho_r hi3) dX1_dropAt_15 ?_
    refine g_getI fl_1_32 (kd_ho (ho_of hb0 hi3)) rfl dX1_dropAt_16 ?_
    refine g_topI (fun x4 ex4 => ?_)
    replace h := h x4 ex4
    refine g_istore_n (lv' := [(2, vI x4), (0, vR b0), (1, vI l1)]) dX1_dropAt_19 (by decide) rfl ?_
    refine g_aload_n dX1_dropAt_20 rfl ?_
    refine g_getR (r := b0 + 4) fl_1_27 (kd_bk0 hb0) rfl dX1_dropAt_21 ?_
    refine g_iload_n dX1_dropAt_24 rfl ?_
    obtain ⟨hin, h⟩ := h
    have hi5 := hin
    refine g_aald (kd_bk4 hb0) (Or.inr rfl) hin (ho_r hi5) dX1_dropAt_25 ?_
    refine g_iconst dX1_dropAt_26 0 rfl (by decide) ?_
    refine g_putI fp_1_32 (kd_ho (ho_of hb0 hi5)) rfl dX1_dropAt_27 ?_
    refine g_nm (fun m6 em6 => ?_)
    replace h := h m6 em6
    refine g_iload_n dX1_dropAt_30 rfl ?_
    exact g_iret hR dX1_dropAt_31 h
  · replace h := hB hc
    refine g_iconst dX1_dropAt_8 0 rfl (by decide) ?_
    exact g_iret hR dX1_dropAt_9 h
def wX1_makeAt_33 (b0 : Nat) (K22 : (Int × Nat × Int) → Mem → Prop) (K33 : (Int × Nat × Int × Int) → Mem → Prop) (Q : Int → Mem → Prop) (l1 : Int) (r2 : Nat) (l3 : Int) (l4 : Int) (σ : Mem) : Prop := ((σ b0 0 ≤ l4 → (∀ x1 : Int, x1 = w32 (l3 + 1) → K22 (l1, r2, x1) σ)) ∧ (¬ σ b0 0 ≤ l4 → (wX10_at l3 l4 σ (fun y3 m2 => ((0 ≤ y3 ∧ y3 < 64) ∧ (wX1_payStraight b0 l3 l4 (m2 r2 y3.toNat) m2 (fun m4 => (∀ x5 : Int, x5 = w32 (l4 + 1) → K33 (l1, r2, l3, x5) m4))))))))
def wLX1_makeAt_33 (b0 : Nat) (K22 : (Int × Nat × Int) → Mem → Prop) (Q : Int → Mem → Prop) (l1 : Int) (r2 : Nat) (l3 : Int) (l4 : Int) (σ : Mem) : Prop := ∃ n, lp (fun (K33 : (Int × Nat × Int × Int) → Mem → Prop) (x : Int × Nat × Int × Int) (σ : Mem) => wX1_makeAt_33 b0 K22 K33 Q x.1 x.2.1 x.2.2.1 x.2.2.2 σ) n (l1, r2, l3, l4) σ
def wX1_makeAt_22 (b0 : Nat) (K22 : (Int × Nat × Int) → Mem → Prop) (Q : Int → Mem → Prop) (l1 : Int) (r2 : Nat) (l3 : Int) (σ : Mem) : Prop := ((σ b0 0 ≤ l3 → (wX1_dropAt b0 l1 σ (fun y2 m1 => Q y2 m1))) ∧ (¬ σ b0 0 ≤ l3 → wLX1_makeAt_33 b0 K22 Q l1 r2 l3 0 σ))
def wLX1_makeAt_22 (b0 : Nat) (Q : Int → Mem → Prop) (l1 : Int) (r2 : Nat) (l3 : Int) (σ : Mem) : Prop := ∃ n, lp (fun (K22 : (Int × Nat × Int) → Mem → Prop) (x : Int × Nat × Int) (σ : Mem) => wX1_makeAt_22 b0 K22 Q x.1 x.2.1 x.2.2 σ) n (l1, r2, l3) σ
def wX1_makeAt (b0 : Nat) (l1 : Int) (σ : Mem) (Q : Int → Mem → Prop) : Prop := (wX1_isHeldAt b0 l1 σ (fun y2 m1 => ((¬ y2 = 0 → ((0 ≤ l1 ∧ l1 < 4) ∧ wLX1_makeAt_22 b0 Q l1 (b0 + 5 + l1.toNat + 4) 0 m1)) ∧ (y2 = 0 → Q 0 m1))))
set_option maxHeartbeats 1000000 in
theorem bX1_makeAt_33 {E : TE} {b0 : Nat} (hb0 : isBk b0) {K22 : (Int × Nat × Int) → Mem → Prop} {K33 : (Int × Nat × Int × Int) → Mem → Prop} (hK22 : ∀ (x : Int × Nat × Int) (σ : Mem), K22 x σ → kd x.2.1 = (1, 64, []) → GW E cX1_makeAt 5 RX1 2 44 σ 22 [(0, vR b0), (1, vI x.1), (2, vR x.2.1), (3, vI x.2.2)] []) (hK33 : ∀ (x : Int × Nat × Int × Int) (σ : Mem), K33 x σ → kd x.2.1 = (1, 64, []) → GW E cX1_makeAt 5 RX1 2 44 σ 33 [(0, vR b0), (1, vI x.1), (2, vR x.2.1), (3, vI x.2.2.1), (4, vI x.2.2.2)] []) {Q : Int → Mem → Prop} (hR : RI E (some .int) Q) {l1 : Int} {r2 : Nat} {l3 : Int} {l4 : Int} (hr2 : kd r2 = (1, 64, [])) {σ : Mem} (h : wX1_makeAt_33 b0 K22 K33 Q l1 r2 l3 l4 σ) : GW E cX1_makeAt 5 RX1 2 44 σ 33 [(0, vR b0), (1, vI l1), (2, vR r2), (3, vI l3), (4, vI l4)] [] := by
  unfold wX1_makeAt_33 at h
  refine g_iload dX1_makeAt_33 rfl ?_
  refine g_aload_n dX1_makeAt_35 rfl ?_
  refine g_getI fl_1_9 (kd_bk0 hb0) rfl dX1_makeAt_36 ?_
  obtain ⟨hA, hB⟩ := h
  refine g_icmp_ge (tgt := 63) dX1_makeAt_39 (by decide) (fun hc => ?_) (fun hc => ?_)
  · replace h := hA hc
    refine g_iinc (lv' := [(3, vI (w32 (l3 + 1))), (0, vR b0), (1, vI l1), (2, vR r2), (4, vI l4)]) dX1_makeAt_63 rfl (by decide) rfl ?_
    refine g_loc (a := w32 (l3 + 1)) (i := 3) (lv := [(0, vR b0), (1, vI l1), (2, vR r2), (4, vI l4)]) (fun x1 ex1 => ?_)
    replace h := h x1 ex1
    refine g_goto (tgt := 22) dX1_makeAt_66 (by decide) ?_
    refine g_lv (lv' := [(0, vR b0), (1, vI l1), (2, vR r2), (3, vI x1)]) [1, 2, 3, 0] rfl ?_
    exact hK22 ((l1, r2, x1)) σ h hr2
  · replace h := hB hc
    refine g_aload_n dX1_makeAt_42 rfl ?_
    refine g_iload_n dX1_makeAt_43 rfl ?_
    refine g_iload dX1_makeAt_44 rfl ?_
    refine g_aload_n dX1_makeAt_46 rfl ?_
    refine g_iload_n dX1_makeAt_47 rfl ?_
    refine g_iload dX1_makeAt_48 rfl ?_
    refine g_cNi (st := [vR r2, vI l4, vI l3, vR b0]) (av := [vI l3, vI l4]) (kX10_at h) cw_RX1_49 (by decide) (by decide) (Nat.le_of_ble_eq_true rfl) rfl dX1_makeAt_50 (fun y3 m2 h => ?_)
    obtain ⟨hin, h⟩ := h
    refine g_iald hr2 hin dX1_makeAt_53 ?_
    refine g_cVv (st := []) (av := [vI l3, vI l4, vI (m2 r2 y3.toNat)]) (kX1_payStraight hb0 h) (kd_bk0 hb0) rfl cw_RX1_75 (by decide) (by decide) (Nat.le_of_ble_eq_true rfl) rfl dX1_makeAt_54 (fun m4 h => ?_)
    refine g_iinc (lv' := [(4, vI (w32 (l4 + 1))), (0, vR b0), (1, vI l1), (2, vR r2), (3, vI l3)]) dX1_makeAt_57 rfl (by decide) rfl ?_
    refine g_loc (a := w32 (l4 + 1)) (i := 4) (lv := [(0, vR b0), (1, vI l1), (2, vR r2), (3, vI l3)]) (fun x5 ex5 => ?_)
    replace h := h x5 ex5
    refine g_goto (tgt := 33) dX1_makeAt_60 (by decide) ?_
    refine g_lv (lv' := [(0, vR b0), (1, vI l1), (2, vR r2), (3, vI l3), (4, vI x5)]) [1, 2, 3, 4, 0] rfl ?_
    exact hK33 ((l1, r2, l3, x5)) m4 h hr2
theorem eX1_makeAt_33 {E : TE} {b0 : Nat} (hb0 : isBk b0) {K22 : (Int × Nat × Int) → Mem → Prop} (hK22 : ∀ (x : Int × Nat × Int) (σ : Mem), K22 x σ → kd x.2.1 = (1, 64, []) → GW E cX1_makeAt 5 RX1 2 44 σ 22 [(0, vR b0), (1, vI x.1), (2, vR x.2.1), (3, vI x.2.2)] []) {Q : Int → Mem → Prop} (hR : RI E (some .int) Q) {l1 : Int} {r2 : Nat} {l3 : Int} {l4 : Int} (hr2 : kd r2 = (1, 64, [])) {σ : Mem} (h : wLX1_makeAt_33 b0 K22 Q l1 r2 l3 l4 σ) : GW E cX1_makeAt 5 RX1 2 44 σ 33 [(0, vR b0), (1, vI l1), (2, vR r2), (3, vI l3), (4, vI l4)] [] := by
  obtain ⟨n, h⟩ := h
  exact lp_GW (P := fun (x : Int × Nat × Int × Int) (σ : Mem) => kd x.2.1 = (1, 64, []) → GW E cX1_makeAt 5 RX1 2 44 σ 33 [(0, vR b0), (1, vI x.1), (2, vR x.2.1), (3, vI x.2.2.1), (4, vI x.2.2.2)] []) (fun K hK x σ h hh0 => bX1_makeAt_33 hb0 hK22 hK hR hh0 h) n _ σ h hr2
set_option maxHeartbeats 1000000 in
theorem bX1_makeAt_22 {E : TE} {b0 : Nat} (hb0 : isBk b0) {K22 : (Int × Nat × Int) → Mem → Prop} (hK22 : ∀ (x : Int × Nat × Int) (σ : Mem), K22 x σ → kd x.2.1 = (1, 64, []) → GW E cX1_makeAt 5 RX1 2 44 σ 22 [(0, vR b0), (1, vI x.1), (2, vR x.2.1), (3, vI x.2.2)] []) {Q : Int → Mem → Prop} (hR : RI E (some .int) Q) {l1 : Int} {r2 : Nat} {l3 : Int} (hr2 : kd r2 = (1, 64, [])) {σ : Mem} (h : wX1_makeAt_22 b0 K22 Q l1 r2 l3 σ) : GW E cX1_makeAt 5 RX1 2 44 σ 22 [(0, vR b0), (1, vI l1), (2, vR r2), (3, vI l3)] [] := by
  unfold wX1_makeAt_22 at h
  refine g_iload_n dX1_makeAt_22 rfl ?_
  refine g_aload_n dX1_makeAt_23 rfl ?_
  refine g_getI fl_1_9 (kd_bk0 hb0) rfl dX1_makeAt_24 ?_
  obtain ⟨hA, hB⟩ := h
  refine g_icmp_ge (tgt := 69) dX1_makeAt_27 (by decide) (fun hc => ?_) (fun hc => ?_)
  · replace h := hA hc
    refine g_aload_n dX1_makeAt_69 rfl ?_
    refine g_iload_n dX1_makeAt_70 rfl ?_
    refine g_cVi (st := []) (av := [vI l1]) (kX1_dropAt hb0 h) (kd_bk0 hb0) rfl cw_RX1_79 (by decide) (by decide) (Nat.le_of_ble_eq_true rfl) rfl dX1_makeAt_71 (fun y2 m1 h => ?_)
    exact g_iret hR dX1_makeAt_74 h
  · replace h := hB hc
    refine g_iconst dX1_makeAt_30 0 rfl (by decide) ?_
    refine g_istore (lv' := [(4, vI 0), (0, vR b0), (1, vI l1), (2, vR r2), (3, vI l3)]) dX1_makeAt_31 (by decide) rfl ?_
    refine g_lv (lv' := [(0, vR b0), (1, vI l1), (2, vR r2), (3, vI l3), (4, vI 0)]) [1, 2, 3, 4, 0] rfl ?_
    exact eX1_makeAt_33 hb0 hK22 hR hr2 h
theorem eX1_makeAt_22 {E : TE} {b0 : Nat} (hb0 : isBk b0) {Q : Int → Mem → Prop} (hR : RI E (some .int) Q) {l1 : Int} {r2 : Nat} {l3 : Int} (hr2 : kd r2 = (1, 64, [])) {σ : Mem} (h : wLX1_makeAt_22 b0 Q l1 r2 l3 σ) : GW E cX1_makeAt 5 RX1 2 44 σ 22 [(0, vR b0), (1, vI l1), (2, vR r2), (3, vI l3)] [] := by
  obtain ⟨n, h⟩ := h
  exact lp_GW (P := fun (x : Int × Nat × Int) (σ : Mem) => kd x.2.1 = (1, 64, []) → GW E cX1_makeAt 5 RX1 2 44 σ 22 [(0, vR b0), (1, vI x.1), (2, vR x.2.1), (3, vI x.2.2)] []) (fun K hK x σ h hh0 => bX1_makeAt_22 hb0 hK hR hh0 h) n _ σ h hr2
set_option maxHeartbeats 1000000 in
theorem kX1_makeAt {b0 : Nat} {l1 : Int} (hb0 : isBk b0) {σ : Mem} {Q : Int → Mem → Prop} (h : wX1_makeAt b0 l1 σ Q) (l : Launch) (D : va_G) (cy : Nat → ClassId) (ad : Nat → Nat) : MI l yX1_makeAt cX1_makeAt 5 (some .int) 2 44 D cy ad [vR b0, vI l1] σ Q := by
  refine m_I (own := RX1) (lv := [(0, vR b0), (1, vI l1)]) (by decide +kernel) rfl (Nat.le_of_ble_eq_true rfl) rfl (fun E hR => ?_) l D cy ad
  unfold wX1_makeAt at h
  refine g_aload_n dX1_makeAt_0 rfl ?_
  refine g_iload_n dX1_makeAt_1 rfl ?_
  refine g_cVi (st := []) (av := [vI l1]) (kX1_isHeldAt hb0 h) (kd_bk0 hb0) rfl cw_RX1_72 (by decide) (by decide) (Nat.le_of_ble_eq_true rfl) rfl dX1_makeAt_2 (fun y2 m1 h => ?_)
  obtain ⟨hA, hB⟩ := h
  refine g_if_ne (tgt := 10) dX1_makeAt_5 (by decide) (fun hc => ?_) (fun hc => ?_)
  · replace h := hA hc
    refine g_aload_n dX1_makeAt_10 rfl ?_
    refine g_getR (r := b0 + 4) fl_1_27 (kd_bk0 hb0) rfl dX1_makeAt_11 ?_
    refine g_iload_n dX1_makeAt_14 rfl ?_
    obtain ⟨hin, h⟩ := h
    have hi3 := hin
    refine g_aald (kd_bk4 hb0) (Or.inr rfl) hin (ho_r hi3) dX1_makeAt_15 ?_
    refine g_getR (r := b0 + 5 + l1.toNat + 4) fl_1_58 (kd_ho (ho_of hb0 hi3)) rfl dX1_makeAt_16 ?_
    refine g_astore_n (lv' := [(2, vR (b0 + 5 + l1.toNat + 4)), (0, vR b0), (1, vI l1)]) dX1_makeAt_19 (by decide) rfl ?_
    refine g_iconst dX1_makeAt_20 0 rfl (by decide) ?_
    refine g_istore_n (lv' := [(3, vI 0), (2, vR (b0 + 5 + l1.toNat + 4)), (0, vR b0), (1, vI l1)]) dX1_makeAt_21 (by decide) rfl ?_
    refine g_lv (lv' := [(0, vR b0), (1, vI l1), (2, vR (b0 + 5 + l1.toNat + 4)), (3, vI 0)]) [2, 3, 1, 0] rfl ?_
    exact eX1_makeAt_22 hb0 hR (kd_fl (ho_of hb0 hi3)) h
  · replace h := hB hc
    refine g_iconst dX1_makeAt_8 0 rfl (by decide) ?_
    exact g_iret hR dX1_makeAt_9 h
def wX9_append_16 (K16 : (Int × Int) → Mem → Prop) (Q : Int → Mem → Prop) (l1 : Int) (l2 : Int) (σ : Mem) : Prop := ((l2 < 0 → Q 1 σ) ∧ (¬ l2 < 0 → ((0 ≤ σ 5 1 ∧ σ 5 1 < 80) ∧ (∀ m1 : Mem, m1 = up2 σ 6 (σ 5 1).toNat (band (bushr l1 l2) 255) → (∀ m2 : Mem, m2 = up2 m1 5 1 (w32 ((m1 5 1) + 1)) → (∀ x3 : Int, x3 = w32 (l2 + (-8)) → K16 (l1, x3) m2))))))
def wLX9_append_16 (Q : Int → Mem → Prop) (l1 : Int) (l2 : Int) (σ : Mem) : Prop := ∃ n, lp (fun (K16 : (Int × Int) → Mem → Prop) (x : Int × Int) (σ : Mem) => wX9_append_16 K16 Q x.1 x.2 σ) n (l1, l2) σ
def wX9_append (l1 : Int) (σ : Mem) (Q : Int → Mem → Prop) : Prop := ((w32 ((σ 5 1) + 4) ≤ 80 → wLX9_append_16 Q l1 24 σ) ∧ (¬ w32 ((σ 5 1) + 4) ≤ 80 → Q 0 σ))
set_option maxHeartbeats 1000000 in
theorem bX9_append_16 {E : TE} {K16 : (Int × Int) → Mem → Prop} (hK16 : ∀ (x : Int × Int) (σ : Mem), K16 x σ → GW E cX9_append 3 RX9 0 0 σ 16 [(0, vR 5), (1, vI x.1), (2, vI x.2)] []) {Q : Int → Mem → Prop} (hR : RI E (some .boolean) Q) {l1 : Int} {l2 : Int} {σ : Mem} (h : wX9_append_16 K16 Q l1 l2 σ) : GW E cX9_append 3 RX9 0 0 σ 16 [(0, vR 5), (1, vI l1), (2, vI l2)] [] := by
  unfold wX9_append_16 at h
  refine g_iload_n dX9_append_16 rfl ?_
  obtain ⟨hA, hB⟩ := h
  refine g_if_lt (tgt := 52) dX9_append_17 (by decide) (fun hc => ?_) (fun hc => ?_)
  · replace h := hA hc
    refine g_iconst dX9_append_52 1 rfl (by decide) ?_
    exact g_zret hR dX9_append_53 (by decide) h
  · replace h := hB hc
    refine g_aload_n dX9_append_20 rfl ?_
    refine g_getR (r := 6) fl_9_9 kd_5 rfl dX9_append_21 ?_
    refine g_aload_n dX9_append_24 rfl ?_
    refine g_getI fl_9_15 kd_5 rfl dX9_append_25 ?_
    refine g_iload_n dX9_append_28 rfl ?_
    refine g_iload_n dX9_append_29 rfl ?_
    refine g_iushr dX9_append_30 ?_
    refine g_sipush dX9_append_31 255 rfl (by decide) ?_
    refine g_iand dX9_append_34 ?_
    obtain ⟨hin, h⟩ := h
    refine g_iast kd_6 hin dX9_append_35 ?_
    refine g_nm (fun m1 em1 => ?_)
    replace h := h m1 em1
    refine g_aload_n dX9_append_36 rfl ?_
    refine g_dup dX9_append_37 rfl ?_
    refine g_getI fl_9_15 kd_5 rfl dX9_append_38 ?_
    refine g_iconst dX9_append_41 1 rfl (by decide) ?_
    refine g_iadd dX9_append_42 ?_
    refine g_putI fp_9_15 kd_5 rfl dX9_append_43 ?_
    refine g_nm (fun m2 em2 => ?_)
    replace h := h m2 em2
    refine g_iinc (lv' := [(2, vI (w32 (l2 + (-8)))), (0, vR 5), (1, vI l1)]) dX9_append_46 rfl (by decide) rfl ?_
    refine g_loc (a := w32 (l2 + (-8))) (i := 2) (lv := [(0, vR 5), (1, vI l1)]) (fun x3 ex3 => ?_)
    replace h := h x3 ex3
    refine g_goto (tgt := 16) dX9_append_49 (by decide) ?_
    refine g_lv (lv' := [(0, vR 5), (1, vI l1), (2, vI x3)]) [1, 2, 0] rfl ?_
    exact hK16 ((l1, x3)) m2 h
theorem eX9_append_16 {E : TE} {Q : Int → Mem → Prop} (hR : RI E (some .boolean) Q) {l1 : Int} {l2 : Int} {σ : Mem} (h : wLX9_append_16 Q l1 l2 σ) : GW E cX9_append 3 RX9 0 0 σ 16 [(0, vR 5), (1, vI l1), (2, vI l2)] [] := by
  obtain ⟨n, h⟩ := h
  exact lp_GW (P := fun (x : Int × Int) (σ : Mem) => GW E cX9_append 3 RX9 0 0 σ 16 [(0, vR 5), (1, vI x.1), (2, vI x.2)] []) (fun K hK x σ h  => bX9_append_16 hK hR h) n _ σ h 
set_option maxHeartbeats 1000000 in
theorem kX9_append {l1 : Int} {σ : Mem} {Q : Int → Mem → Prop} (h : wX9_append l1 σ Q) (l : Launch) (D : va_G) (cy : Nat → ClassId) (ad : Nat → Nat) : MI l yX9_append cX9_append 3 (some .boolean) 0 0 D cy ad [vR 5, vI l1] σ Q := by
  refine m_I (own := RX9) (lv := [(0, vR 5), (1, vI l1)]) (by decide +kernel) rfl (Nat.le_of_ble_eq_true rfl) rfl (fun E hR => ?_) l D cy ad
  unfold wX9_append at h
  refine g_aload_n dX9_append_0 rfl ?_
  refine g_getI fl_9_15 kd_5 rfl dX9_append_1 ?_
  refine g_iconst dX9_append_4 4 rfl (by decide) ?_
  refine g_iadd dX9_append_5 ?_
  refine g_bipush dX9_append_6 80 rfl (by decide) ?_
  obtain ⟨hA, hB⟩ := h
  refine g_icmp_le (tgt := 13) dX9_append_8 (by decide) (fun hc => ?_) (fun hc => ?_)
  · replace h := hA hc
    refine g_bipush dX9_append_13 24 rfl (by decide) ?_
    refine g_istore_n (lv' := [(2, vI 24), (0, vR 5), (1, vI l1)]) dX9_append_15 (by decide) rfl ?_
    refine g_lv (lv' := [(0, vR 5), (1, vI l1), (2, vI 24)]) [1, 2, 0] rfl ?_
    exact eX9_append_16 hR h
  · replace h := hB hc
    refine g_iconst dX9_append_11 0 rfl (by decide) ?_
    exact g_zret hR dX9_append_12 (by decide) h
def wX9_cutTo (l1 : Int) (σ : Mem) (Q : Int → Mem → Prop) : Prop := ((l1 < 0 → Q 0 σ) ∧ (¬ l1 < 0 → ((l1 ≤ σ 5 1 → (∀ m1 : Mem, m1 = up2 σ 5 1 l1 → Q 1 m1)) ∧ (¬ l1 ≤ σ 5 1 → Q 0 σ))))
set_option maxHeartbeats 1000000 in
theorem kX9_cutTo {l1 : Int} {σ : Mem} {Q : Int → Mem → Prop} (h : wX9_cutTo l1 σ Q) (l : Launch) (D : va_G) (cy : Nat → ClassId) (ad : Nat → Nat) : MI l yX9_cutTo cX9_cutTo 2 (some .boolean) 0 0 D cy ad [vR 5, vI l1] σ Q := by
  refine m_I (own := RX9) (lv := [(0, vR 5), (1, vI l1)]) (by decide +kernel) rfl (Nat.le_of_ble_eq_true rfl) rfl (fun E hR => ?_) l D cy ad
  unfold wX9_cutTo at h
  refine g_iload_n dX9_cutTo_0 rfl ?_
  obtain ⟨hA, hB⟩ := h
  refine g_if_lt (tgt := 12) dX9_cutTo_1 (by decide) (fun hc => ?_) (fun hc => ?_)
  · replace h := hA hc
    refine g_iconst dX9_cutTo_12 0 rfl (by decide) ?_
    exact g_zret hR dX9_cutTo_13 (by decide) h
  · replace h := hB hc
    refine g_iload_n dX9_cutTo_4 rfl ?_
    refine g_aload_n dX9_cutTo_5 rfl ?_
    refine g_getI fl_9_15 kd_5 rfl dX9_cutTo_6 ?_
    obtain ⟨hA, hB⟩ := h
    refine g_icmp_le (tgt := 14) dX9_cutTo_9 (by decide) (fun hc => ?_) (fun hc => ?_)
    · replace h := hA hc
      refine g_aload_n dX9_cutTo_14 rfl ?_
      refine g_iload_n dX9_cutTo_15 rfl ?_
      refine g_putI fp_9_15 kd_5 rfl dX9_cutTo_16 ?_
      refine g_nm (fun m1 em1 => ?_)
      replace h := h m1 em1
      refine g_iconst dX9_cutTo_19 1 rfl (by decide) ?_
      exact g_zret hR dX9_cutTo_20 (by decide) h
    · replace h := hB hc
      refine g_iconst dX9_cutTo_12 0 rfl (by decide) ?_
      exact g_zret hR dX9_cutTo_13 (by decide) h
def wX9_empty (σ : Mem) (Q : Mem → Prop) : Prop := (∀ m1 : Mem, m1 = up2 σ 5 1 0 → Q m1)
set_option maxHeartbeats 1000000 in
theorem kX9_empty {σ : Mem} {Q : Mem → Prop} (h : wX9_empty σ Q) (l : Launch) (D : va_G) (cy : Nat → ClassId) (ad : Nat → Nat) : MV l yX9_empty cX9_empty 1 none 0 0 D cy ad [vR 5] σ Q := by
  refine m_V (own := RX9) (lv := [(0, vR 5)]) (by decide +kernel) rfl (Nat.le_of_ble_eq_true rfl) rfl (fun E hR => ?_) l D cy ad
  unfold wX9_empty at h
  refine g_aload_n dX9_empty_0 rfl ?_
  refine g_iconst dX9_empty_1 0 rfl (by decide) ?_
  refine g_putI fp_9_15 kd_5 rfl dX9_empty_2 ?_
  refine g_nm (fun m1 em1 => ?_)
  replace h := h m1 em1
  exact g_vret hR dX9_empty_5 h
def wX9_signAt (l1 : Int) (σ : Mem) (Q : Int → Mem → Prop) : Prop := ((l1 < 0 → Q ((-1)) σ) ∧ (¬ l1 < 0 → ((σ 5 1 ≤ l1 → Q ((-1)) σ) ∧ (¬ σ 5 1 ≤ l1 → ((80 ≤ l1 → Q ((-1)) σ) ∧ (¬ 80 ≤ l1 → ((0 ≤ l1 ∧ l1 < 80) ∧ Q (σ 6 l1.toNat) σ)))))))
set_option maxHeartbeats 1000000 in
theorem kX9_signAt {l1 : Int} {σ : Mem} {Q : Int → Mem → Prop} (h : wX9_signAt l1 σ Q) (l : Launch) (D : va_G) (cy : Nat → ClassId) (ad : Nat → Nat) : MI l yX9_signAt cX9_signAt 2 (some .int) 0 0 D cy ad [vR 5, vI l1] σ Q := by
  refine m_I (own := RX9) (lv := [(0, vR 5), (1, vI l1)]) (by decide +kernel) rfl (Nat.le_of_ble_eq_true rfl) rfl (fun E hR => ?_) l D cy ad
  unfold wX9_signAt at h
  refine g_iload_n dX9_signAt_0 rfl ?_
  obtain ⟨hA, hB⟩ := h
  refine g_if_lt (tgt := 27) dX9_signAt_1 (by decide) (fun hc => ?_) (fun hc => ?_)
  · replace h := hA hc
    refine g_iconst dX9_signAt_27 (-1) rfl (by decide) ?_
    exact g_iret hR dX9_signAt_28 h
  · replace h := hB hc
    refine g_iload_n dX9_signAt_4 rfl ?_
    refine g_aload_n dX9_signAt_5 rfl ?_
    refine g_getI fl_9_15 kd_5 rfl dX9_signAt_6 ?_
    obtain ⟨hA, hB⟩ := h
    refine g_icmp_ge (tgt := 27) dX9_signAt_9 (by decide) (fun hc => ?_) (fun hc => ?_)
    · replace h := hA hc
      refine g_iconst dX9_signAt_27 (-1) rfl (by decide) ?_
      exact g_iret hR dX9_signAt_28 h
    · replace h := hB hc
      refine g_iload_n dX9_signAt_12 rfl ?_
      refine g_bipush dX9_signAt_13 80 rfl (by decide) ?_
      obtain ⟨hA, hB⟩ := h
      refine g_icmp_ge (tgt := 27) dX9_signAt_15 (by decide) (fun hc => ?_) (fun hc => ?_)
      · replace h := hA hc
        refine g_iconst dX9_signAt_27 (-1) rfl (by decide) ?_
        exact g_iret hR dX9_signAt_28 h
      · replace h := hB hc
        refine g_aload_n dX9_signAt_18 rfl ?_
        refine g_getR (r := 6) fl_9_9 kd_5 rfl dX9_signAt_19 ?_
        refine g_iload_n dX9_signAt_22 rfl ?_
        obtain ⟨hin, h⟩ := h
        refine g_iald kd_6 hin dX9_signAt_23 ?_
        refine g_goto (tgt := 28) dX9_signAt_24 (by decide) ?_
        exact g_iret hR dX9_signAt_28 h
def wX9_digitAt (l1 : Int) (σ : Mem) (Q : Int → Mem → Prop) : Prop := (wX9_signAt l1 σ (fun y2 m1 => ((y2 < 48 → Q ((-1)) m1) ∧ (¬ y2 < 48 → ((57 < y2 → Q ((-1)) m1) ∧ (¬ 57 < y2 → Q (w32 (y2 - 48)) m1))))))
set_option maxHeartbeats 1000000 in
theorem kX9_digitAt {l1 : Int} {σ : Mem} {Q : Int → Mem → Prop} (h : wX9_digitAt l1 σ Q) (l : Launch) (D : va_G) (cy : Nat → ClassId) (ad : Nat → Nat) : MI l yX9_digitAt cX9_digitAt 3 (some .int) 1 21 D cy ad [vR 5, vI l1] σ Q := by
  refine m_I (own := RX9) (lv := [(0, vR 5), (1, vI l1)]) (by decide +kernel) rfl (Nat.le_of_ble_eq_true rfl) rfl (fun E hR => ?_) l D cy ad
  unfold wX9_digitAt at h
  refine g_aload_n dX9_digitAt_0 rfl ?_
  refine g_iload_n dX9_digitAt_1 rfl ?_
  refine g_cVi (st := []) (av := [vI l1]) (kX9_signAt h) kd_5 rfl cw_RX9_19 (by decide) (by decide) (Nat.le_of_ble_eq_true rfl) rfl dX9_digitAt_2 (fun y2 m1 h => ?_)
  refine g_istore_n (lv' := [(2, vI y2), (0, vR 5), (1, vI l1)]) dX9_digitAt_5 (by decide) rfl ?_
  refine g_iload_n dX9_digitAt_6 rfl ?_
  refine g_bipush dX9_digitAt_7 48 rfl (by decide) ?_
  obtain ⟨hA, hB⟩ := h
  refine g_icmp_lt (tgt := 25) dX9_digitAt_9 (by decide) (fun hc => ?_) (fun hc => ?_)
  · replace h := hA hc
    refine g_iconst dX9_digitAt_25 (-1) rfl (by decide) ?_
    exact g_iret hR dX9_digitAt_26 h
  · replace h := hB hc
    refine g_iload_n dX9_digitAt_12 rfl ?_
    refine g_bipush dX9_digitAt_13 57 rfl (by decide) ?_
    obtain ⟨hA, hB⟩ := h
    refine g_icmp_gt (tgt := 25) dX9_digitAt_15 (by decide) (fun hc => ?_) (fun hc => ?_)
    · replace h := hA hc
      refine g_iconst dX9_digitAt_25 (-1) rfl (by decide) ?_
      exact g_iret hR dX9_digitAt_26 h
    · replace h := hB hc
      refine g_iload_n dX9_digitAt_18 rfl ?_
      refine g_bipush dX9_digitAt_19 48 rfl (by decide) ?_
      refine g_isub dX9_digitAt_21 ?_
      refine g_goto (tgt := 26) dX9_digitAt_22 (by decide) ?_
      exact g_iret hR dX9_digitAt_26 h
def wX9_letterAt (l1 : Int) (l2 : Int) (σ : Mem) (Q : Int → Mem → Prop) : Prop := (wX9_signAt l1 σ (fun y2 m1 => ((y2 < 97 → Q ((-1)) m1) ∧ (¬ y2 < 97 → ((w32 (97 + l2) ≤ y2 → Q ((-1)) m1) ∧ (¬ w32 (97 + l2) ≤ y2 → Q (w32 (y2 - 97)) m1))))))
set_option maxHeartbeats 1000000 in
theorem kX9_letterAt {l1 : Int} {l2 : Int} {σ : Mem} {Q : Int → Mem → Prop} (h : wX9_letterAt l1 l2 σ Q) (l : Launch) (D : va_G) (cy : Nat → ClassId) (ad : Nat → Nat) : MI l yX9_letterAt cX9_letterAt 4 (some .int) 1 21 D cy ad [vR 5, vI l1, vI l2] σ Q := by
  refine m_I (own := RX9) (lv := [(0, vR 5), (1, vI l1), (2, vI l2)]) (by decide +kernel) rfl (Nat.le_of_ble_eq_true rfl) rfl (fun E hR => ?_) l D cy ad
  unfold wX9_letterAt at h
  refine g_aload_n dX9_letterAt_0 rfl ?_
  refine g_iload_n dX9_letterAt_1 rfl ?_
  refine g_cVi (st := []) (av := [vI l1]) (kX9_signAt h) kd_5 rfl cw_RX9_19 (by decide) (by decide) (Nat.le_of_ble_eq_true rfl) rfl dX9_letterAt_2 (fun y2 m1 h => ?_)
  refine g_istore_n (lv' := [(3, vI y2), (0, vR 5), (1, vI l1), (2, vI l2)]) dX9_letterAt_5 (by decide) rfl ?_
  refine g_iload_n dX9_letterAt_6 rfl ?_
  refine g_bipush dX9_letterAt_7 97 rfl (by decide) ?_
  obtain ⟨hA, hB⟩ := h
  refine g_icmp_lt (tgt := 27) dX9_letterAt_9 (by decide) (fun hc => ?_) (fun hc => ?_)
  · replace h := hA hc
    refine g_iconst dX9_letterAt_27 (-1) rfl (by decide) ?_
    exact g_iret hR dX9_letterAt_28 h
  · replace h := hB hc
    refine g_iload_n dX9_letterAt_12 rfl ?_
    refine g_bipush dX9_letterAt_13 97 rfl (by decide) ?_
    refine g_iload_n dX9_letterAt_15 rfl ?_
    refine g_iadd dX9_letterAt_16 ?_
    obtain ⟨hA, hB⟩ := h
    refine g_icmp_ge (tgt := 27) dX9_letterAt_17 (by decide) (fun hc => ?_) (fun hc => ?_)
    · replace h := hA hc
      refine g_iconst dX9_letterAt_27 (-1) rfl (by decide) ?_
      exact g_iret hR dX9_letterAt_28 h
    · replace h := hB hc
      refine g_iload_n dX9_letterAt_20 rfl ?_
      refine g_bipush dX9_letterAt_21 97 rfl (by decide) ?_
      refine g_isub dX9_letterAt_23 ?_
      refine g_goto (tgt := 28) dX9_letterAt_24 (by decide) ?_
      exact g_iret hR dX9_letterAt_28 h
def wX9_numberAt_5 (K5 : (Int × Int × Int × Int) → Mem → Prop) (Q : Int → Mem → Prop) (l1 : Int) (l2 : Int) (l3 : Int) (l4 : Int) (σ : Mem) : Prop := ((w32 (l1 + l2) ≤ l4 → Q l3 σ) ∧ (¬ w32 (l1 + l2) ≤ l4 → (wX9_digitAt l4 σ (fun y2 m1 => ((0 ≤ y2 → (∀ x3 : Int, x3 = w32 ((w32 (10 * l3)) + y2) → (∀ x4 : Int, x4 = w32 (l4 + 1) → K5 (l1, l2, x3, x4) m1))) ∧ (¬ 0 ≤ y2 → Q (w32 (((-1)) - l4)) m1))))))
def wLX9_numberAt_5 (Q : Int → Mem → Prop) (l1 : Int) (l2 : Int) (l3 : Int) (l4 : Int) (σ : Mem) : Prop := ∃ n, lp (fun (K5 : (Int × Int × Int × Int) → Mem → Prop) (x : Int × Int × Int × Int) (σ : Mem) => wX9_numberAt_5 K5 Q x.1 x.2.1 x.2.2.1 x.2.2.2 σ) n (l1, l2, l3, l4) σ
def wX9_numberAt (l1 : Int) (l2 : Int) (σ : Mem) (Q : Int → Mem → Prop) : Prop := wLX9_numberAt_5 Q l1 l2 0 l1 σ
set_option maxHeartbeats 1000000 in
theorem bX9_numberAt_5 {E : TE} {K5 : (Int × Int × Int × Int) → Mem → Prop} (hK5 : ∀ (x : Int × Int × Int × Int) (σ : Mem), K5 x σ → GW E cX9_numberAt 6 RX9 2 43 σ 5 [(0, vR 5), (1, vI x.1), (2, vI x.2.1), (3, vI x.2.2.1), (4, vI x.2.2.2)] []) {Q : Int → Mem → Prop} (hR : RI E (some .int) Q) {l1 : Int} {l2 : Int} {l3 : Int} {l4 : Int} {σ : Mem} (h : wX9_numberAt_5 K5 Q l1 l2 l3 l4 σ) : GW E cX9_numberAt 6 RX9 2 43 σ 5 [(0, vR 5), (1, vI l1), (2, vI l2), (3, vI l3), (4, vI l4)] [] := by
  unfold wX9_numberAt_5 at h
  refine g_iload dX9_numberAt_5 rfl ?_
  refine g_iload_n dX9_numberAt_7 rfl ?_
  refine g_iload_n dX9_numberAt_8 rfl ?_
  refine g_iadd dX9_numberAt_9 ?_
  obtain ⟨hA, hB⟩ := h
  refine g_icmp_ge (tgt := 45) dX9_numberAt_10 (by decide) (fun hc => ?_) (fun hc => ?_)
  · replace h := hA hc
    refine g_iload_n dX9_numberAt_45 rfl ?_
    exact g_iret hR dX9_numberAt_46 h
  · replace h := hB hc
    refine g_aload_n dX9_numberAt_13 rfl ?_
    refine g_iload dX9_numberAt_14 rfl ?_
    refine g_cVi (st := []) (av := [vI l4]) (kX9_digitAt h) kd_5 rfl cw_RX9_23 (by decide) (by decide) (Nat.le_of_ble_eq_true rfl) rfl dX9_numberAt_16 (fun y2 m1 h => ?_)
    refine g_istore (lv' := [(5, vI y2), (0, vR 5), (1, vI l1), (2, vI l2), (3, vI l3), (4, vI l4)]) dX9_numberAt_19 (by decide) rfl ?_
    refine g_iload dX9_numberAt_21 rfl ?_
    obtain ⟨hA, hB⟩ := h
    refine g_if_ge (tgt := 31) dX9_numberAt_23 (by decide) (fun hc => ?_) (fun hc => ?_)
    · replace h := hA hc
      refine g_bipush dX9_numberAt_31 10 rfl (by decide) ?_
      refine g_iload_n dX9_numberAt_33 rfl ?_
      refine g_imul dX9_numberAt_34 ?_
      refine g_iload dX9_numberAt_35 rfl ?_
      refine g_iadd dX9_numberAt_37 ?_
      refine g_topI (fun x3 ex3 => ?_)
      replace h := h x3 ex3
      refine g_istore_n (lv' := [(3, vI x3), (5, vI y2), (0, vR 5), (1, vI l1), (2, vI l2), (4, vI l4)]) dX9_numberAt_38 (by decide) rfl ?_
      refine g_iinc (lv' := [(4, vI (w32 (l4 + 1))), (3, vI x3), (5, vI y2), (0, vR 5), (1, vI l1), (2, vI l2)]) dX9_numberAt_39 rfl (by decide) rfl ?_
      refine g_loc (a := w32 (l4 + 1)) (i := 4) (lv := [(3, vI x3), (5, vI y2), (0, vR 5), (1, vI l1), (2, vI l2)]) (fun x4 ex4 => ?_)
      replace h := h x4 ex4
      refine g_goto (tgt := 5) dX9_numberAt_42 (by decide) ?_
      refine g_lv (lv' := [(0, vR 5), (1, vI l1), (2, vI l2), (3, vI x3), (4, vI x4)]) [3, 4, 5, 1, 0] rfl ?_
      exact hK5 ((l1, l2, x3, x4)) m1 h
    · replace h := hB hc
      refine g_iconst dX9_numberAt_26 (-1) rfl (by decide) ?_
      refine g_iload dX9_numberAt_27 rfl ?_
      refine g_isub dX9_numberAt_29 ?_
      exact g_iret hR dX9_numberAt_30 h
theorem eX9_numberAt_5 {E : TE} {Q : Int → Mem → Prop} (hR : RI E (some .int) Q) {l1 : Int} {l2 : Int} {l3 : Int} {l4 : Int} {σ : Mem} (h : wLX9_numberAt_5 Q l1 l2 l3 l4 σ) : GW E cX9_numberAt 6 RX9 2 43 σ 5 [(0, vR 5), (1, vI l1), (2, vI l2), (3, vI l3), (4, vI l4)] [] := by
  obtain ⟨n, h⟩ := h
  exact lp_GW (P := fun (x : Int × Int × Int × Int) (σ : Mem) => GW E cX9_numberAt 6 RX9 2 43 σ 5 [(0, vR 5), (1, vI x.1), (2, vI x.2.1), (3, vI x.2.2.1), (4, vI x.2.2.2)] []) (fun K hK x σ h  => bX9_numberAt_5 hK hR h) n _ σ h 
set_option maxHeartbeats 1000000 in
theorem kX9_numberAt {l1 : Int} {l2 : Int} {σ : Mem} {Q : Int → Mem → Prop} (h : wX9_numberAt l1 l2 σ Q) (l : Launch) (D : va_G) (cy : Nat → ClassId) (ad : Nat → Nat) : MI l yX9_numberAt cX9_numberAt 6 (some .int) 2 43 D cy ad [vR 5, vI l1, vI l2] σ Q := by
  refine m_I (own := RX9) (lv := [(0, vR 5), (1, vI l1), (2, vI l2)]) (by decide +kernel) rfl (Nat.le_of_ble_eq_true rfl) rfl (fun E hR => ?_) l D cy ad
  unfold wX9_numberAt at h
  refine g_iconst dX9_numberAt_0 0 rfl (by decide) ?_
  refine g_istore_n (lv' := [(3, vI 0), (0, vR 5), (1, vI l1), (2, vI l2)]) dX9_numberAt_1 (by decide) rfl ?_
  refine g_iload_n dX9_numberAt_2 rfl ?_
  refine g_istore (lv' := [(4, vI l1), (3, vI 0), (0, vR 5), (1, vI l1), (2, vI l2)]) dX9_numberAt_3 (by decide) rfl ?_
  refine g_lv (lv' := [(0, vR 5), (1, vI l1), (2, vI l2), (3, vI 0), (4, vI l1)]) [2, 3, 4, 1, 0] rfl ?_
  exact eX9_numberAt_5 hR h
def wX9_readClub_99 (b1 : Nat) (Q : Int → Mem → Prop) (l6 : Int) (σ : Mem) : Prop := Q (w32 (((-1)) - (w32 (l6 + 1)))) σ
def wX9_readClub_32 (b1 : Nat) (K32 : (Int × Int × Int × Int) → Mem → Prop) (Q : Int → Mem → Prop) (l2 : Int) (l3 : Int) (l5 : Int) (l6 : Int) (σ : Mem) : Prop := ((σ 5 1 ≤ l6 → Q l5 σ) ∧ (¬ σ 5 1 ≤ l6 → (wX9_letterAt l6 l2 σ (fun y2 m1 => ((0 ≤ y2 → (wX9_letterAt (w32 (l6 + 1)) l2 m1 (fun y4 m3 => ((y4 < 0 → wX9_readClub_99 b1 Q l6 m3) ∧ (¬ y4 < 0 → ((y4 = y2 → wX9_readClub_99 b1 Q l6 m3) ∧ (¬ y4 = y2 → (wX10_at y2 y4 m3 (fun y6 m5 => ((¬ lcmpI (lband (lushr l3 y6) 1) 1 = 0 → (wX9_numberAt (w32 (l6 + 2)) 3 m5 (fun y8 m7 => ((0 ≤ y8 → (wX10_at y2 y4 m7 (fun y10 m9 => ((0 ≤ y10 ∧ y10 < 64) ∧ (∀ m11 : Mem, m11 = up2 m9 (b1 + 1) y10.toNat y8 → (wX10_at y2 y4 m11 (fun y13 m12 => (∀ x14 : Int, x14 = lbor l3 (lshl 1 y13) → (∀ x15 : Int, x15 = w32 (l5 + 1) → (∀ x16 : Int, x16 = w32 (l6 + 5) → K32 (l2, x14, x15, x16) m12)))))))))) ∧ (¬ 0 ≤ y8 → Q y8 m7))))) ∧ (lcmpI (lband (lushr l3 y6) 1) 1 = 0 → wX9_readClub_99 b1 Q l6 m5))))))))))) ∧ (¬ 0 ≤ y2 → Q (w32 (((-1)) - l6)) m1))))))
def wLX9_readClub_32 (b1 : Nat) (Q : Int → Mem → Prop) (l2 : Int) (l3 : Int) (l5 : Int) (l6 : Int) (σ : Mem) : Prop := ∃ n, lp (fun (K32 : (Int × Int × Int × Int) → Mem → Prop) (x : Int × Int × Int × Int) (σ : Mem) => wX9_readClub_32 b1 K32 Q x.1 x.2.1 x.2.2.1 x.2.2.2 σ) n (l2, l3, l5, l6) σ
def wX9_readClub (b1 : Nat) (σ : Mem) (Q : Int → Mem → Prop) : Prop := (wX9_digitAt 0 σ (fun y2 m1 => ((y2 < 2 → Q ((-1)) m1) ∧ (¬ y2 < 2 → ((y2 ≤ 8 → (wX1_startAnew b1 y2 m1 (fun m3 => wLX9_readClub_32 b1 Q y2 0 0 1 m3))) ∧ (¬ y2 ≤ 8 → Q ((-1)) m1))))))
set_option maxHeartbeats 1000000 in
theorem bX9_readClub_99 {E : TE} {b1 : Nat} (hb1 : isBk b1) {Q : Int → Mem → Prop} (hR : RI E (some .int) Q) {l6 : Int} {σ : Mem} (h : wX9_readClub_99 b1 Q l6 σ) : GW E cX9_readClub 10 RX9 3 68 σ 99 [(6, vI l6)] [] := by
  unfold wX9_readClub_99 at h
  refine g_iconst dX9_readClub_99 (-1) rfl (by decide) ?_
  refine g_iload dX9_readClub_100 rfl ?_
  refine g_iconst dX9_readClub_102 1 rfl (by decide) ?_
  refine g_iadd dX9_readClub_103 ?_
  refine g_isub dX9_readClub_104 ?_
  exact g_iret hR dX9_readClub_105 h
set_option maxHeartbeats 1000000 in
theorem bX9_readClub_32 {E : TE} {b1 : Nat} (hb1 : isBk b1) {K32 : (Int × Int × Int × Int) → Mem → Prop} (hK32 : ∀ (x : Int × Int × Int × Int) (σ : Mem), K32 x σ → GW E cX9_readClub 10 RX9 3 68 σ 32 [(0, vR 5), (1, vR b1), (2, vI x.1), (3, vL x.2.1), (5, vI x.2.2.1), (6, vI x.2.2.2)] []) {Q : Int → Mem → Prop} (hR : RI E (some .int) Q) {l2 : Int} {l3 : Int} {l5 : Int} {l6 : Int} {σ : Mem} (h : wX9_readClub_32 b1 K32 Q l2 l3 l5 l6 σ) : GW E cX9_readClub 10 RX9 3 68 σ 32 [(0, vR 5), (1, vR b1), (2, vI l2), (3, vL l3), (5, vI l5), (6, vI l6)] [] := by
  unfold wX9_readClub_32 at h
  refine g_iload dX9_readClub_32 rfl ?_
  refine g_aload_n dX9_readClub_34 rfl ?_
  refine g_getI fl_9_15 kd_5 rfl dX9_readClub_35 ?_
  obtain ⟨hA, hB⟩ := h
  refine g_icmp_ge (tgt := 160) dX9_readClub_38 (by decide) (fun hc => ?_) (fun hc => ?_)
  · replace h := hA hc
    refine g_iload dX9_readClub_160 rfl ?_
    exact g_iret hR dX9_readClub_162 h
  · replace h := hB hc
    refine g_aload_n dX9_readClub_41 rfl ?_
    refine g_iload dX9_readClub_42 rfl ?_
    refine g_iload_n dX9_readClub_44 rfl ?_
    refine g_cVi (st := []) (av := [vI l6, vI l2]) (kX9_letterAt h) kd_5 rfl cw_RX9_32 (by decide) (by decide) (Nat.le_of_ble_eq_true rfl) rfl dX9_readClub_45 (fun y2 m1 h => ?_)
    refine g_istore (lv' := [(7, vI y2), (0, vR 5), (1, vR b1), (2, vI l2), (3, vL l3), (5, vI l5), (6, vI l6)]) dX9_readClub_48 (by decide) rfl ?_
    refine g_iload dX9_readClub_50 rfl ?_
    obtain ⟨hA, hB⟩ := h
    refine g_if_ge (tgt := 60) dX9_readClub_52 (by decide) (fun hc => ?_) (fun hc => ?_)
    · replace h := hA hc
      refine g_aload_n dX9_readClub_60 rfl ?_
      refine g_iload dX9_readClub_61 rfl ?_
      refine g_iconst dX9_readClub_63 1 rfl (by decide) ?_
      refine g_iadd dX9_readClub_64 ?_
      refine g_iload_n dX9_readClub_65 rfl ?_
      refine g_cVi (st := []) (av := [vI (w32 (l6 + 1)), vI l2]) (kX9_letterAt h) kd_5 rfl cw_RX9_32 (by decide) (by decide) (Nat.le_of_ble_eq_true rfl) rfl dX9_readClub_66 (fun y4 m3 h => ?_)
      refine g_istore (lv' := [(8, vI y4), (7, vI y2), (0, vR 5), (1, vR b1), (2, vI l2), (3, vL l3), (5, vI l5), (6, vI l6)]) dX9_readClub_69 (by decide) rfl ?_
      refine g_iload dX9_readClub_71 rfl ?_
      obtain ⟨hA, hB⟩ := h
      refine g_if_lt (tgt := 99) dX9_readClub_73 (by decide) (fun hc => ?_) (fun hc => ?_)
      · replace h := hA hc
        refine g_lv (lv' := [(6, vI l6)]) [7] rfl ?_
        exact bX9_readClub_99 hb1 hR h
      · replace h := hB hc
        refine g_iload dX9_readClub_76 rfl ?_
        refine g_iload dX9_readClub_78 rfl ?_
        obtain ⟨hA, hB⟩ := h
        refine g_icmp_eq (tgt := 99) dX9_readClub_80 (by decide) (fun hc => ?_) (fun hc => ?_)
        · replace h := hA hc
          refine g_lv (lv' := [(6, vI l6)]) [7] rfl ?_
          exact bX9_readClub_99 hb1 hR h
        · replace h := hB hc
          refine g_lload_n dX9_readClub_83 rfl ?_
          refine g_iload dX9_readClub_84 rfl ?_
          refine g_iload dX9_readClub_86 rfl ?_
          refine g_cNi (st := [vL l3]) (av := [vI y2, vI y4]) (kX10_at h) cw_RX9_36 (by decide) (by decide) (Nat.le_of_ble_eq_true rfl) rfl dX9_readClub_88 (fun y6 m5 h => ?_)
          refine g_lushr dX9_readClub_91 ?_
          refine g_lconst dX9_readClub_92 1 rfl (by decide) ?_
          refine g_land dX9_readClub_93 ?_
          refine g_lconst dX9_readClub_94 1 rfl (by decide) ?_
          refine g_lcmp dX9_readClub_95 ?_
          obtain ⟨hA, hB⟩ := h
          refine g_if_ne (tgt := 106) dX9_readClub_96 (by decide) (fun hc => ?_) (fun hc => ?_)
          · replace h := hA hc
            refine g_aload_n dX9_readClub_106 rfl ?_
            refine g_iload dX9_readClub_107 rfl ?_
            refine g_iconst dX9_readClub_109 2 rfl (by decide) ?_
            refine g_iadd dX9_readClub_110 ?_
            refine g_iconst dX9_readClub_111 3 rfl (by decide) ?_
            refine g_cVi (st := []) (av := [vI (w32 (l6 + 2)), vI 3]) (kX9_numberAt h) kd_5 rfl cw_RX9_39 (by decide) (by decide) (Nat.le_of_ble_eq_true rfl) rfl dX9_readClub_112 (fun y8 m7 h => ?_)
            refine g_istore (lv' := [(9, vI y8), (8, vI y4), (7, vI y2), (0, vR 5), (1, vR b1), (2, vI l2), (3, vL l3), (5, vI l5), (6, vI l6)]) dX9_readClub_115 (by decide) rfl ?_
            refine g_iload dX9_readClub_117 rfl ?_
            obtain ⟨hA, hB⟩ := h
            refine g_if_ge (tgt := 125) dX9_readClub_119 (by decide) (fun hc => ?_) (fun hc => ?_)
            · replace h := hA hc
              refine g_aload_n dX9_readClub_125 rfl ?_
              refine g_getR (r := b1 + 1) fl_9_42 (kd_bk0 hb1) rfl dX9_readClub_126 ?_
              refine g_iload dX9_readClub_129 rfl ?_
              refine g_iload dX9_readClub_131 rfl ?_
              refine g_cNi (st := [vR (b1 + 1)]) (av := [vI y2, vI y4]) (kX10_at h) cw_RX9_36 (by decide) (by decide) (Nat.le_of_ble_eq_true rfl) rfl dX9_readClub_133 (fun y10 m9 h => ?_)
              refine g_iload dX9_readClub_136 rfl ?_
              obtain ⟨hin, h⟩ := h
              refine g_iast (kd_bk1 hb1) hin dX9_readClub_138 ?_
              refine g_nm (fun m11 em11 => ?_)
              replace h := h m11 em11
              refine g_lload_n dX9_readClub_139 rfl ?_
              refine g_lconst dX9_readClub_140 1 rfl (by decide) ?_
              refine g_iload dX9_readClub_141 rfl ?_
              refine g_iload dX9_readClub_143 rfl ?_
              refine g_cNi (st := [vL 1, vL l3]) (av := [vI y2, vI y4]) (kX10_at h) cw_RX9_36 (by decide) (by decide) (Nat.le_of_ble_eq_true rfl) rfl dX9_readClub_145 (fun y13 m12 h => ?_)
              refine g_lshl dX9_readClub_148 ?_
              refine g_lor dX9_readClub_149 ?_
              refine g_topL (fun x14 ex14 => ?_)
              replace h := h x14 ex14
              refine g_lstore_n (lv' := [(3, vL x14), (9, vI y8), (8, vI y4), (7, vI y2), (0, vR 5), (1, vR b1), (2, vI l2), (5, vI l5), (6, vI l6)]) dX9_readClub_150 (by decide) rfl ?_
              refine g_iinc (lv' := [(5, vI (w32 (l5 + 1))), (3, vL x14), (9, vI y8), (8, vI y4), (7, vI y2), (0, vR 5), (1, vR b1), (2, vI l2), (6, vI l6)]) dX9_readClub_151 rfl (by decide) rfl ?_
              refine g_loc (a := w32 (l5 + 1)) (i := 5) (lv := [(3, vL x14), (9, vI y8), (8, vI y4), (7, vI y2), (0, vR 5), (1, vR b1), (2, vI l2), (6, vI l6)]) (fun x15 ex15 => ?_)
              replace h := h x15 ex15
              refine g_iinc (lv' := [(6, vI (w32 (l6 + 5))), (5, vI x15), (3, vL x14), (9, vI y8), (8, vI y4), (7, vI y2), (0, vR 5), (1, vR b1), (2, vI l2)]) dX9_readClub_154 rfl (by decide) rfl ?_
              refine g_loc (a := w32 (l6 + 5)) (i := 6) (lv := [(5, vI x15), (3, vL x14), (9, vI y8), (8, vI y4), (7, vI y2), (0, vR 5), (1, vR b1), (2, vI l2)]) (fun x16 ex16 => ?_)
              replace h := h x16 ex16
              refine g_goto (tgt := 32) dX9_readClub_157 (by decide) ?_
              refine g_lv (lv' := [(0, vR 5), (1, vR b1), (2, vI l2), (3, vL x14), (5, vI x15), (6, vI x16)]) [6, 7, 8, 2, 1, 0] rfl ?_
              exact hK32 ((l2, x14, x15, x16)) m12 h
            · replace h := hB hc
              refine g_iload dX9_readClub_122 rfl ?_
              exact g_iret hR dX9_readClub_124 h
          · replace h := hB hc
            refine g_lv (lv' := [(6, vI l6)]) [7] rfl ?_
            exact bX9_readClub_99 hb1 hR h
    · replace h := hB hc
      refine g_iconst dX9_readClub_55 (-1) rfl (by decide) ?_
      refine g_iload dX9_readClub_56 rfl ?_
      refine g_isub dX9_readClub_58 ?_
      exact g_iret hR dX9_readClub_59 h
theorem eX9_readClub_32 {E : TE} {b1 : Nat} (hb1 : isBk b1) {Q : Int → Mem → Prop} (hR : RI E (some .int) Q) {l2 : Int} {l3 : Int} {l5 : Int} {l6 : Int} {σ : Mem} (h : wLX9_readClub_32 b1 Q l2 l3 l5 l6 σ) : GW E cX9_readClub 10 RX9 3 68 σ 32 [(0, vR 5), (1, vR b1), (2, vI l2), (3, vL l3), (5, vI l5), (6, vI l6)] [] := by
  obtain ⟨n, h⟩ := h
  exact lp_GW (P := fun (x : Int × Int × Int × Int) (σ : Mem) => GW E cX9_readClub 10 RX9 3 68 σ 32 [(0, vR 5), (1, vR b1), (2, vI x.1), (3, vL x.2.1), (5, vI x.2.2.1), (6, vI x.2.2.2)] []) (fun K hK x σ h  => bX9_readClub_32 hb1 hK hR h) n _ σ h 
set_option maxHeartbeats 1000000 in
theorem kX9_readClub {b1 : Nat} (hb1 : isBk b1) {σ : Mem} {Q : Int → Mem → Prop} (h : wX9_readClub b1 σ Q) (l : Launch) (D : va_G) (cy : Nat → ClassId) (ad : Nat → Nat) : MI l yX9_readClub cX9_readClub 10 (some .int) 3 68 D cy ad [vR 5, vR b1] σ Q := by
  refine m_I (own := RX9) (lv := [(0, vR 5), (1, vR b1)]) (by decide +kernel) rfl (Nat.le_of_ble_eq_true rfl) rfl (fun E hR => ?_) l D cy ad
  unfold wX9_readClub at h
  refine g_aload_n dX9_readClub_0 rfl ?_
  refine g_iconst dX9_readClub_1 0 rfl (by decide) ?_
  refine g_cVi (st := []) (av := [vI 0]) (kX9_digitAt h) kd_5 rfl cw_RX9_23 (by decide) (by decide) (Nat.le_of_ble_eq_true rfl) rfl dX9_readClub_2 (fun y2 m1 h => ?_)
  refine g_istore_n (lv' := [(2, vI y2), (0, vR 5), (1, vR b1)]) dX9_readClub_5 (by decide) rfl ?_
  refine g_iload_n dX9_readClub_6 rfl ?_
  refine g_iconst dX9_readClub_7 2 rfl (by decide) ?_
  obtain ⟨hA, hB⟩ := h
  refine g_icmp_lt (tgt := 17) dX9_readClub_8 (by decide) (fun hc => ?_) (fun hc => ?_)
  · replace h := hA hc
    refine g_iconst dX9_readClub_17 (-1) rfl (by decide) ?_
    exact g_iret hR dX9_readClub_18 h
  · replace h := hB hc
    refine g_iload_n dX9_readClub_11 rfl ?_
    refine g_bipush dX9_readClub_12 8 rfl (by decide) ?_
    obtain ⟨hA, hB⟩ := h
    refine g_icmp_le (tgt := 19) dX9_readClub_14 (by decide) (fun hc => ?_) (fun hc => ?_)
    · replace h := hA hc
      refine g_aload_n dX9_readClub_19 rfl ?_
      refine g_iload_n dX9_readClub_20 rfl ?_
      refine g_cVv (st := []) (av := [vI y2]) (kX1_startAnew hb1 h) (kd_bk0 hb1) rfl cw_RX9_26 (by decide) (by decide) (Nat.le_of_ble_eq_true rfl) rfl dX9_readClub_21 (fun m3 h => ?_)
      refine g_lconst dX9_readClub_24 0 rfl (by decide) ?_
      refine g_lstore_n (lv' := [(3, vL 0), (2, vI y2), (0, vR 5), (1, vR b1)]) dX9_readClub_25 (by decide) rfl ?_
      refine g_iconst dX9_readClub_26 0 rfl (by decide) ?_
      refine g_istore (lv' := [(5, vI 0), (3, vL 0), (2, vI y2), (0, vR 5), (1, vR b1)]) dX9_readClub_27 (by decide) rfl ?_
      refine g_iconst dX9_readClub_29 1 rfl (by decide) ?_
      refine g_istore (lv' := [(6, vI 1), (5, vI 0), (3, vL 0), (2, vI y2), (0, vR 5), (1, vR b1)]) dX9_readClub_30 (by decide) rfl ?_
      refine g_lv (lv' := [(0, vR 5), (1, vR b1), (2, vI y2), (3, vL 0), (5, vI 0), (6, vI 1)]) [4, 5, 3, 2, 1, 0] rfl ?_
      exact eX9_readClub_32 hb1 hR h
    · replace h := hB hc
      refine g_iconst dX9_readClub_17 (-1) rfl (by decide) ?_
      exact g_iret hR dX9_readClub_18 h
def wX0_add (l1 : Int) (l2 : Int) (l3 : Int) (l4 : Int) (σ : Mem) (Q : Mem → Prop) : Prop := ((80 ≤ σ 7 4 → Q σ) ∧ (¬ 80 ≤ σ 7 4 → ((0 ≤ σ 7 4 ∧ σ 7 4 < 80) ∧ (∀ m1 : Mem, m1 = up2 σ 8 (σ 7 4).toNat l1 → ((0 ≤ m1 7 4 ∧ m1 7 4 < 80) ∧ (∀ m2 : Mem, m2 = up2 m1 9 (m1 7 4).toNat l2 → ((0 ≤ m2 7 4 ∧ m2 7 4 < 80) ∧ (∀ m3 : Mem, m3 = up2 m2 10 (m2 7 4).toNat l3 → ((0 ≤ m3 7 4 ∧ m3 7 4 < 80) ∧ (∀ m4 : Mem, m4 = up2 m3 11 (m3 7 4).toNat l4 → (∀ m5 : Mem, m5 = up2 m4 7 4 (w32 ((m4 7 4) + 1)) → Q m5)))))))))))
set_option maxHeartbeats 1000000 in
theorem kX0_add {l1 : Int} {l2 : Int} {l3 : Int} {l4 : Int} {σ : Mem} {Q : Mem → Prop} (h : wX0_add l1 l2 l3 l4 σ Q) (l : Launch) (D : va_G) (cy : Nat → ClassId) (ad : Nat → Nat) : MV l yX0_add cX0_add 5 none 0 0 D cy ad [vR 7, vI l1, vI l2, vI l3, vI l4] σ Q := by
  refine m_V (own := RX0) (lv := [(0, vR 7), (1, vI l1), (2, vI l2), (3, vI l3), (4, vI l4)]) (by decide +kernel) rfl (Nat.le_of_ble_eq_true rfl) rfl (fun E hR => ?_) l D cy ad
  unfold wX0_add at h
  refine g_aload_n dX0_add_0 rfl ?_
  refine g_getI fl_0_24 kd_7 rfl dX0_add_1 ?_
  refine g_bipush dX0_add_4 80 rfl (by decide) ?_
  obtain ⟨hA, hB⟩ := h
  refine g_icmp_ge (tgt := 60) dX0_add_6 (by decide) (fun hc => ?_) (fun hc => ?_)
  · replace h := hA hc
    exact g_vret hR dX0_add_60 h
  · replace h := hB hc
    refine g_aload_n dX0_add_9 rfl ?_
    refine g_getR (r := 8) fl_0_9 kd_7 rfl dX0_add_10 ?_
    refine g_aload_n dX0_add_13 rfl ?_
    refine g_getI fl_0_24 kd_7 rfl dX0_add_14 ?_
    refine g_iload_n dX0_add_17 rfl ?_
    obtain ⟨hin, h⟩ := h
    refine g_iast kd_8 hin dX0_add_18 ?_
    refine g_nm (fun m1 em1 => ?_)
    replace h := h m1 em1
    refine g_aload_n dX0_add_19 rfl ?_
    refine g_getR (r := 9) fl_0_15 kd_7 rfl dX0_add_20 ?_
    refine g_aload_n dX0_add_23 rfl ?_
    refine g_getI fl_0_24 kd_7 rfl dX0_add_24 ?_
    refine g_iload_n dX0_add_27 rfl ?_
    obtain ⟨hin, h⟩ := h
    refine g_iast kd_9 hin dX0_add_28 ?_
    refine g_nm (fun m2 em2 => ?_)
    replace h := h m2 em2
    refine g_aload_n dX0_add_29 rfl ?_
    refine g_getR (r := 10) fl_0_18 kd_7 rfl dX0_add_30 ?_
    refine g_aload_n dX0_add_33 rfl ?_
    refine g_getI fl_0_24 kd_7 rfl dX0_add_34 ?_
    refine g_iload_n dX0_add_37 rfl ?_
    obtain ⟨hin, h⟩ := h
    refine g_iast kd_10 hin dX0_add_38 ?_
    refine g_nm (fun m3 em3 => ?_)
    replace h := h m3 em3
    refine g_aload_n dX0_add_39 rfl ?_
    refine g_getR (r := 11) fl_0_21 kd_7 rfl dX0_add_40 ?_
    refine g_aload_n dX0_add_43 rfl ?_
    refine g_getI fl_0_24 kd_7 rfl dX0_add_44 ?_
    refine g_iload dX0_add_47 rfl ?_
    obtain ⟨hin, h⟩ := h
    refine g_iast kd_11 hin dX0_add_49 ?_
    refine g_nm (fun m4 em4 => ?_)
    replace h := h m4 em4
    refine g_aload_n dX0_add_50 rfl ?_
    refine g_dup dX0_add_51 rfl ?_
    refine g_getI fl_0_24 kd_7 rfl dX0_add_52 ?_
    refine g_iconst dX0_add_55 1 rfl (by decide) ?_
    refine g_iadd dX0_add_56 ?_
    refine g_putI fp_0_24 kd_7 rfl dX0_add_57 ?_
    refine g_nm (fun m5 em5 => ?_)
    replace h := h m5 em5
    exact g_vret hR dX0_add_60 h
def wX0_readPayments_72 (Q : Int → Mem → Prop) (l4 : Int) (σ : Mem) : Prop := Q (w32 (((-1)) - (w32 (l4 + 1)))) σ
def wX0_readPayments_8 (K8 : (Int × Int × Int) → Mem → Prop) (Q : Int → Mem → Prop) (l2 : Int) (l3 : Int) (l4 : Int) (σ : Mem) : Prop := ((σ 5 1 ≤ l4 → Q (σ 7 4) σ) ∧ (¬ σ 5 1 ≤ l4 → ((σ 7 4 < l3 → (wX9_letterAt l4 l2 σ (fun y2 m1 => ((0 ≤ y2 → (wX9_letterAt (w32 (l4 + 1)) l2 m1 (fun y4 m3 => ((y4 < 0 → wX0_readPayments_72 Q l4 m3) ∧ (¬ y4 < 0 → ((¬ y4 = y2 → (wX9_numberAt (w32 (l4 + 2)) 4 m3 (fun y6 m5 => ((0 ≤ y6 → ((¬ y6 = 0 → (wX0_add 112 y2 y4 y6 m5 (fun m7 => (∀ x8 : Int, x8 = w32 (l4 + 6) → K8 (l2, l3, x8) m7)))) ∧ (y6 = 0 → Q (w32 (((-1)) - (w32 (l4 + 5)))) m5))) ∧ (¬ 0 ≤ y6 → Q y6 m5))))) ∧ (y4 = y2 → wX0_readPayments_72 Q l4 m3))))))) ∧ (¬ 0 ≤ y2 → Q (w32 (((-1)) - l4)) m1))))) ∧ (¬ σ 7 4 < l3 → Q (w32 (((-1)) - l4)) σ))))
def wLX0_readPayments_8 (Q : Int → Mem → Prop) (l2 : Int) (l3 : Int) (l4 : Int) (σ : Mem) : Prop := ∃ n, lp (fun (K8 : (Int × Int × Int) → Mem → Prop) (x : Int × Int × Int) (σ : Mem) => wX0_readPayments_8 K8 Q x.1 x.2.1 x.2.2 σ) n (l2, l3, l4) σ
def wX0_readPayments (l2 : Int) (l3 : Int) (σ : Mem) (Q : Int → Mem → Prop) : Prop := (∀ m1 : Mem, m1 = up2 σ 7 4 0 → wLX0_readPayments_8 Q l2 l3 0 m1)
set_option maxHeartbeats 1000000 in
theorem bX0_readPayments_72 {E : TE} {Q : Int → Mem → Prop} (hR : RI E (some .int) Q) {l4 : Int} {σ : Mem} (h : wX0_readPayments_72 Q l4 σ) : GW E cX0_readPayments 8 RX0 3 68 σ 72 [(4, vI l4)] [] := by
  unfold wX0_readPayments_72 at h
  refine g_iconst dX0_readPayments_72 (-1) rfl (by decide) ?_
  refine g_iload dX0_readPayments_73 rfl ?_
  refine g_iconst dX0_readPayments_75 1 rfl (by decide) ?_
  refine g_iadd dX0_readPayments_76 ?_
  refine g_isub dX0_readPayments_77 ?_
  exact g_iret hR dX0_readPayments_78 h
set_option maxHeartbeats 1000000 in
theorem bX0_readPayments_8 {E : TE} {K8 : (Int × Int × Int) → Mem → Prop} (hK8 : ∀ (x : Int × Int × Int) (σ : Mem), K8 x σ → GW E cX0_readPayments 8 RX0 3 68 σ 8 [(0, vR 7), (1, vR 5), (2, vI x.1), (3, vI x.2.1), (4, vI x.2.2)] []) {Q : Int → Mem → Prop} (hR : RI E (some .int) Q) {l2 : Int} {l3 : Int} {l4 : Int} {σ : Mem} (h : wX0_readPayments_8 K8 Q l2 l3 l4 σ) : GW E cX0_readPayments 8 RX0 3 68 σ 8 [(0, vR 7), (1, vR 5), (2, vI l2), (3, vI l3), (4, vI l4)] [] := by
  unfold wX0_readPayments_8 at h
  refine g_iload dX0_readPayments_8 rfl ?_
  refine g_aload_n dX0_readPayments_10 rfl ?_
  refine g_getI fl_0_28 kd_5 rfl dX0_readPayments_11 ?_
  obtain ⟨hA, hB⟩ := h
  refine g_icmp_ge (tgt := 128) dX0_readPayments_14 (by decide) (fun hc => ?_) (fun hc => ?_)
  · replace h := hA hc
    refine g_aload_n dX0_readPayments_128 rfl ?_
    refine g_getI fl_0_24 kd_7 rfl dX0_readPayments_129 ?_
    exact g_iret hR dX0_readPayments_132 h
  · replace h := hB hc
    refine g_aload_n dX0_readPayments_17 rfl ?_
    refine g_getI fl_0_24 kd_7 rfl dX0_readPayments_18 ?_
    refine g_iload_n dX0_readPayments_21 rfl ?_
    obtain ⟨hA, hB⟩ := h
    refine g_icmp_lt (tgt := 30) dX0_readPayments_22 (by decide) (fun hc => ?_) (fun hc => ?_)
    · replace h := hA hc
      refine g_aload_n dX0_readPayments_30 rfl ?_
      refine g_iload dX0_readPayments_31 rfl ?_
      refine g_iload_n dX0_readPayments_33 rfl ?_
      refine g_cVi (st := []) (av := [vI l4, vI l2]) (kX9_letterAt h) kd_5 rfl cw_RX0_33 (by decide) (by decide) (Nat.le_of_ble_eq_true rfl) rfl dX0_readPayments_34 (fun y2 m1 h => ?_)
      refine g_istore (lv' := [(5, vI y2), (0, vR 7), (1, vR 5), (2, vI l2), (3, vI l3), (4, vI l4)]) dX0_readPayments_37 (by decide) rfl ?_
      refine g_iload dX0_readPayments_39 rfl ?_
      obtain ⟨hA, hB⟩ := h
      refine g_if_ge (tgt := 49) dX0_readPayments_41 (by decide) (fun hc => ?_) (fun hc => ?_)
      · replace h := hA hc
        refine g_aload_n dX0_readPayments_49 rfl ?_
        refine g_iload dX0_readPayments_50 rfl ?_
        refine g_iconst dX0_readPayments_52 1 rfl (by decide) ?_
        refine g_iadd dX0_readPayments_53 ?_
        refine g_iload_n dX0_readPayments_54 rfl ?_
        refine g_cVi (st := []) (av := [vI (w32 (l4 + 1)), vI l2]) (kX9_letterAt h) kd_5 rfl cw_RX0_33 (by decide) (by decide) (Nat.le_of_ble_eq_true rfl) rfl dX0_readPayments_55 (fun y4 m3 h => ?_)
        refine g_istore (lv' := [(6, vI y4), (5, vI y2), (0, vR 7), (1, vR 5), (2, vI l2), (3, vI l3), (4, vI l4)]) dX0_readPayments_58 (by decide) rfl ?_
        refine g_iload dX0_readPayments_60 rfl ?_
        obtain ⟨hA, hB⟩ := h
        refine g_if_lt (tgt := 72) dX0_readPayments_62 (by decide) (fun hc => ?_) (fun hc => ?_)
        · replace h := hA hc
          refine g_lv (lv' := [(4, vI l4)]) [6] rfl ?_
          exact bX0_readPayments_72 hR h
        · replace h := hB hc
          refine g_iload dX0_readPayments_65 rfl ?_
          refine g_iload dX0_readPayments_67 rfl ?_
          obtain ⟨hA, hB⟩ := h
          refine g_icmp_ne (tgt := 79) dX0_readPayments_69 (by decide) (fun hc => ?_) (fun hc => ?_)
          · replace h := hA hc
            refine g_aload_n dX0_readPayments_79 rfl ?_
            refine g_iload dX0_readPayments_80 rfl ?_
            refine g_iconst dX0_readPayments_82 2 rfl (by decide) ?_
            refine g_iadd dX0_readPayments_83 ?_
            refine g_iconst dX0_readPayments_84 4 rfl (by decide) ?_
            refine g_cVi (st := []) (av := [vI (w32 (l4 + 2)), vI 4]) (kX9_numberAt h) kd_5 rfl cw_RX0_37 (by decide) (by decide) (Nat.le_of_ble_eq_true rfl) rfl dX0_readPayments_85 (fun y6 m5 h => ?_)
            refine g_istore (lv' := [(7, vI y6), (6, vI y4), (5, vI y2), (0, vR 7), (1, vR 5), (2, vI l2), (3, vI l3), (4, vI l4)]) dX0_readPayments_88 (by decide) rfl ?_
            refine g_iload dX0_readPayments_90 rfl ?_
            obtain ⟨hA, hB⟩ := h
            refine g_if_ge (tgt := 98) dX0_readPayments_92 (by decide) (fun hc => ?_) (fun hc => ?_)
            · replace h := hA hc
              refine g_iload dX0_readPayments_98 rfl ?_
              obtain ⟨hA, hB⟩ := h
              refine g_if_ne (tgt := 110) dX0_readPayments_100 (by decide) (fun hc => ?_) (fun hc => ?_)
              · replace h := hA hc
                refine g_aload_n dX0_readPayments_110 rfl ?_
                refine g_bipush dX0_readPayments_111 112 rfl (by decide) ?_
                refine g_iload dX0_readPayments_113 rfl ?_
                refine g_iload dX0_readPayments_115 rfl ?_
                refine g_iload dX0_readPayments_117 rfl ?_
                refine g_cVv (st := []) (av := [vI 112, vI y2, vI y4, vI y6]) (kX0_add h) kd_7 rfl cw_RX0_40 (by decide) (by decide) (Nat.le_of_ble_eq_true rfl) rfl dX0_readPayments_119 (fun m7 h => ?_)
                refine g_iinc (lv' := [(4, vI (w32 (l4 + 6))), (7, vI y6), (6, vI y4), (5, vI y2), (0, vR 7), (1, vR 5), (2, vI l2), (3, vI l3)]) dX0_readPayments_122 rfl (by decide) rfl ?_
                refine g_loc (a := w32 (l4 + 6)) (i := 4) (lv := [(7, vI y6), (6, vI y4), (5, vI y2), (0, vR 7), (1, vR 5), (2, vI l2), (3, vI l3)]) (fun x8 ex8 => ?_)
                replace h := h x8 ex8
                refine g_goto (tgt := 8) dX0_readPayments_125 (by decide) ?_
                refine g_lv (lv' := [(0, vR 7), (1, vR 5), (2, vI l2), (3, vI l3), (4, vI x8)]) [4, 5, 6, 7, 0] rfl ?_
                exact hK8 ((l2, l3, x8)) m7 h
              · replace h := hB hc
                refine g_iconst dX0_readPayments_103 (-1) rfl (by decide) ?_
                refine g_iload dX0_readPayments_104 rfl ?_
                refine g_iconst dX0_readPayments_106 5 rfl (by decide) ?_
                refine g_iadd dX0_readPayments_107 ?_
                refine g_isub dX0_readPayments_108 ?_
                exact g_iret hR dX0_readPayments_109 h
            · replace h := hB hc
              refine g_iload dX0_readPayments_95 rfl ?_
              exact g_iret hR dX0_readPayments_97 h
          · replace h := hB hc
            refine g_lv (lv' := [(4, vI l4)]) [6] rfl ?_
            exact bX0_readPayments_72 hR h
      · replace h := hB hc
        refine g_iconst dX0_readPayments_44 (-1) rfl (by decide) ?_
        refine g_iload dX0_readPayments_45 rfl ?_
        refine g_isub dX0_readPayments_47 ?_
        exact g_iret hR dX0_readPayments_48 h
    · replace h := hB hc
      refine g_iconst dX0_readPayments_25 (-1) rfl (by decide) ?_
      refine g_iload dX0_readPayments_26 rfl ?_
      refine g_isub dX0_readPayments_28 ?_
      exact g_iret hR dX0_readPayments_29 h
theorem eX0_readPayments_8 {E : TE} {Q : Int → Mem → Prop} (hR : RI E (some .int) Q) {l2 : Int} {l3 : Int} {l4 : Int} {σ : Mem} (h : wLX0_readPayments_8 Q l2 l3 l4 σ) : GW E cX0_readPayments 8 RX0 3 68 σ 8 [(0, vR 7), (1, vR 5), (2, vI l2), (3, vI l3), (4, vI l4)] [] := by
  obtain ⟨n, h⟩ := h
  exact lp_GW (P := fun (x : Int × Int × Int) (σ : Mem) => GW E cX0_readPayments 8 RX0 3 68 σ 8 [(0, vR 7), (1, vR 5), (2, vI x.1), (3, vI x.2.1), (4, vI x.2.2)] []) (fun K hK x σ h  => bX0_readPayments_8 hK hR h) n _ σ h 
set_option maxHeartbeats 1000000 in
theorem kX0_readPayments {l2 : Int} {l3 : Int} {σ : Mem} {Q : Int → Mem → Prop} (h : wX0_readPayments l2 l3 σ Q) (l : Launch) (D : va_G) (cy : Nat → ClassId) (ad : Nat → Nat) : MI l yX0_readPayments cX0_readPayments 8 (some .int) 3 68 D cy ad [vR 7, vR 5, vI l2, vI l3] σ Q := by
  refine m_I (own := RX0) (lv := [(0, vR 7), (1, vR 5), (2, vI l2), (3, vI l3)]) (by decide +kernel) rfl (Nat.le_of_ble_eq_true rfl) rfl (fun E hR => ?_) l D cy ad
  unfold wX0_readPayments at h
  refine g_aload_n dX0_readPayments_0 rfl ?_
  refine g_iconst dX0_readPayments_1 0 rfl (by decide) ?_
  refine g_putI fp_0_24 kd_7 rfl dX0_readPayments_2 ?_
  refine g_nm (fun m1 em1 => ?_)
  replace h := h m1 em1
  refine g_iconst dX0_readPayments_5 0 rfl (by decide) ?_
  refine g_istore (lv' := [(4, vI 0), (0, vR 7), (1, vR 5), (2, vI l2), (3, vI l3)]) dX0_readPayments_6 (by decide) rfl ?_
  refine g_lv (lv' := [(0, vR 7), (1, vR 5), (2, vI l2), (3, vI l3), (4, vI 0)]) [1, 2, 3, 4, 0] rfl ?_
  exact eX0_readPayments_8 hR h
def wX0_lettersOf (l0 : Int) (σ : Mem) (Q : Int → Mem → Prop) : Prop := ((l0 = 102 → Q 2 σ) ∧ (l0 = 103 → Q 0 σ) ∧ (l0 = 104 → Q 2 σ) ∧ (l0 = 107 → Q 1 σ) ∧ (l0 = 108 → Q 2 σ) ∧ (l0 = 109 → Q 0 σ) ∧ (l0 = 112 → Q 2 σ) ∧ (l0 = 115 → Q 0 σ) ∧ (l0 = 119 → Q 2 σ) ∧ (l0 ≠ 102 ∧ l0 ≠ 103 ∧ l0 ≠ 104 ∧ l0 ≠ 107 ∧ l0 ≠ 108 ∧ l0 ≠ 109 ∧ l0 ≠ 112 ∧ l0 ≠ 115 ∧ l0 ≠ 119 → Q ((-1)) σ))
set_option maxHeartbeats 1000000 in
theorem kX0_lettersOf {l0 : Int} {σ : Mem} {Q : Int → Mem → Prop} (h : wX0_lettersOf l0 σ Q) (l : Launch) (D : va_G) (cy : Nat → ClassId) (ad : Nat → Nat) : MI l yX0_lettersOf cX0_lettersOf 1 (some .int) 0 0 D cy ad [vI l0] σ Q := by
  refine m_I (own := RX0) (lv := [(0, vI l0)]) (by decide +kernel) rfl (Nat.le_of_ble_eq_true rfl) rfl (fun E hR => ?_) l D cy ad
  unfold wX0_lettersOf at h
  refine g_iload_n dX0_lettersOf_0 rfl ?_
  obtain ⟨hs0, hs1, hs2, hs3, hs4, hs5, hs6, hs7, hs8, hsd⟩ := h
  by_cases ej102 : l0 = 102
  · refine g_tswIn (tgt := 88) (off := 87) dX0_lettersOf_1 102 ej102 (by decide) (by decide) rfl (by decide) ?_
    replace h := hs0 ej102
    refine g_iconst dX0_lettersOf_88 2 rfl (by decide) ?_
    exact g_iret hR dX0_lettersOf_89 h
  by_cases ej103 : l0 = 103
  · refine g_tswIn (tgt := 92) (off := 91) dX0_lettersOf_1 103 ej103 (by decide) (by decide) rfl (by decide) ?_
    replace h := hs1 ej103
    refine g_iconst dX0_lettersOf_92 0 rfl (by decide) ?_
    exact g_iret hR dX0_lettersOf_93 h
  by_cases ej104 : l0 = 104
  · refine g_tswIn (tgt := 88) (off := 87) dX0_lettersOf_1 104 ej104 (by decide) (by decide) rfl (by decide) ?_
    replace h := hs2 ej104
    refine g_iconst dX0_lettersOf_88 2 rfl (by decide) ?_
    exact g_iret hR dX0_lettersOf_89 h
  by_cases ej105 : l0 = 105
  · refine g_tswIn (tgt := 94) (off := 93) dX0_lettersOf_1 105 ej105 (by decide) (by decide) rfl (by decide) ?_
    replace h := hsd (by omega)
    refine g_iconst dX0_lettersOf_94 (-1) rfl (by decide) ?_
    exact g_iret hR dX0_lettersOf_95 h
  by_cases ej106 : l0 = 106
  · refine g_tswIn (tgt := 94) (off := 93) dX0_lettersOf_1 106 ej106 (by decide) (by decide) rfl (by decide) ?_
    replace h := hsd (by omega)
    refine g_iconst dX0_lettersOf_94 (-1) rfl (by decide) ?_
    exact g_iret hR dX0_lettersOf_95 h
  by_cases ej107 : l0 = 107
  · refine g_tswIn (tgt := 90) (off := 89) dX0_lettersOf_1 107 ej107 (by decide) (by decide) rfl (by decide) ?_
    replace h := hs3 ej107
    refine g_iconst dX0_lettersOf_90 1 rfl (by decide) ?_
    exact g_iret hR dX0_lettersOf_91 h
  by_cases ej108 : l0 = 108
  · refine g_tswIn (tgt := 88) (off := 87) dX0_lettersOf_1 108 ej108 (by decide) (by decide) rfl (by decide) ?_
    replace h := hs4 ej108
    refine g_iconst dX0_lettersOf_88 2 rfl (by decide) ?_
    exact g_iret hR dX0_lettersOf_89 h
  by_cases ej109 : l0 = 109
  · refine g_tswIn (tgt := 92) (off := 91) dX0_lettersOf_1 109 ej109 (by decide) (by decide) rfl (by decide) ?_
    replace h := hs5 ej109
    refine g_iconst dX0_lettersOf_92 0 rfl (by decide) ?_
    exact g_iret hR dX0_lettersOf_93 h
  by_cases ej110 : l0 = 110
  · refine g_tswIn (tgt := 94) (off := 93) dX0_lettersOf_1 110 ej110 (by decide) (by decide) rfl (by decide) ?_
    replace h := hsd (by omega)
    refine g_iconst dX0_lettersOf_94 (-1) rfl (by decide) ?_
    exact g_iret hR dX0_lettersOf_95 h
  by_cases ej111 : l0 = 111
  · refine g_tswIn (tgt := 94) (off := 93) dX0_lettersOf_1 111 ej111 (by decide) (by decide) rfl (by decide) ?_
    replace h := hsd (by omega)
    refine g_iconst dX0_lettersOf_94 (-1) rfl (by decide) ?_
    exact g_iret hR dX0_lettersOf_95 h
  by_cases ej112 : l0 = 112
  · refine g_tswIn (tgt := 88) (off := 87) dX0_lettersOf_1 112 ej112 (by decide) (by decide) rfl (by decide) ?_
    replace h := hs6 ej112
    refine g_iconst dX0_lettersOf_88 2 rfl (by decide) ?_
    exact g_iret hR dX0_lettersOf_89 h
  by_cases ej113 : l0 = 113
  · refine g_tswIn (tgt := 94) (off := 93) dX0_lettersOf_1 113 ej113 (by decide) (by decide) rfl (by decide) ?_
    replace h := hsd (by omega)
    refine g_iconst dX0_lettersOf_94 (-1) rfl (by decide) ?_
    exact g_iret hR dX0_lettersOf_95 h
  by_cases ej114 : l0 = 114
  · refine g_tswIn (tgt := 94) (off := 93) dX0_lettersOf_1 114 ej114 (by decide) (by decide) rfl (by decide) ?_
    replace h := hsd (by omega)
    refine g_iconst dX0_lettersOf_94 (-1) rfl (by decide) ?_
    exact g_iret hR dX0_lettersOf_95 h
  by_cases ej115 : l0 = 115
  · refine g_tswIn (tgt := 92) (off := 91) dX0_lettersOf_1 115 ej115 (by decide) (by decide) rfl (by decide) ?_
    replace h := hs7 ej115
    refine g_iconst dX0_lettersOf_92 0 rfl (by decide) ?_
    exact g_iret hR dX0_lettersOf_93 h
  by_cases ej116 : l0 = 116
  · refine g_tswIn (tgt := 94) (off := 93) dX0_lettersOf_1 116 ej116 (by decide) (by decide) rfl (by decide) ?_
    replace h := hsd (by omega)
    refine g_iconst dX0_lettersOf_94 (-1) rfl (by decide) ?_
    exact g_iret hR dX0_lettersOf_95 h
  by_cases ej117 : l0 = 117
  · refine g_tswIn (tgt := 94) (off := 93) dX0_lettersOf_1 117 ej117 (by decide) (by decide) rfl (by decide) ?_
    replace h := hsd (by omega)
    refine g_iconst dX0_lettersOf_94 (-1) rfl (by decide) ?_
    exact g_iret hR dX0_lettersOf_95 h
  by_cases ej118 : l0 = 118
  · refine g_tswIn (tgt := 94) (off := 93) dX0_lettersOf_1 118 ej118 (by decide) (by decide) rfl (by decide) ?_
    replace h := hsd (by omega)
    refine g_iconst dX0_lettersOf_94 (-1) rfl (by decide) ?_
    exact g_iret hR dX0_lettersOf_95 h
  by_cases ej119 : l0 = 119
  · refine g_tswIn (tgt := 88) (off := 87) dX0_lettersOf_1 119 ej119 (by decide) (by decide) rfl (by decide) ?_
    replace h := hs8 ej119
    refine g_iconst dX0_lettersOf_88 2 rfl (by decide) ?_
    exact g_iret hR dX0_lettersOf_89 h
  refine g_tswOut (tgt := 94) dX0_lettersOf_1 (by omega) (by decide) ?_
  replace h := hsd (by omega)
  refine g_iconst dX0_lettersOf_94 (-1) rfl (by decide) ?_
  exact g_iret hR dX0_lettersOf_95 h
def wX0_digitsOf (l0 : Int) (σ : Mem) (Q : Int → Mem → Prop) : Prop := ((l0 = 102 → Q 4 σ) ∧ (l0 = 103 → Q 1 σ) ∧ (l0 = 104 → Q 4 σ) ∧ (l0 = 107 → Q 3 σ) ∧ (l0 = 108 → Q 3 σ) ∧ (l0 = 109 → Q 1 σ) ∧ (l0 = 112 → Q 4 σ) ∧ (l0 = 119 → Q 4 σ) ∧ (l0 ≠ 102 ∧ l0 ≠ 103 ∧ l0 ≠ 104 ∧ l0 ≠ 107 ∧ l0 ≠ 108 ∧ l0 ≠ 109 ∧ l0 ≠ 112 ∧ l0 ≠ 119 → Q 0 σ))
set_option maxHeartbeats 1000000 in
theorem kX0_digitsOf {l0 : Int} {σ : Mem} {Q : Int → Mem → Prop} (h : wX0_digitsOf l0 σ Q) (l : Launch) (D : va_G) (cy : Nat → ClassId) (ad : Nat → Nat) : MI l yX0_digitsOf cX0_digitsOf 1 (some .int) 0 0 D cy ad [vI l0] σ Q := by
  refine m_I (own := RX0) (lv := [(0, vI l0)]) (by decide +kernel) rfl (Nat.le_of_ble_eq_true rfl) rfl (fun E hR => ?_) l D cy ad
  unfold wX0_digitsOf at h
  refine g_iload_n dX0_digitsOf_0 rfl ?_
  obtain ⟨hs0, hs1, hs2, hs3, hs4, hs5, hs6, hs7, hsd⟩ := h
  by_cases ej102 : l0 = 102
  · refine g_tswIn (tgt := 88) (off := 87) dX0_digitsOf_1 102 ej102 (by decide) (by decide) rfl (by decide) ?_
    replace h := hs0 ej102
    refine g_iconst dX0_digitsOf_88 4 rfl (by decide) ?_
    exact g_iret hR dX0_digitsOf_89 h
  by_cases ej103 : l0 = 103
  · refine g_tswIn (tgt := 92) (off := 91) dX0_digitsOf_1 103 ej103 (by decide) (by decide) rfl (by decide) ?_
    replace h := hs1 ej103
    refine g_iconst dX0_digitsOf_92 1 rfl (by decide) ?_
    exact g_iret hR dX0_digitsOf_93 h
  by_cases ej104 : l0 = 104
  · refine g_tswIn (tgt := 88) (off := 87) dX0_digitsOf_1 104 ej104 (by decide) (by decide) rfl (by decide) ?_
    replace h := hs2 ej104
    refine g_iconst dX0_digitsOf_88 4 rfl (by decide) ?_
    exact g_iret hR dX0_digitsOf_89 h
  by_cases ej105 : l0 = 105
  · refine g_tswIn (tgt := 94) (off := 93) dX0_digitsOf_1 105 ej105 (by decide) (by decide) rfl (by decide) ?_
    replace h := hsd (by omega)
    refine g_iconst dX0_digitsOf_94 0 rfl (by decide) ?_
    exact g_iret hR dX0_digitsOf_95 h
  by_cases ej106 : l0 = 106
  · refine g_tswIn (tgt := 94) (off := 93) dX0_digitsOf_1 106 ej106 (by decide) (by decide) rfl (by decide) ?_
    replace h := hsd (by omega)
    refine g_iconst dX0_digitsOf_94 0 rfl (by decide) ?_
    exact g_iret hR dX0_digitsOf_95 h
  by_cases ej107 : l0 = 107
  · refine g_tswIn (tgt := 90) (off := 89) dX0_digitsOf_1 107 ej107 (by decide) (by decide) rfl (by decide) ?_
    replace h := hs3 ej107
    refine g_iconst dX0_digitsOf_90 3 rfl (by decide) ?_
    exact g_iret hR dX0_digitsOf_91 h
  by_cases ej108 : l0 = 108
  · refine g_tswIn (tgt := 90) (off := 89) dX0_digitsOf_1 108 ej108 (by decide) (by decide) rfl (by decide) ?_
    replace h := hs4 ej108
    refine g_iconst dX0_digitsOf_90 3 rfl (by decide) ?_
    exact g_iret hR dX0_digitsOf_91 h
  by_cases ej109 : l0 = 109
  · refine g_tswIn (tgt := 92) (off := 91) dX0_digitsOf_1 109 ej109 (by decide) (by decide) rfl (by decide) ?_
    replace h := hs5 ej109
    refine g_iconst dX0_digitsOf_92 1 rfl (by decide) ?_
    exact g_iret hR dX0_digitsOf_93 h
  by_cases ej110 : l0 = 110
  · refine g_tswIn (tgt := 94) (off := 93) dX0_digitsOf_1 110 ej110 (by decide) (by decide) rfl (by decide) ?_
    replace h := hsd (by omega)
    refine g_iconst dX0_digitsOf_94 0 rfl (by decide) ?_
    exact g_iret hR dX0_digitsOf_95 h
  by_cases ej111 : l0 = 111
  · refine g_tswIn (tgt := 94) (off := 93) dX0_digitsOf_1 111 ej111 (by decide) (by decide) rfl (by decide) ?_
    replace h := hsd (by omega)
    refine g_iconst dX0_digitsOf_94 0 rfl (by decide) ?_
    exact g_iret hR dX0_digitsOf_95 h
  by_cases ej112 : l0 = 112
  · refine g_tswIn (tgt := 88) (off := 87) dX0_digitsOf_1 112 ej112 (by decide) (by decide) rfl (by decide) ?_
    replace h := hs6 ej112
    refine g_iconst dX0_digitsOf_88 4 rfl (by decide) ?_
    exact g_iret hR dX0_digitsOf_89 h
  by_cases ej113 : l0 = 113
  · refine g_tswIn (tgt := 94) (off := 93) dX0_digitsOf_1 113 ej113 (by decide) (by decide) rfl (by decide) ?_
    replace h := hsd (by omega)
    refine g_iconst dX0_digitsOf_94 0 rfl (by decide) ?_
    exact g_iret hR dX0_digitsOf_95 h
  by_cases ej114 : l0 = 114
  · refine g_tswIn (tgt := 94) (off := 93) dX0_digitsOf_1 114 ej114 (by decide) (by decide) rfl (by decide) ?_
    replace h := hsd (by omega)
    refine g_iconst dX0_digitsOf_94 0 rfl (by decide) ?_
    exact g_iret hR dX0_digitsOf_95 h
  by_cases ej115 : l0 = 115
  · refine g_tswIn (tgt := 94) (off := 93) dX0_digitsOf_1 115 ej115 (by decide) (by decide) rfl (by decide) ?_
    replace h := hsd (by omega)
    refine g_iconst dX0_digitsOf_94 0 rfl (by decide) ?_
    exact g_iret hR dX0_digitsOf_95 h
  by_cases ej116 : l0 = 116
  · refine g_tswIn (tgt := 94) (off := 93) dX0_digitsOf_1 116 ej116 (by decide) (by decide) rfl (by decide) ?_
    replace h := hsd (by omega)
    refine g_iconst dX0_digitsOf_94 0 rfl (by decide) ?_
    exact g_iret hR dX0_digitsOf_95 h
  by_cases ej117 : l0 = 117
  · refine g_tswIn (tgt := 94) (off := 93) dX0_digitsOf_1 117 ej117 (by decide) (by decide) rfl (by decide) ?_
    replace h := hsd (by omega)
    refine g_iconst dX0_digitsOf_94 0 rfl (by decide) ?_
    exact g_iret hR dX0_digitsOf_95 h
  by_cases ej118 : l0 = 118
  · refine g_tswIn (tgt := 94) (off := 93) dX0_digitsOf_1 118 ej118 (by decide) (by decide) rfl (by decide) ?_
    replace h := hsd (by omega)
    refine g_iconst dX0_digitsOf_94 0 rfl (by decide) ?_
    exact g_iret hR dX0_digitsOf_95 h
  by_cases ej119 : l0 = 119
  · refine g_tswIn (tgt := 88) (off := 87) dX0_digitsOf_1 119 ej119 (by decide) (by decide) rfl (by decide) ?_
    replace h := hs7 ej119
    refine g_iconst dX0_digitsOf_88 4 rfl (by decide) ?_
    exact g_iret hR dX0_digitsOf_89 h
  refine g_tswOut (tgt := 94) dX0_digitsOf_1 (by omega) (by decide) ?_
  replace h := hsd (by omega)
  refine g_iconst dX0_digitsOf_94 0 rfl (by decide) ?_
  exact g_iret hR dX0_digitsOf_95 h
