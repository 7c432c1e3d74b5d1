def wX11_thrown (σ : Mem) (Q : Int → Mem → Prop) : Prop := Q (σ 300 5) σ
set_option maxHeartbeats 1000000 in
theorem kX11_thrown {σ : Mem} {Q : Int → Mem → Prop} (h : wX11_thrown σ Q) (l : Launch) (D : va_G) (cy : Nat → ClassId) (ad : Nat → Nat) : MI l yX11_thrown cX11_thrown 1 (some .int) 0 0 D cy ad [vR 300] σ Q := by
  refine m_I (own := RX11) (lv := [(0, vR 300)]) (by decide +kernel) rfl (Nat.le_of_ble_eq_true rfl) rfl (fun E hR => ?_) l D cy ad
  unfold wX11_thrown at h
  refine g_aload_n dX11_thrown_0 rfl ?_
  refine g_getI fl_11_68 kd_300 rfl dX11_thrown_1 ?_
  exact g_iret hR dX11_thrown_4 h
def wX11_in (l0 : Int) (l1 : Int) (l2 : Int) (σ : Mem) (Q : Int → Mem → Prop) : Prop := ((l0 < l1 → Q 0 σ) ∧ (¬ l0 < l1 → ((l2 < l0 → Q 0 σ) ∧ (¬ l2 < l0 → Q 1 σ))))
set_option maxHeartbeats 1000000 in
theorem kX11_in {l0 : Int} {l1 : Int} {l2 : Int} {σ : Mem} {Q : Int → Mem → Prop} (h : wX11_in l0 l1 l2 σ Q) (l : Launch) (D : va_G) (cy : Nat → ClassId) (ad : Nat → Nat) : MI l yX11_in cX11_in 3 (some .boolean) 0 0 D cy ad [vI l0, vI l1, vI l2] σ Q := by
  refine m_I (own := RX11) (lv := [(0, vI l0), (1, vI l1), (2, vI l2)]) (by decide +kernel) rfl (Nat.le_of_ble_eq_true rfl) rfl (fun E hR => ?_) l D cy ad
  unfold wX11_in at h
  refine g_iload_n dX11_in_0 rfl ?_
  refine g_iload_n dX11_in_1 rfl ?_
  obtain ⟨hA, hB⟩ := h
  refine g_icmp_lt (tgt := 14) dX11_in_2 (by decide) (fun hc => ?_) (fun hc => ?_)
  · replace h := hA hc
    refine g_iconst dX11_in_14 0 rfl (by decide) ?_
    exact g_zret hR dX11_in_15 (by decide) h
  · replace h := hB hc
    refine g_iload_n dX11_in_5 rfl ?_
    refine g_iload_n dX11_in_6 rfl ?_
    obtain ⟨hA, hB⟩ := h
    refine g_icmp_gt (tgt := 14) dX11_in_7 (by decide) (fun hc => ?_) (fun hc => ?_)
    · replace h := hA hc
      refine g_iconst dX11_in_14 0 rfl (by decide) ?_
      exact g_zret hR dX11_in_15 (by decide) h
    · replace h := hB hc
      refine g_iconst dX11_in_10 1 rfl (by decide) ?_
      refine g_goto (tgt := 15) dX11_in_11 (by decide) ?_
      exact g_zret hR dX11_in_15 (by decide) h
def wX11_lost (σ : Mem) (Q : Int → Mem → Prop) : Prop := (∀ m1 : Mem, m1 = up2 σ 300 5 1 → Q 0 m1)
set_option maxHeartbeats 1000000 in
theorem kX11_lost {σ : Mem} {Q : Int → Mem → Prop} (h : wX11_lost σ Q) (l : Launch) (D : va_G) (cy : Nat → ClassId) (ad : Nat → Nat) : MI l yX11_lost cX11_lost 1 (some .int) 0 0 D cy ad [vR 300] σ Q := by
  refine m_I (own := RX11) (lv := [(0, vR 300)]) (by decide +kernel) rfl (Nat.le_of_ble_eq_true rfl) rfl (fun E hR => ?_) l D cy ad
  unfold wX11_lost at h
  refine g_aload_n dX11_lost_0 rfl ?_
  refine g_iconst dX11_lost_1 1 rfl (by decide) ?_
  refine g_putI fp_11_68 kd_300 rfl dX11_lost_2 ?_
  refine g_nm (fun m1 em1 => ?_)
  replace h := h m1 em1
  refine g_iconst dX11_lost_5 0 rfl (by decide) ?_
  exact g_iret hR dX11_lost_6 h
def wX11_tell (l1 : Int) (σ : Mem) (Q : Mem → Prop) : Prop := ((0 ≤ σ 300 4 ∧ σ 300 4 < 2400) ∧ (∀ m1 : Mem, m1 = up2 σ 304 (σ 300 4).toNat l1 → (∀ m2 : Mem, m2 = up2 m1 300 4 (w32 ((m1 300 4) + 1)) → Q m2)))
set_option maxHeartbeats 1000000 in
theorem kX11_tell {l1 : Int} {σ : Mem} {Q : Mem → Prop} (h : wX11_tell l1 σ Q) (l : Launch) (D : va_G) (cy : Nat → ClassId) (ad : Nat → Nat) : MV l yX11_tell cX11_tell 3 none 0 0 D cy ad [vR 300, vL l1] σ Q := by
  refine m_V (own := RX11) (lv := [(0, vR 300), (1, vL l1)]) (by decide +kernel) rfl (Nat.le_of_ble_eq_true rfl) rfl (fun E hR => ?_) l D cy ad
  unfold wX11_tell at h
  refine g_aload_n dX11_tell_0 rfl ?_
  refine g_getR (r := 304) fl_11_17 kd_300 rfl dX11_tell_1 ?_
  refine g_aload_n dX11_tell_4 rfl ?_
  refine g_getI fl_11_71 kd_300 rfl dX11_tell_5 ?_
  refine g_lload_n dX11_tell_8 rfl ?_
  obtain ⟨hin, h⟩ := h
  refine g_last kd_304 hin dX11_tell_9 ?_
  refine g_nm (fun m1 em1 => ?_)
  replace h := h m1 em1
  refine g_aload_n dX11_tell_10 rfl ?_
  refine g_dup dX11_tell_11 rfl ?_
  refine g_getI fl_11_71 kd_300 rfl dX11_tell_12 ?_
  refine g_iconst dX11_tell_15 1 rfl (by decide) ?_
  refine g_iadd dX11_tell_16 ?_
  refine g_putI fp_11_71 kd_300 rfl dX11_tell_17 ?_
  refine g_nm (fun m2 em2 => ?_)
  replace h := h m2 em2
  exact g_vret hR dX11_tell_20 h
def wX11_isMember (l1 : Int) (σ : Mem) (Q : Int → Mem → Prop) : Prop := (wX11_in l1 0 (w32 ((σ 301 0) - 1)) σ (fun y2 m1 => ((y2 = 0 ∨ y2 = 1) ∧ Q y2 m1)))
set_option maxHeartbeats 1000000 in
theorem kX11_isMember {l1 : Int} {σ : Mem} {Q : Int → Mem → Prop} (h : wX11_isMember l1 σ Q) (l : Launch) (D : va_G) (cy : Nat → ClassId) (ad : Nat → Nat) : MI l yX11_isMember cX11_isMember 2 (some .boolean) 1 22 D cy ad [vR 300, vI l1] σ Q := by
  refine m_I (own := RX11) (lv := [(0, vR 300), (1, vI l1)]) (by decide +kernel) rfl (Nat.le_of_ble_eq_true rfl) rfl (fun E hR => ?_) l D cy ad
  unfold wX11_isMember at h
  refine g_iload_n dX11_isMember_0 rfl ?_
  refine g_iconst dX11_isMember_1 0 rfl (by decide) ?_
  refine g_aload_n dX11_isMember_2 rfl ?_
  refine g_getR (r := 301) fl_11_9 kd_300 rfl dX11_isMember_3 ?_
  refine g_iconst dX11_isMember_6 0 rfl (by decide) ?_
  refine g_iald kd_301 (by decide) dX11_isMember_7 ?_
  refine g_iconst dX11_isMember_8 1 rfl (by decide) ?_
  refine g_isub dX11_isMember_9 ?_
  refine g_cSi (st := []) (av := [vI l1, vI 0, vI (w32 ((σ 301 0) - 1))]) (kX11_in h) cw_RX11_74 (by decide) (by decide) (Nat.le_of_ble_eq_true rfl) rfl dX11_isMember_10 (fun y2 m1 h => ?_)
  exact g_zret hR dX11_isMember_13 h.1 h.2
def wX11_areTwo (l1 : Int) (l2 : Int) (σ : Mem) (Q : Int → Mem → Prop) : Prop := (wX11_isMember l1 σ (fun y2 m1 => ((y2 = 0 → Q 0 m1) ∧ (¬ y2 = 0 → (wX11_isMember l2 m1 (fun y4 m3 => ((y4 = 0 → Q 0 m3) ∧ (¬ y4 = 0 → ((l1 = l2 → Q 0 m3) ∧ (¬ l1 = l2 → Q 1 m3))))))))))
set_option maxHeartbeats 1000000 in
theorem kX11_areTwo {l1 : Int} {l2 : Int} {σ : Mem} {Q : Int → Mem → Prop} (h : wX11_areTwo l1 l2 σ Q) (l : Launch) (D : va_G) (cy : Nat → ClassId) (ad : Nat → Nat) : MI l yX11_areTwo cX11_areTwo 3 (some .boolean) 2 43 D cy ad [vR 300, vI l1, vI l2] σ Q := by
  refine m_I (own := RX11) (lv := [(0, vR 300), (1, vI l1), (2, vI l2)]) (by decide +kernel) rfl (Nat.le_of_ble_eq_true rfl) rfl (fun E hR => ?_) l D cy ad
  unfold wX11_areTwo at h
  refine g_aload_n dX11_areTwo_0 rfl ?_
  refine g_iload_n dX11_areTwo_1 rfl ?_
  refine g_cVi (st := []) (av := [vI l1]) (kX11_isMember h) kd_300 rfl cw_RX11_78 (by decide) (by decide) (Nat.le_of_ble_eq_true rfl) rfl dX11_areTwo_2 (fun y2 m1 h => ?_)
  obtain ⟨hA, hB⟩ := h
  refine g_if_eq (tgt := 25) dX11_areTwo_5 (by decide) (fun hc => ?_) (fun hc => ?_)
  · replace h := hA hc
    refine g_iconst dX11_areTwo_25 0 rfl (by decide) ?_
    exact g_zret hR dX11_areTwo_26 (by decide) h
  · replace h := hB hc
    refine g_aload_n dX11_areTwo_8 rfl ?_
    refine g_iload_n dX11_areTwo_9 rfl ?_
    refine g_cVi (st := []) (av := [vI l2]) (kX11_isMember h) kd_300 rfl cw_RX11_78 (by decide) (by decide) (Nat.le_of_ble_eq_true rfl) rfl dX11_areTwo_10 (fun y4 m3 h => ?_)
    obtain ⟨hA, hB⟩ := h
    refine g_if_eq (tgt := 25) dX11_areTwo_13 (by decide) (fun hc => ?_) (fun hc => ?_)
    · replace h := hA hc
      refine g_iconst dX11_areTwo_25 0 rfl (by decide) ?_
      exact g_zret hR dX11_areTwo_26 (by decide) h
    · replace h := hB hc
      refine g_iload_n dX11_areTwo_16 rfl ?_
      refine g_iload_n dX11_areTwo_17 rfl ?_
      obtain ⟨hA, hB⟩ := h
      refine g_icmp_eq (tgt := 25) dX11_areTwo_18 (by decide) (fun hc => ?_) (fun hc => ?_)
      · replace h := hA hc
        refine g_iconst dX11_areTwo_25 0 rfl (by decide) ?_
        exact g_zret hR dX11_areTwo_26 (by decide) h
      · replace h := hB hc
        refine g_iconst dX11_areTwo_21 1 rfl (by decide) ?_
        refine g_goto (tgt := 26) dX11_areTwo_22 (by decide) ?_
        exact g_zret hR dX11_areTwo_26 (by decide) h
def wX11_pair (l0 : Int) (l1 : Int) (σ : Mem) (Q : Int → Mem → Prop) : Prop := Q (w32 ((w32 (8 * l0)) + l1)) σ
set_option maxHeartbeats 1000000 in
theorem kX11_pair {l0 : Int} {l1 : Int} {σ : Mem} {Q : Int → Mem → Prop} (h : wX11_pair l0 l1 σ Q) (l : Launch) (D : va_G) (cy : Nat → ClassId) (ad : Nat → Nat) : MI l yX11_pair cX11_pair 2 (some .int) 0 0 D cy ad [vI l0, vI l1] σ Q := by
  refine m_I (own := RX11) (lv := [(0, vI l0), (1, vI l1)]) (by decide +kernel) rfl (Nat.le_of_ble_eq_true rfl) rfl (fun E hR => ?_) l D cy ad
  unfold wX11_pair at h
  refine g_bipush dX11_pair_0 8 rfl (by decide) ?_
  refine g_iload_n dX11_pair_2 rfl ?_
  refine g_imul dX11_pair_3 ?_
  refine g_iload_n dX11_pair_4 rfl ?_
  refine g_iadd dX11_pair_5 ?_
  exact g_iret hR dX11_pair_6 h
def wX11_limit (l1 : Int) (l2 : Int) (σ : Mem) (Q : Int → Mem → Prop) : Prop := (wX11_pair l1 l2 σ (fun y2 m1 => ((0 ≤ w32 (1 + y2) ∧ w32 (1 + y2) < 405) ∧ Q (m1 301 (w32 (1 + y2)).toNat) m1)))
set_option maxHeartbeats 1000000 in
theorem kX11_limit {l1 : Int} {l2 : Int} {σ : Mem} {Q : Int → Mem → Prop} (h : wX11_limit l1 l2 σ Q) (l : Launch) (D : va_G) (cy : Nat → ClassId) (ad : Nat → Nat) : MI l yX11_limit cX11_limit 3 (some .int) 1 21 D cy ad [vR 300, vI l1, vI l2] σ Q := by
  refine m_I (own := RX11) (lv := [(0, vR 300), (1, vI l1), (2, vI l2)]) (by decide +kernel) rfl (Nat.le_of_ble_eq_true rfl) rfl (fun E hR => ?_) l D cy ad
  unfold wX11_limit at h
  refine g_aload_n dX11_limit_0 rfl ?_
  refine g_getR (r := 301) fl_11_9 kd_300 rfl dX11_limit_1 ?_
  refine g_iconst dX11_limit_4 1 rfl (by decide) ?_
  refine g_iload_n dX11_limit_5 rfl ?_
  refine g_iload_n dX11_limit_6 rfl ?_
  refine g_cSi (st := [vI 1, vR 301]) (av := [vI l1, vI l2]) (kX11_pair h) cw_RX11_82 (by decide) (by decide) (Nat.le_of_ble_eq_true rfl) rfl dX11_limit_7 (fun y2 m1 h => ?_)
  refine g_iadd dX11_limit_10 ?_
  obtain ⟨hin, h⟩ := h
  refine g_iald kd_301 hin dX11_limit_11 ?_
  exact g_iret hR dX11_limit_12 h
def wX11_owes (l1 : Int) (l2 : Int) (σ : Mem) (Q : Int → Mem → Prop) : Prop := (wX11_pair l1 l2 σ (fun y2 m1 => ((0 ≤ w32 (65 + y2) ∧ w32 (65 + y2) < 405) ∧ Q (max 0 (m1 301 (w32 (65 + y2)).toNat)) m1)))
set_option maxHeartbeats 1000000 in
theorem kX11_owes {l1 : Int} {l2 : Int} {σ : Mem} {Q : Int → Mem → Prop} (h : wX11_owes l1 l2 σ Q) (l : Launch) (D : va_G) (cy : Nat → ClassId) (ad : Nat → Nat) : MI l yX11_owes cX11_owes 3 (some .int) 1 24 D cy ad [vR 300, vI l1, vI l2] σ Q := by
  refine m_I (own := RX11) (lv := [(0, vR 300), (1, vI l1), (2, vI l2)]) (by decide +kernel) rfl (Nat.le_of_ble_eq_true rfl) rfl (fun E hR => ?_) l D cy ad
  unfold wX11_owes at h
  refine g_iconst dX11_owes_0 0 rfl (by decide) ?_
  refine g_aload_n dX11_owes_1 rfl ?_
  refine g_getR (r := 301) fl_11_9 kd_300 rfl dX11_owes_2 ?_
  refine g_bipush dX11_owes_5 65 rfl (by decide) ?_
  refine g_iload_n dX11_owes_7 rfl ?_
  refine g_iload_n dX11_owes_8 rfl ?_
  refine g_cSi (st := [vI 65, vR 301, vI 0]) (av := [vI l1, vI l2]) (kX11_pair h) cw_RX11_82 (by decide) (by decide) (Nat.le_of_ble_eq_true rfl) rfl dX11_owes_9 (fun y2 m1 h => ?_)
  refine g_iadd dX11_owes_12 ?_
  obtain ⟨hin, h⟩ := h
  refine g_iald kd_301 hin dX11_owes_13 ?_
  refine g_mmax q_1262 q_519 q_107 q_mmax (by decide) (Nat.le_of_ble_eq_true rfl) dX11_owes_14 ?_
  exact g_iret hR dX11_owes_17 h
def wX11_holdAt (l0 : Int) (σ : Mem) (Q : Int → Mem → Prop) : Prop := Q (w32 (137 + (w32 (67 * l0)))) σ
set_option maxHeartbeats 1000000 in
theorem kX11_holdAt {l0 : Int} {σ : Mem} {Q : Int → Mem → Prop} (h : wX11_holdAt l0 σ Q) (l : Launch) (D : va_G) (cy : Nat → ClassId) (ad : Nat → Nat) : MI l yX11_holdAt cX11_holdAt 1 (some .int) 0 0 D cy ad [vI l0] σ Q := by
  refine m_I (own := RX11) (lv := [(0, vI l0)]) (by decide +kernel) rfl (Nat.le_of_ble_eq_true rfl) rfl (fun E hR => ?_) l D cy ad
  unfold wX11_holdAt at h
  refine g_sipush dX11_holdAt_0 137 rfl (by decide) ?_
  refine g_bipush dX11_holdAt_3 67 rfl (by decide) ?_
  refine g_iload_n dX11_holdAt_5 rfl ?_
  refine g_imul dX11_holdAt_6 ?_
  refine g_iadd dX11_holdAt_7 ?_
  exact g_iret hR dX11_holdAt_8 h
def wX11_heldOf_5 (K5 : (Int × Int × Int × Int) → Mem → Prop) (Q : Int → Mem → Prop) (l1 : Int) (l2 : Int) (l3 : Int) (l4 : Int) (σ : Mem) : Prop := ((4 ≤ l4 → Q l3 σ) ∧ (¬ 4 ≤ l4 → (wX11_holdAt l4 σ (fun y2 m1 => (wX11_pair l1 l2 m1 (fun y4 m3 => ((0 ≤ w32 ((w32 (y2 + 3)) + y4) ∧ w32 ((w32 (y2 + 3)) + y4) < 405) ∧ (∀ x5 : Int, x5 = w32 (l3 + (max 0 (m3 301 (w32 ((w32 (y2 + 3)) + y4)).toNat))) → (∀ x6 : Int, x6 = w32 (l4 + 1) → K5 (l1, l2, x5, x6) m3)))))))))
def wLX11_heldOf_5 (Q : Int → Mem → Prop) (l1 : Int) (l2 : Int) (l3 : Int) (l4 : Int) (σ : Mem) : Prop := ∃ n, lp (fun (K5 : (Int × Int × Int × Int) → Mem → Prop) (x : Int × Int × Int × Int) (σ : Mem) => wX11_heldOf_5 K5 Q x.1 x.2.1 x.2.2.1 x.2.2.2 σ) n (l1, l2, l3, l4) σ
def wX11_heldOf (l1 : Int) (l2 : Int) (σ : Mem) (Q : Int → Mem → Prop) : Prop := wLX11_heldOf_5 Q l1 l2 0 0 σ
set_option maxHeartbeats 1000000 in
theorem bX11_heldOf_5 {E : TE} {K5 : (Int × Int × Int × Int) → Mem → Prop} (hK5 : ∀ (x : Int × Int × Int × Int) (σ : Mem), K5 x σ → GW E cX11_heldOf 5 RX11 1 24 σ 5 [(0, vR 300), (1, vI x.1), (2, vI x.2.1), (3, vI x.2.2.1), (4, vI x.2.2.2)] []) {Q : Int → Mem → Prop} (hR : RI E (some .int) Q) {l1 : Int} {l2 : Int} {l3 : Int} {l4 : Int} {σ : Mem} (h : wX11_heldOf_5 K5 Q l1 l2 l3 l4 σ) : GW E cX11_heldOf 5 RX11 1 24 σ 5 [(0, vR 300), (1, vI l1), (2, vI l2), (3, vI l3), (4, vI l4)] [] := by
  unfold wX11_heldOf_5 at h
  refine g_iload dX11_heldOf_5 rfl ?_
  refine g_iconst dX11_heldOf_7 4 rfl (by decide) ?_
  obtain ⟨hA, hB⟩ := h
  refine g_icmp_ge (tgt := 42) dX11_heldOf_8 (by decide) (fun hc => ?_) (fun hc => ?_)
  · replace h := hA hc
    refine g_iload_n dX11_heldOf_42 rfl ?_
    exact g_iret hR dX11_heldOf_43 h
  · replace h := hB hc
    refine g_iload_n dX11_heldOf_11 rfl ?_
    refine g_iconst dX11_heldOf_12 0 rfl (by decide) ?_
    refine g_aload_n dX11_heldOf_13 rfl ?_
    refine g_getR (r := 301) fl_11_9 kd_300 rfl dX11_heldOf_14 ?_
    refine g_iload dX11_heldOf_17 rfl ?_
    refine g_cSi (st := [vR 301, vI 0, vI l3]) (av := [vI l4]) (kX11_holdAt h) cw_RX11_91 (by decide) (by decide) (Nat.le_of_ble_eq_true rfl) rfl dX11_heldOf_19 (fun y2 m1 h => ?_)
    refine g_iconst dX11_heldOf_22 3 rfl (by decide) ?_
    refine g_iadd dX11_heldOf_23 ?_
    refine g_iload_n dX11_heldOf_24 rfl ?_
    refine g_iload_n dX11_heldOf_25 rfl ?_
    refine g_cSi (st := [vI (w32 (y2 + 3)), vR 301, vI 0, vI l3]) (av := [vI l1, vI l2]) (kX11_pair h) cw_RX11_82 (by decide) (by decide) (Nat.le_of_ble_eq_true rfl) rfl dX11_heldOf_26 (fun y4 m3 h => ?_)
    refine g_iadd dX11_heldOf_29 ?_
    obtain ⟨hin, h⟩ := h
    refine g_iald kd_301 hin dX11_heldOf_30 ?_
    refine g_mmax q_1262 q_519 q_107 q_mmax (by decide) (Nat.le_of_ble_eq_true rfl) dX11_heldOf_31 ?_
    refine g_iadd dX11_heldOf_34 ?_
    refine g_topI (fun x5 ex5 => ?_)
    replace h := h x5 ex5
    refine g_istore_n (lv' := [(3, vI x5), (0, vR 300), (1, vI l1), (2, vI l2), (4, vI l4)]) dX11_heldOf_35 (by decide) rfl ?_
    refine g_iinc (lv' := [(4, vI (w32 (l4 + 1))), (3, vI x5), (0, vR 300), (1, vI l1), (2, vI l2)]) dX11_heldOf_36 rfl (by decide) rfl ?_
    refine g_loc (a := w32 (l4 + 1)) (i := 4) (lv := [(3, vI x5), (0, vR 300), (1, vI l1), (2, vI l2)]) (fun x6 ex6 => ?_)
    replace h := h x6 ex6
    refine g_goto (tgt := 5) dX11_heldOf_39 (by decide) ?_
    refine g_lv (lv' := [(0, vR 300), (1, vI l1), (2, vI l2), (3, vI x5), (4, vI x6)]) [2, 3, 4, 1, 0] rfl ?_
    exact hK5 ((l1, l2, x5, x6)) m3 h
theorem eX11_heldOf_5 {E : TE} {Q : Int → Mem → Prop} (hR : RI E (some .int) Q) {l1 : Int} {l2 : Int} {l3 : Int} {l4 : Int} {σ : Mem} (h : wLX11_heldOf_5 Q l1 l2 l3 l4 σ) : GW E cX11_heldOf 5 RX11 1 24 σ 5 [(0, vR 300), (1, vI l1), (2, vI l2), (3, vI l3), (4, vI l4)] [] := by
  obtain ⟨n, h⟩ := h
  exact lp_GW (P := fun (x : Int × Int × Int × Int) (σ : Mem) => GW E cX11_heldOf 5 RX11 1 24 σ 5 [(0, vR 300), (1, vI x.1), (2, vI x.2.1), (3, vI x.2.2.1), (4, vI x.2.2.2)] []) (fun K hK x σ h  => bX11_heldOf_5 hK hR h) n _ σ h 
set_option maxHeartbeats 1000000 in
theorem kX11_heldOf {l1 : Int} {l2 : Int} {σ : Mem} {Q : Int → Mem → Prop} (h : wX11_heldOf l1 l2 σ Q) (l : Launch) (D : va_G) (cy : Nat → ClassId) (ad : Nat → Nat) : MI l yX11_heldOf cX11_heldOf 5 (some .int) 1 24 D cy ad [vR 300, vI l1, vI l2] σ Q := by
  refine m_I (own := RX11) (lv := [(0, vR 300), (1, vI l1), (2, vI l2)]) (by decide +kernel) rfl (Nat.le_of_ble_eq_true rfl) rfl (fun E hR => ?_) l D cy ad
  unfold wX11_heldOf at h
  refine g_iconst dX11_heldOf_0 0 rfl (by decide) ?_
  refine g_istore_n (lv' := [(3, vI 0), (0, vR 300), (1, vI l1), (2, vI l2)]) dX11_heldOf_1 (by decide) rfl ?_
  refine g_iconst dX11_heldOf_2 0 rfl (by decide) ?_
  refine g_istore (lv' := [(4, vI 0), (3, vI 0), (0, vR 300), (1, vI l1), (2, vI l2)]) dX11_heldOf_3 (by decide) rfl ?_
  refine g_lv (lv' := [(0, vR 300), (1, vI l1), (2, vI l2), (3, vI 0), (4, vI 0)]) [2, 3, 4, 1, 0] rfl ?_
  exact eX11_heldOf_5 hR h
def wX11_heldBits_31 (K4 : (Int × Int) → Mem → Prop) (Q : Int → Mem → Prop) (l2 : Int) (s0 : Int) (s1 : Int) (σ : Mem) : Prop := (∀ x1 : Int, x1 = bor s1 s0 → (∀ x2 : Int, x2 = w32 (l2 + 1) → K4 (x1, x2) σ))
def wX11_heldBits_4 (K4 : (Int × Int) → Mem → Prop) (Q : Int → Mem → Prop) (l1 : Int) (l2 : Int) (σ : Mem) : Prop := ((4 ≤ l2 → Q l1 σ) ∧ (¬ 4 ≤ l2 → (wX11_holdAt l2 σ (fun y2 m1 => ((0 ≤ w32 (y2 + 2) ∧ w32 (y2 + 2) < 405) ∧ ((m1 301 (w32 (y2 + 2)).toNat ≤ 0 → wX11_heldBits_31 K4 Q l2 0 l1 m1) ∧ (¬ m1 301 (w32 (y2 + 2)).toNat ≤ 0 → wX11_heldBits_31 K4 Q l2 (bshl 1 l2) l1 m1)))))))
def wLX11_heldBits_4 (Q : Int → Mem → Prop) (l1 : Int) (l2 : Int) (σ : Mem) : Prop := ∃ n, lp (fun (K4 : (Int × Int) → Mem → Prop) (x : Int × Int) (σ : Mem) => wX11_heldBits_4 K4 Q x.1 x.2 σ) n (l1, l2) σ
def wX11_heldBits (σ : Mem) (Q : Int → Mem → Prop) : Prop := wLX11_heldBits_4 Q 0 0 σ
set_option maxHeartbeats 1000000 in
theorem bX11_heldBits_31 {E : TE} {K4 : (Int × Int) → Mem → Prop} (hK4 : ∀ (x : Int × Int) (σ : Mem), K4 x σ → GW E cX11_heldBits 3 RX11 1 20 σ 4 [(0, vR 300), (1, vI x.1), (2, vI x.2)] []) {Q : Int → Mem → Prop} (hR : RI E (some .int) Q) {l2 : Int} {s0 : Int} {s1 : Int} {σ : Mem} (h : wX11_heldBits_31 K4 Q l2 s0 s1 σ) : GW E cX11_heldBits 3 RX11 1 20 σ 31 [(0, vR 300), (2, vI l2)] [vI s0, vI s1] := by
  unfold wX11_heldBits_31 at h
  refine g_ior dX11_heldBits_31 ?_
  refine g_topI (fun x1 ex1 => ?_)
  replace h := h x1 ex1
  refine g_istore_n (lv' := [(1, vI x1), (0, vR 300), (2, vI l2)]) dX11_heldBits_32 (by decide) rfl ?_
  refine g_iinc (lv' := [(2, vI (w32 (l2 + 1))), (1, vI x1), (0, vR 300)]) dX11_heldBits_33 rfl (by decide) rfl ?_
  refine g_loc (a := w32 (l2 + 1)) (i := 2) (lv := [(1, vI x1), (0, vR 300)]) (fun x2 ex2 => ?_)
  replace h := h x2 ex2
  refine g_goto (tgt := 4) dX11_heldBits_36 (by decide) ?_
  refine g_lv (lv' := [(0, vR 300), (1, vI x1), (2, vI x2)]) [2, 1, 0] rfl ?_
  exact hK4 ((x1, x2)) σ h
set_option maxHeartbeats 1000000 in
theorem bX11_heldBits_4 {E : TE} {K4 : (Int × Int) → Mem → Prop} (hK4 : ∀ (x : Int × Int) (σ : Mem), K4 x σ → GW E cX11_heldBits 3 RX11 1 20 σ 4 [(0, vR 300), (1, vI x.1), (2, vI x.2)] []) {Q : Int → Mem → Prop} (hR : RI E (some .int) Q) {l1 : Int} {l2 : Int} {σ : Mem} (h : wX11_heldBits_4 K4 Q l1 l2 σ) : GW E cX11_heldBits 3 RX11 1 20 σ 4 [(0, vR 300), (1, vI l1), (2, vI l2)] [] := by
  unfold wX11_heldBits_4 at h
  refine g_iload_n dX11_heldBits_4 rfl ?_
  refine g_iconst dX11_heldBits_5 4 rfl (by decide) ?_
  obtain ⟨hA, hB⟩ := h
  refine g_icmp_ge (tgt := 39) dX11_heldBits_6 (by decide) (fun hc => ?_) (fun hc => ?_)
  · replace h := hA hc
    refine g_iload_n dX11_heldBits_39 rfl ?_
    exact g_iret hR dX11_heldBits_40 h
  · replace h := hB hc
    refine g_iload_n dX11_heldBits_9 rfl ?_
    refine g_aload_n dX11_heldBits_10 rfl ?_
    refine g_getR (r := 301) fl_11_9 kd_300 rfl dX11_heldBits_11 ?_
    refine g_iload_n dX11_heldBits_14 rfl ?_
    refine g_cSi (st := [vR 301, vI l1]) (av := [vI l2]) (kX11_holdAt h) cw_RX11_91 (by decide) (by decide) (Nat.le_of_ble_eq_true rfl) rfl dX11_heldBits_15 (fun y2 m1 h => ?_)
    refine g_iconst dX11_heldBits_18 2 rfl (by decide) ?_
    refine g_iadd dX11_heldBits_19 ?_
    obtain ⟨hin, h⟩ := h
    refine g_iald kd_301 hin dX11_heldBits_20 ?_
    obtain ⟨hA, hB⟩ := h
    refine g_if_le (tgt := 30) dX11_heldBits_21 (by decide) (fun hc => ?_) (fun hc => ?_)
    · replace h := hA hc
      refine g_iconst dX11_heldBits_30 0 rfl (by decide) ?_
      refine g_lv (lv' := [(0, vR 300), (2, vI l2)]) [0, 2] rfl ?_
      exact bX11_heldBits_31 hK4 hR h
    · replace h := hB hc
      refine g_iconst dX11_heldBits_24 1 rfl (by decide) ?_
      refine g_iload_n dX11_heldBits_25 rfl ?_
      refine g_ishl dX11_heldBits_26 ?_
      refine g_goto (tgt := 31) dX11_heldBits_27 (by decide) ?_
      refine g_lv (lv' := [(0, vR 300), (2, vI l2)]) [0, 2] rfl ?_
      exact bX11_heldBits_31 hK4 hR h
theorem eX11_heldBits_4 {E : TE} {Q : Int → Mem → Prop} (hR : RI E (some .int) Q) {l1 : Int} {l2 : Int} {σ : Mem} (h : wLX11_heldBits_4 Q l1 l2 σ) : GW E cX11_heldBits 3 RX11 1 20 σ 4 [(0, vR 300), (1, vI l1), (2, vI l2)] [] := by
  obtain ⟨n, h⟩ := h
  exact lp_GW (P := fun (x : Int × Int) (σ : Mem) => GW E cX11_heldBits 3 RX11 1 20 σ 4 [(0, vR 300), (1, vI x.1), (2, vI x.2)] []) (fun K hK x σ h  => bX11_heldBits_4 hK hR h) n _ σ h 
set_option maxHeartbeats 1000000 in
theorem kX11_heldBits {σ : Mem} {Q : Int → Mem → Prop} (h : wX11_heldBits σ Q) (l : Launch) (D : va_G) (cy : Nat → ClassId) (ad : Nat → Nat) : MI l yX11_heldBits cX11_heldBits 3 (some .int) 1 20 D cy ad [vR 300] σ Q := by
  refine m_I (own := RX11) (lv := [(0, vR 300)]) (by decide +kernel) rfl (Nat.le_of_ble_eq_true rfl) rfl (fun E hR => ?_) l D cy ad
  unfold wX11_heldBits at h
  refine g_iconst dX11_heldBits_0 0 rfl (by decide) ?_
  refine g_istore_n (lv' := [(1, vI 0), (0, vR 300)]) dX11_heldBits_1 (by decide) rfl ?_
  refine g_iconst dX11_heldBits_2 0 rfl (by decide) ?_
  refine g_istore_n (lv' := [(2, vI 0), (1, vI 0), (0, vR 300)]) dX11_heldBits_3 (by decide) rfl ?_
  refine g_lv (lv' := [(0, vR 300), (1, vI 0), (2, vI 0)]) [2, 1, 0] rfl ?_
  exact eX11_heldBits_4 hR h
def wX11_room (l1 : Int) (l2 : Int) (σ : Mem) (Q : Int → Mem → Prop) : Prop := (wX11_limit l2 l1 σ (fun y2 m1 => (wX11_pair l1 l2 m1 (fun y4 m3 => ((0 ≤ w32 (65 + y4) ∧ w32 (65 + y4) < 405) ∧ (wX11_heldOf l1 l2 m3 (fun y6 m5 => Q (w32 ((w32 (y2 - (m3 301 (w32 (65 + y4)).toNat))) - y6)) m5)))))))
set_option maxHeartbeats 1000000 in
theorem kX11_room {l1 : Int} {l2 : Int} {σ : Mem} {Q : Int → Mem → Prop} (h : wX11_room l1 l2 σ Q) (l : Launch) (D : va_G) (cy : Nat → ClassId) (ad : Nat → Nat) : MI l yX11_room cX11_room 3 (some .int) 2 48 D cy ad [vR 300, vI l1, vI l2] σ Q := by
  refine m_I (own := RX11) (lv := [(0, vR 300), (1, vI l1), (2, vI l2)]) (by decide +kernel) rfl (Nat.le_of_ble_eq_true rfl) rfl (fun E hR => ?_) l D cy ad
  unfold wX11_room at h
  refine g_aload_n dX11_room_0 rfl ?_
  refine g_iload_n dX11_room_1 rfl ?_
  refine g_iload_n dX11_room_2 rfl ?_
  refine g_cVi (st := []) (av := [vI l2, vI l1]) (kX11_limit h) kd_300 rfl cw_RX11_95 (by decide) (by decide) (Nat.le_of_ble_eq_true rfl) rfl dX11_room_3 (fun y2 m1 h => ?_)
  refine g_aload_n dX11_room_6 rfl ?_
  refine g_getR (r := 301) fl_11_9 kd_300 rfl dX11_room_7 ?_
  refine g_bipush dX11_room_10 65 rfl (by decide) ?_
  refine g_iload_n dX11_room_12 rfl ?_
  refine g_iload_n dX11_room_13 rfl ?_
  refine g_cSi (st := [vI 65, vR 301, vI y2]) (av := [vI l1, vI l2]) (kX11_pair h) cw_RX11_82 (by decide) (by decide) (Nat.le_of_ble_eq_true rfl) rfl dX11_room_14 (fun y4 m3 h => ?_)
  refine g_iadd dX11_room_17 ?_
  obtain ⟨hin, h⟩ := h
  refine g_iald kd_301 hin dX11_room_18 ?_
  refine g_isub dX11_room_19 ?_
  refine g_aload_n dX11_room_20 rfl ?_
  refine g_iload_n dX11_room_21 rfl ?_
  refine g_iload_n dX11_room_22 rfl ?_
  refine g_cVi (st := [vI (w32 (y2 - (m3 301 (w32 (65 + y4)).toNat)))]) (av := [vI l1, vI l2]) (kX11_heldOf h) kd_300 rfl cw_RX11_98 (by decide) (by decide) (Nat.le_of_ble_eq_true rfl) rfl dX11_room_23 (fun y6 m5 h => ?_)
  refine g_isub dX11_room_26 ?_
  exact g_iret hR dX11_room_27 h
def wX11_straight (l1 : Int) (l2 : Int) (l3 : Int) (σ : Mem) (Q : Mem → Prop) : Prop := (wX11_pair l1 l2 σ (fun y2 m1 => ((0 ≤ w32 (65 + y2) ∧ w32 (65 + y2) < 405) ∧ ((0 ≤ w32 (65 + y2) ∧ w32 (65 + y2) < 405) ∧ (∀ m3 : Mem, m3 = up2 m1 301 (w32 (65 + y2)).toNat (w32 ((m1 301 (w32 (65 + y2)).toNat) + l3)) → (wX11_pair l2 l1 m3 (fun y5 m4 => ((0 ≤ w32 (65 + y5) ∧ w32 (65 + y5) < 405) ∧ ((0 ≤ w32 (65 + y5) ∧ w32 (65 + y5) < 405) ∧ (∀ m6 : Mem, m6 = up2 m4 301 (w32 (65 + y5)).toNat (w32 ((m4 301 (w32 (65 + y5)).toNat) - l3)) → Q m6))))))))))
set_option maxHeartbeats 1000000 in
theorem kX11_straight {l1 : Int} {l2 : Int} {l3 : Int} {σ : Mem} {Q : Mem → Prop} (h : wX11_straight l1 l2 l3 σ Q) (l : Launch) (D : va_G) (cy : Nat → ClassId) (ad : Nat → Nat) : MV l yX11_straight cX11_straight 4 none 1 21 D cy ad [vR 300, vI l1, vI l2, vI l3] σ Q := by
  refine m_V (own := RX11) (lv := [(0, vR 300), (1, vI l1), (2, vI l2), (3, vI l3)]) (by decide +kernel) rfl (Nat.le_of_ble_eq_true rfl) rfl (fun E hR => ?_) l D cy ad
  unfold wX11_straight at h
  refine g_aload_n dX11_straight_0 rfl ?_
  refine g_getR (r := 301) fl_11_9 kd_300 rfl dX11_straight_1 ?_
  refine g_bipush dX11_straight_4 65 rfl (by decide) ?_
  refine g_iload_n dX11_straight_6 rfl ?_
  refine g_iload_n dX11_straight_7 rfl ?_
  refine g_cSi (st := [vI 65, vR 301]) (av := [vI l1, vI l2]) (kX11_pair h) cw_RX11_82 (by decide) (by decide) (Nat.le_of_ble_eq_true rfl) rfl dX11_straight_8 (fun y2 m1 h => ?_)
  refine g_iadd dX11_straight_11 ?_
  refine g_dup2 dX11_straight_12 rfl rfl ?_
  obtain ⟨hin, h⟩ := h
  refine g_iald kd_301 hin dX11_straight_13 ?_
  refine g_iload_n dX11_straight_14 rfl ?_
  refine g_iadd dX11_straight_15 ?_
  obtain ⟨hin, h⟩ := h
  refine g_iast kd_301 hin dX11_straight_16 ?_
  refine g_nm (fun m3 em3 => ?_)
  replace h := h m3 em3
  refine g_aload_n dX11_straight_17 rfl ?_
  refine g_getR (r := 301) fl_11_9 kd_300 rfl dX11_straight_18 ?_
  refine g_bipush dX11_straight_21 65 rfl (by decide) ?_
  refine g_iload_n dX11_straight_23 rfl ?_
  refine g_iload_n dX11_straight_24 rfl ?_
  refine g_cSi (st := [vI 65, vR 301]) (av := [vI l2, vI l1]) (kX11_pair h) cw_RX11_82 (by decide) (by decide) (Nat.le_of_ble_eq_true rfl) rfl dX11_straight_25 (fun y5 m4 h => ?_)
  refine g_iadd dX11_straight_28 ?_
  refine g_dup2 dX11_straight_29 rfl rfl ?_
  obtain ⟨hin, h⟩ := h
  refine g_iald kd_301 hin dX11_straight_30 ?_
  refine g_iload_n dX11_straight_31 rfl ?_
  refine g_isub dX11_straight_32 ?_
  obtain ⟨hin, h⟩ := h
  refine g_iast kd_301 hin dX11_straight_33 ?_
  refine g_nm (fun m6 em6 => ?_)
  replace h := h m6 em6
  exact g_vret hR dX11_straight_34 h
def wX11_sign_20 (K20 : (Int × Int) → Mem → Prop) (Q : Int → Mem → Prop) (l1 : Int) (l2 : Int) (σ : Mem) : Prop := ((l2 < 0 → Q (σ 300 2) σ) ∧ (¬ l2 < 0 → (∀ m1 : Mem, m1 = up2 σ 300 2 (w32 ((σ 300 2) + 1)) → ((0 ≤ σ 300 2 ∧ σ 300 2 < 80) ∧ (∀ m2 : Mem, m2 = up2 m1 302 (σ 300 2).toNat (i8 (i8 (bshr l1 (w32 (8 * l2))))) → (∀ x3 : Int, x3 = w32 (l2 + (-1)) → K20 (l1, x3) m2))))))
def wLX11_sign_20 (Q : Int → Mem → Prop) (l1 : Int) (l2 : Int) (σ : Mem) : Prop := ∃ n, lp (fun (K20 : (Int × Int) → Mem → Prop) (x : Int × Int) (σ : Mem) => wX11_sign_20 K20 Q x.1 x.2 σ) n (l1, l2) σ
def wX11_sign (l1 : Int) (σ : Mem) (Q : Int → Mem → Prop) : Prop := (∀ m1 : Mem, m1 = up2 σ 300 5 0 → ((w32 ((m1 300 2) + 4) ≤ 80 → wLX11_sign_20 Q l1 3 m1) ∧ (¬ w32 ((m1 300 2) + 4) ≤ 80 → Q ((-1)) m1)))
set_option maxHeartbeats 1000000 in
theorem bX11_sign_20 {E : TE} {K20 : (Int × Int) → Mem → Prop} (hK20 : ∀ (x : Int × Int) (σ : Mem), K20 x σ → GW E cX11_sign 3 RX11 0 0 σ 20 [(0, vR 300), (1, vI x.1), (2, vI x.2)] []) {Q : Int → Mem → Prop} (hR : RI E (some .int) Q) {l1 : Int} {l2 : Int} {σ : Mem} (h : wX11_sign_20 K20 Q l1 l2 σ) : GW E cX11_sign 3 RX11 0 0 σ 20 [(0, vR 300), (1, vI l1), (2, vI l2)] [] := by
  unfold wX11_sign_20 at h
  refine g_iload_n dX11_sign_20 rfl ?_
  obtain ⟨hA, hB⟩ := h
  refine g_if_lt (tgt := 53) dX11_sign_21 (by decide) (fun hc => ?_) (fun hc => ?_)
  · replace h := hA hc
    refine g_aload_n dX11_sign_53 rfl ?_
    refine g_getI fl_11_101 kd_300 rfl dX11_sign_54 ?_
    exact g_iret hR dX11_sign_57 h
  · replace h := hB hc
    refine g_aload_n dX11_sign_24 rfl ?_
    refine g_getR (r := 302) fl_11_13 kd_300 rfl dX11_sign_25 ?_
    refine g_aload_n dX11_sign_28 rfl ?_
    refine g_dup dX11_sign_29 rfl ?_
    refine g_getI fl_11_101 kd_300 rfl dX11_sign_30 ?_
    refine g_dup_x1 dX11_sign_33 rfl rfl ?_
    refine g_iconst dX11_sign_34 1 rfl (by decide) ?_
    refine g_iadd dX11_sign_35 ?_
    refine g_putI fp_11_101 kd_300 rfl dX11_sign_36 ?_
    refine g_nm (fun m1 em1 => ?_)
    replace h := h m1 em1
    refine g_iload_n dX11_sign_39 rfl ?_
    refine g_bipush dX11_sign_40 8 rfl (by decide) ?_
    refine g_iload_n dX11_sign_42 rfl ?_
    refine g_imul dX11_sign_43 ?_
    refine g_ishr dX11_sign_44 ?_
    refine g_i2b dX11_sign_45 ?_
    obtain ⟨hin, h⟩ := h
    refine g_bast kd_302 hin dX11_sign_46 ?_
    refine g_nm (fun m2 em2 => ?_)
    replace h := h m2 em2
    refine g_iinc (lv' := [(2, vI (w32 (l2 + (-1)))), (0, vR 300), (1, vI l1)]) dX11_sign_47 rfl (by decide) rfl ?_
    refine g_loc (a := w32 (l2 + (-1))) (i := 2) (lv := [(0, vR 300), (1, vI l1)]) (fun x3 ex3 => ?_)
    replace h := h x3 ex3
    refine g_goto (tgt := 20) dX11_sign_50 (by decide) ?_
    refine g_lv (lv' := [(0, vR 300), (1, vI l1), (2, vI x3)]) [1, 2, 0] rfl ?_
    exact hK20 ((l1, x3)) m2 h
theorem eX11_sign_20 {E : TE} {Q : Int → Mem → Prop} (hR : RI E (some .int) Q) {l1 : Int} {l2 : Int} {σ : Mem} (h : wLX11_sign_20 Q l1 l2 σ) : GW E cX11_sign 3 RX11 0 0 σ 20 [(0, vR 300), (1, vI l1), (2, vI l2)] [] := by
  obtain ⟨n, h⟩ := h
  exact lp_GW (P := fun (x : Int × Int) (σ : Mem) => GW E cX11_sign 3 RX11 0 0 σ 20 [(0, vR 300), (1, vI x.1), (2, vI x.2)] []) (fun K hK x σ h  => bX11_sign_20 hK hR h) n _ σ h 
set_option maxHeartbeats 1000000 in
theorem kX11_sign {l1 : Int} {σ : Mem} {Q : Int → Mem → Prop} (h : wX11_sign l1 σ Q) (l : Launch) (D : va_G) (cy : Nat → ClassId) (ad : Nat → Nat) : MI l yX11_sign cX11_sign 3 (some .int) 0 0 D cy ad [vR 300, vI l1] σ Q := by
  refine m_I (own := RX11) (lv := [(0, vR 300), (1, vI l1)]) (by decide +kernel) rfl (Nat.le_of_ble_eq_true rfl) rfl (fun E hR => ?_) l D cy ad
  unfold wX11_sign at h
  refine g_aload_n dX11_sign_0 rfl ?_
  refine g_iconst dX11_sign_1 0 rfl (by decide) ?_
  refine g_putI fp_11_68 kd_300 rfl dX11_sign_2 ?_
  refine g_nm (fun m1 em1 => ?_)
  replace h := h m1 em1
  refine g_aload_n dX11_sign_5 rfl ?_
  refine g_getI fl_11_101 kd_300 rfl dX11_sign_6 ?_
  refine g_iconst dX11_sign_9 4 rfl (by decide) ?_
  refine g_iadd dX11_sign_10 ?_
  refine g_bipush dX11_sign_11 80 rfl (by decide) ?_
  obtain ⟨hA, hB⟩ := h
  refine g_icmp_le (tgt := 18) dX11_sign_13 (by decide) (fun hc => ?_) (fun hc => ?_)
  · replace h := hA hc
    refine g_iconst dX11_sign_18 3 rfl (by decide) ?_
    refine g_istore_n (lv' := [(2, vI 3), (0, vR 300), (1, vI l1)]) dX11_sign_19 (by decide) rfl ?_
    refine g_lv (lv' := [(0, vR 300), (1, vI l1), (2, vI 3)]) [1, 2, 0] rfl ?_
    exact eX11_sign_20 hR h
  · replace h := hB hc
    refine g_iconst dX11_sign_16 (-1) rfl (by decide) ?_
    exact g_iret hR dX11_sign_17 h
def wX11_end (l1 : Int) (σ : Mem) (Q : Int → Mem → Prop) : Prop := (∀ m1 : Mem, m1 = up2 σ 300 5 0 → (wX11_in l1 0 (m1 300 2) m1 (fun y3 m2 => ((¬ y3 = 0 → (∀ m4 : Mem, m4 = up2 m2 300 2 l1 → Q 1 m4)) ∧ (y3 = 0 → Q 0 m2)))))
set_option maxHeartbeats 1000000 in
theorem kX11_end {l1 : Int} {σ : Mem} {Q : Int → Mem → Prop} (h : wX11_end l1 σ Q) (l : Launch) (D : va_G) (cy : Nat → ClassId) (ad : Nat → Nat) : MI l yX11_end cX11_end 2 (some .boolean) 1 22 D cy ad [vR 300, vI l1] σ Q := by
  refine m_I (own := RX11) (lv := [(0, vR 300), (1, vI l1)]) (by decide +kernel) rfl (Nat.le_of_ble_eq_true rfl) rfl (fun E hR => ?_) l D cy ad
  unfold wX11_end at h
  refine g_aload_n dX11_end_0 rfl ?_
  refine g_iconst dX11_end_1 0 rfl (by decide) ?_
  refine g_putI fp_11_68 kd_300 rfl dX11_end_2 ?_
  refine g_nm (fun m1 em1 => ?_)
  replace h := h m1 em1
  refine g_iload_n dX11_end_5 rfl ?_
  refine g_iconst dX11_end_6 0 rfl (by decide) ?_
  refine g_aload_n dX11_end_7 rfl ?_
  refine g_getI fl_11_101 kd_300 rfl dX11_end_8 ?_
  refine g_cSi (st := []) (av := [vI l1, vI 0, vI (m1 300 2)]) (kX11_in h) cw_RX11_74 (by decide) (by decide) (Nat.le_of_ble_eq_true rfl) rfl dX11_end_11 (fun y3 m2 h => ?_)
  obtain ⟨hA, hB⟩ := h
  refine g_if_ne (tgt := 19) dX11_end_14 (by decide) (fun hc => ?_) (fun hc => ?_)
  · replace h := hA hc
    refine g_aload_n dX11_end_19 rfl ?_
    refine g_iload_n dX11_end_20 rfl ?_
    refine g_putI fp_11_101 kd_300 rfl dX11_end_21 ?_
    refine g_nm (fun m4 em4 => ?_)
    replace h := h m4 em4
    refine g_iconst dX11_end_24 1 rfl (by decide) ?_
    exact g_zret hR dX11_end_25 (by decide) h
  · replace h := hB hc
    refine g_iconst dX11_end_17 0 rfl (by decide) ?_
    exact g_zret hR dX11_end_18 (by decide) h
def wX11_begin (σ : Mem) (Q : Mem → Prop) : Prop := (∀ m1 : Mem, m1 = up2 σ 300 6 (σ 300 2) → (∀ m2 : Mem, m2 = up2 m1 300 7 0 → (∀ m3 : Mem, m3 = up2 m2 300 8 ((-1)) → (∀ m4 : Mem, m4 = up2 m3 300 2 0 → Q m4))))
set_option maxHeartbeats 1000000 in
theorem kX11_begin {σ : Mem} {Q : Mem → Prop} (h : wX11_begin σ Q) (l : Launch) (D : va_G) (cy : Nat → ClassId) (ad : Nat → Nat) : MV l yX11_begin cX11_begin 1 none 0 0 D cy ad [vR 300] σ Q := by
  refine m_V (own := RX11) (lv := [(0, vR 300)]) (by decide +kernel) rfl (Nat.le_of_ble_eq_true rfl) rfl (fun E hR => ?_) l D cy ad
  unfold wX11_begin at h
  refine g_aload_n dX11_begin_0 rfl ?_
  refine g_aload_n dX11_begin_1 rfl ?_
  refine g_getI fl_11_101 kd_300 rfl dX11_begin_2 ?_
  refine g_putI fp_11_104 kd_300 rfl dX11_begin_5 ?_
  refine g_nm (fun m1 em1 => ?_)
  replace h := h m1 em1
  refine g_aload_n dX11_begin_8 rfl ?_
  refine g_iconst dX11_begin_9 0 rfl (by decide) ?_
  refine g_putI fp_11_107 kd_300 rfl dX11_begin_10 ?_
  refine g_nm (fun m2 em2 => ?_)
  replace h := h m2 em2
  refine g_aload_n dX11_begin_13 rfl ?_
  refine g_iconst dX11_begin_14 (-1) rfl (by decide) ?_
  refine g_putI fp_11_110 kd_300 rfl dX11_begin_15 ?_
  refine g_nm (fun m3 em3 => ?_)
  replace h := h m3 em3
  refine g_aload_n dX11_begin_18 rfl ?_
  refine g_iconst dX11_begin_19 0 rfl (by decide) ?_
  refine g_putI fp_11_101 kd_300 rfl dX11_begin_20 ?_
  refine g_nm (fun m4 em4 => ?_)
  replace h := h m4 em4
  exact g_vret hR dX11_begin_23 h
def wX11_here (σ : Mem) (Q : Int → Mem → Prop) : Prop := ((σ 300 6 ≤ σ 300 7 → Q ((-1)) σ) ∧ (¬ σ 300 6 ≤ σ 300 7 → ((0 ≤ σ 300 7 ∧ σ 300 7 < 80) ∧ Q (band (σ 302 (σ 300 7).toNat) 255) σ)))
set_option maxHeartbeats 1000000 in
theorem kX11_here {σ : Mem} {Q : Int → Mem → Prop} (h : wX11_here σ Q) (l : Launch) (D : va_G) (cy : Nat → ClassId) (ad : Nat → Nat) : MI l yX11_here cX11_here 1 (some .int) 0 0 D cy ad [vR 300] σ Q := by
  refine m_I (own := RX11) (lv := [(0, vR 300)]) (by decide +kernel) rfl (Nat.le_of_ble_eq_true rfl) rfl (fun E hR => ?_) l D cy ad
  unfold wX11_here at h
  refine g_aload_n dX11_here_0 rfl ?_
  refine g_getI fl_11_107 kd_300 rfl dX11_here_1 ?_
  refine g_aload_n dX11_here_4 rfl ?_
  refine g_getI fl_11_104 kd_300 rfl dX11_here_5 ?_
  obtain ⟨hA, hB⟩ := h
  refine g_icmp_ge (tgt := 27) dX11_here_8 (by decide) (fun hc => ?_) (fun hc => ?_)
  · replace h := hA hc
    refine g_iconst dX11_here_27 (-1) rfl (by decide) ?_
    exact g_iret hR dX11_here_28 h
  · replace h := hB hc
    refine g_aload_n dX11_here_11 rfl ?_
    refine g_getR (r := 302) fl_11_13 kd_300 rfl dX11_here_12 ?_
    refine g_aload_n dX11_here_15 rfl ?_
    refine g_getI fl_11_107 kd_300 rfl dX11_here_16 ?_
    obtain ⟨hin, h⟩ := h
    refine g_bald kd_302 hin dX11_here_19 ?_
    refine g_sipush dX11_here_20 255 rfl (by decide) ?_
    refine g_iand dX11_here_23 ?_
    refine g_goto (tgt := 28) dX11_here_24 (by decide) ?_
    exact g_iret hR dX11_here_28 h
def wX11_fine (σ : Mem) (Q : Int → Mem → Prop) : Prop := ((¬ σ 300 8 = (-1) → Q 0 σ) ∧ (σ 300 8 = (-1) → Q 1 σ))
set_option maxHeartbeats 1000000 in
theorem kX11_fine {σ : Mem} {Q : Int → Mem → Prop} (h : wX11_fine σ Q) (l : Launch) (D : va_G) (cy : Nat → ClassId) (ad : Nat → Nat) : MI l yX11_fine cX11_fine 1 (some .boolean) 0 0 D cy ad [vR 300] σ Q := by
  refine m_I (own := RX11) (lv := [(0, vR 300)]) (by decide +kernel) rfl (Nat.le_of_ble_eq_true rfl) rfl (fun E hR => ?_) l D cy ad
  unfold wX11_fine at h
  refine g_aload_n dX11_fine_0 rfl ?_
  refine g_getI fl_11_110 kd_300 rfl dX11_fine_1 ?_
  refine g_iconst dX11_fine_4 (-1) rfl (by decide) ?_
  obtain ⟨hA, hB⟩ := h
  refine g_icmp_ne (tgt := 12) dX11_fine_5 (by decide) (fun hc => ?_) (fun hc => ?_)
  · replace h := hA hc
    refine g_iconst dX11_fine_12 0 rfl (by decide) ?_
    exact g_zret hR dX11_fine_13 (by decide) h
  · replace h := hB hc
    refine g_iconst dX11_fine_8 1 rfl (by decide) ?_
    refine g_goto (tgt := 13) dX11_fine_9 (by decide) ?_
    exact g_zret hR dX11_fine_13 (by decide) h
def wX11_fault (l1 : Int) (σ : Mem) (Q : Mem → Prop) : Prop := (wX11_fine  σ (fun y2 m1 => ((y2 = 0 → Q m1) ∧ (¬ y2 = 0 → (∀ m3 : Mem, m3 = up2 m1 300 8 l1 → Q m3)))))
set_option maxHeartbeats 1000000 in
theorem kX11_fault {l1 : Int} {σ : Mem} {Q : Mem → Prop} (h : wX11_fault l1 σ Q) (l : Launch) (D : va_G) (cy : Nat → ClassId) (ad : Nat → Nat) : MV l yX11_fault cX11_fault 2 none 1 20 D cy ad [vR 300, vI l1] σ Q := by
  refine m_V (own := RX11) (lv := [(0, vR 300), (1, vI l1)]) (by decide +kernel) rfl (Nat.le_of_ble_eq_true rfl) rfl (fun E hR => ?_) l D cy ad
  unfold wX11_fault at h
  refine g_aload_n dX11_fault_0 rfl ?_
  refine g_cVi (st := []) (av := []) (kX11_fine h) kd_300 rfl cw_RX11_113 (by decide) (by decide) (Nat.le_of_ble_eq_true rfl) rfl dX11_fault_1 (fun y2 m1 h => ?_)
  obtain ⟨hA, hB⟩ := h
  refine g_if_eq (tgt := 12) dX11_fault_4 (by decide) (fun hc => ?_) (fun hc => ?_)
  · replace h := hA hc
    exact g_vret hR dX11_fault_12 h
  · replace h := hB hc
    refine g_aload_n dX11_fault_7 rfl ?_
    refine g_iload_n dX11_fault_8 rfl ?_
    refine g_putI fp_11_110 kd_300 rfl dX11_fault_9 ?_
    refine g_nm (fun m3 em3 => ?_)
    replace h := h m3 em3
    exact g_vret hR dX11_fault_12 h
def wX11_oneOf (l1 : Int) (l2 : Int) (σ : Mem) (Q : Int → Mem → Prop) : Prop := (wX11_fine  σ (fun y2 m1 => ((¬ y2 = 0 → (wX11_here  m1 (fun y4 m3 => (wX11_in y4 l1 (w32 ((w32 (l1 + l2)) - 1)) m3 (fun y6 m5 => ((¬ y6 = 0 → (∀ m7 : Mem, m7 = up2 m5 300 7 (w32 ((m5 300 7) + 1)) → ((0 ≤ w32 ((m7 300 7) - 1) ∧ w32 ((m7 300 7) - 1) < 80) ∧ Q (w32 ((m7 302 (w32 ((m7 300 7) - 1)).toNat) - l1)) m7))) ∧ (y6 = 0 → (wX11_fault (m5 300 7) m5 (fun m8 => Q 0 m8))))))))) ∧ (y2 = 0 → Q 0 m1))))
set_option maxHeartbeats 1000000 in
theorem kX11_oneOf {l1 : Int} {l2 : Int} {σ : Mem} {Q : Int → Mem → Prop} (h : wX11_oneOf l1 l2 σ Q) (l : Launch) (D : va_G) (cy : Nat → ClassId) (ad : Nat → Nat) : MI l yX11_oneOf cX11_oneOf 3 (some .int) 2 41 D cy ad [vR 300, vI l1, vI l2] σ Q := by
  refine m_I (own := RX11) (lv := [(0, vR 300), (1, vI l1), (2, vI l2)]) (by decide +kernel) rfl (Nat.le_of_ble_eq_true rfl) rfl (fun E hR => ?_) l D cy ad
  unfold wX11_oneOf at h
  refine g_aload_n dX11_oneOf_0 rfl ?_
  refine g_cVi (st := []) (av := []) (kX11_fine h) kd_300 rfl cw_RX11_113 (by decide) (by decide) (Nat.le_of_ble_eq_true rfl) rfl dX11_oneOf_1 (fun y2 m1 h => ?_)
  obtain ⟨hA, hB⟩ := h
  refine g_if_ne (tgt := 9) dX11_oneOf_4 (by decide) (fun hc => ?_) (fun hc => ?_)
  · replace h := hA hc
    refine g_aload_n dX11_oneOf_9 rfl ?_
    refine g_cVi (st := []) (av := []) (kX11_here h) kd_300 rfl cw_RX11_117 (by decide) (by decide) (Nat.le_of_ble_eq_true rfl) rfl dX11_oneOf_10 (fun y4 m3 h => ?_)
    refine g_iload_n dX11_oneOf_13 rfl ?_
    refine g_iload_n dX11_oneOf_14 rfl ?_
    refine g_iload_n dX11_oneOf_15 rfl ?_
    refine g_iadd dX11_oneOf_16 ?_
    refine g_iconst dX11_oneOf_17 1 rfl (by decide) ?_
    refine g_isub dX11_oneOf_18 ?_
    refine g_cSi (st := []) (av := [vI y4, vI l1, vI (w32 ((w32 (l1 + l2)) - 1))]) (kX11_in h) cw_RX11_74 (by decide) (by decide) (Nat.le_of_ble_eq_true rfl) rfl dX11_oneOf_19 (fun y6 m5 h => ?_)
    obtain ⟨hA, hB⟩ := h
    refine g_if_ne (tgt := 35) dX11_oneOf_22 (by decide) (fun hc => ?_) (fun hc => ?_)
    · replace h := hA hc
      refine g_aload_n dX11_oneOf_35 rfl ?_
      refine g_dup dX11_oneOf_36 rfl ?_
      refine g_getI fl_11_107 kd_300 rfl dX11_oneOf_37 ?_
      refine g_iconst dX11_oneOf_40 1 rfl (by decide) ?_
      refine g_iadd dX11_oneOf_41 ?_
      refine g_putI fp_11_107 kd_300 rfl dX11_oneOf_42 ?_
      refine g_nm (fun m7 em7 => ?_)
      replace h := h m7 em7
      refine g_aload_n dX11_oneOf_45 rfl ?_
      refine g_getR (r := 302) fl_11_13 kd_300 rfl dX11_oneOf_46 ?_
      refine g_aload_n dX11_oneOf_49 rfl ?_
      refine g_getI fl_11_107 kd_300 rfl dX11_oneOf_50 ?_
      refine g_iconst dX11_oneOf_53 1 rfl (by decide) ?_
      refine g_isub dX11_oneOf_54 ?_
      obtain ⟨hin, h⟩ := h
      refine g_bald kd_302 hin dX11_oneOf_55 ?_
      refine g_iload_n dX11_oneOf_56 rfl ?_
      refine g_isub dX11_oneOf_57 ?_
      exact g_iret hR dX11_oneOf_58 h
    · replace h := hB hc
      refine g_aload_n dX11_oneOf_25 rfl ?_
      refine g_aload_n dX11_oneOf_26 rfl ?_
      refine g_getI fl_11_107 kd_300 rfl dX11_oneOf_27 ?_
      refine g_cVv (st := []) (av := [vI (m5 300 7)]) (kX11_fault h) kd_300 rfl cw_RX11_121 (by decide) (by decide) (Nat.le_of_ble_eq_true rfl) rfl dX11_oneOf_30 (fun m8 h => ?_)
      refine g_iconst dX11_oneOf_33 0 rfl (by decide) ?_
      exact g_iret hR dX11_oneOf_34 h
  · replace h := hB hc
    refine g_iconst dX11_oneOf_7 0 rfl (by decide) ?_
    exact g_iret hR dX11_oneOf_8 h
def wX11_digits_4 (K4 : (Int × Int × Int) → Mem → Prop) (Q : Int → Mem → Prop) (l1 : Int) (l2 : Int) (l3 : Int) (σ : Mem) : Prop := ((l1 ≤ l3 → Q l2 σ) ∧ (¬ l1 ≤ l3 → (wX11_oneOf 48 10 σ (fun y2 m1 => (∀ x3 : Int, x3 = w32 ((w32 (10 * l2)) + y2) → (∀ x4 : Int, x4 = w32 (l3 + 1) → K4 (l1, x3, x4) m1))))))
def wLX11_digits_4 (Q : Int → Mem → Prop) (l1 : Int) (l2 : Int) (l3 : Int) (σ : Mem) : Prop := ∃ n, lp (fun (K4 : (Int × Int × Int) → Mem → Prop) (x : Int × Int × Int) (σ : Mem) => wX11_digits_4 K4 Q x.1 x.2.1 x.2.2 σ) n (l1, l2, l3) σ
def wX11_digits (l1 : Int) (σ : Mem) (Q : Int → Mem → Prop) : Prop := wLX11_digits_4 Q l1 0 0 σ
set_option maxHeartbeats 1000000 in
theorem bX11_digits_4 {E : TE} {K4 : (Int × Int × Int) → Mem → Prop} (hK4 : ∀ (x : Int × Int × Int) (σ : Mem), K4 x σ → GW E cX11_digits 4 RX11 3 63 σ 4 [(0, vR 300), (1, vI x.1), (2, vI x.2.1), (3, vI x.2.2)] []) {Q : Int → Mem → Prop} (hR : RI E (some .int) Q) {l1 : Int} {l2 : Int} {l3 : Int} {σ : Mem} (h : wX11_digits_4 K4 Q l1 l2 l3 σ) : GW E cX11_digits 4 RX11 3 63 σ 4 [(0, vR 300), (1, vI l1), (2, vI l2), (3, vI l3)] [] := by
  unfold wX11_digits_4 at h
  refine g_iload_n dX11_digits_4 rfl ?_
  refine g_iload_n dX11_digits_5 rfl ?_
  obtain ⟨hA, hB⟩ := h
  refine g_icmp_ge (tgt := 29) dX11_digits_6 (by decide) (fun hc => ?_) (fun hc => ?_)
  · replace h := hA hc
    refine g_iload_n dX11_digits_29 rfl ?_
    exact g_iret hR dX11_digits_30 h
  · replace h := hB hc
    refine g_bipush dX11_digits_9 10 rfl (by decide) ?_
    refine g_iload_n dX11_digits_11 rfl ?_
    refine g_imul dX11_digits_12 ?_
    refine g_aload_n dX11_digits_13 rfl ?_
    refine g_bipush dX11_digits_14 48 rfl (by decide) ?_
    refine g_bipush dX11_digits_16 10 rfl (by decide) ?_
    refine g_cVi (st := [vI (w32 (10 * l2))]) (av := [vI 48, vI 10]) (kX11_oneOf h) kd_300 rfl cw_RX11_125 (by decide) (by decide) (Nat.le_of_ble_eq_true rfl) rfl dX11_digits_18 (fun y2 m1 h => ?_)
    refine g_iadd dX11_digits_21 ?_
    refine g_topI (fun x3 ex3 => ?_)
    replace h := h x3 ex3
    refine g_istore_n (lv' := [(2, vI x3), (0, vR 300), (1, vI l1), (3, vI l3)]) dX11_digits_22 (by decide) rfl ?_
    refine g_iinc (lv' := [(3, vI (w32 (l3 + 1))), (2, vI x3), (0, vR 300), (1, vI l1)]) dX11_digits_23 rfl (by decide) rfl ?_
    refine g_loc (a := w32 (l3 + 1)) (i := 3) (lv := [(2, vI x3), (0, vR 300), (1, vI l1)]) (fun x4 ex4 => ?_)
    replace h := h x4 ex4
    refine g_goto (tgt := 4) dX11_digits_26 (by decide) ?_
    refine g_lv (lv' := [(0, vR 300), (1, vI l1), (2, vI x3), (3, vI x4)]) [2, 3, 1, 0] rfl ?_
    exact hK4 ((l1, x3, x4)) m1 h
theorem eX11_digits_4 {E : TE} {Q : Int → Mem → Prop} (hR : RI E (some .int) Q) {l1 : Int} {l2 : Int} {l3 : Int} {σ : Mem} (h : wLX11_digits_4 Q l1 l2 l3 σ) : GW E cX11_digits 4 RX11 3 63 σ 4 [(0, vR 300), (1, vI l1), (2, vI l2), (3, vI l3)] [] := by
  obtain ⟨n, h⟩ := h
  exact lp_GW (P := fun (x : Int × Int × Int) (σ : Mem) => GW E cX11_digits 4 RX11 3 63 σ 4 [(0, vR 300), (1, vI x.1), (2, vI x.2.1), (3, vI x.2.2)] []) (fun K hK x σ h  => bX11_digits_4 hK hR h) n _ σ h 
set_option maxHeartbeats 1000000 in
theorem kX11_digits {l1 : Int} {σ : Mem} {Q : Int → Mem → Prop} (h : wX11_digits l1 σ Q) (l : Launch) (D : va_G) (cy : Nat → ClassId) (ad : Nat → Nat) : MI l yX11_digits cX11_digits 4 (some .int) 3 63 D cy ad [vR 300, vI l1] σ Q := by
  refine m_I (own := RX11) (lv := [(0, vR 300), (1, vI l1)]) (by decide +kernel) rfl (Nat.le_of_ble_eq_true rfl) rfl (fun E hR => ?_) l D cy ad
  unfold wX11_digits at h
  refine g_iconst dX11_digits_0 0 rfl (by decide) ?_
  refine g_istore_n (lv' := [(2, vI 0), (0, vR 300), (1, vI l1)]) dX11_digits_1 (by decide) rfl ?_
  refine g_iconst dX11_digits_2 0 rfl (by decide) ?_
  refine g_istore_n (lv' := [(3, vI 0), (2, vI 0), (0, vR 300), (1, vI l1)]) dX11_digits_3 (by decide) rfl ?_
  refine g_lv (lv' := [(0, vR 300), (1, vI l1), (2, vI 0), (3, vI 0)]) [2, 3, 1, 0] rfl ?_
  exact eX11_digits_4 hR h
def wX11_wasRight_19 (Q : Int → Mem → Prop) (σ : Mem) : Prop := (wX11_fine  σ (fun y2 m1 => ((y2 = 0 ∨ y2 = 1) ∧ Q y2 m1)))
def wX11_wasRight (σ : Mem) (Q : Int → Mem → Prop) : Prop := ((σ 300 6 ≤ σ 300 7 → wX11_wasRight_19 Q σ) ∧ (¬ σ 300 6 ≤ σ 300 7 → (wX11_fault (σ 300 7) σ (fun m1 => wX11_wasRight_19 Q m1))))
set_option maxHeartbeats 1000000 in
theorem bX11_wasRight_19 {E : TE} {Q : Int → Mem → Prop} (hR : RI E (some .boolean) Q) {σ : Mem} (h : wX11_wasRight_19 Q σ) : GW E cX11_wasRight 1 RX11 2 41 σ 19 [(0, vR 300)] [] := by
  unfold wX11_wasRight_19 at h
  refine g_aload_n dX11_wasRight_19 rfl ?_
  refine g_cVi (st := []) (av := []) (kX11_fine h) kd_300 rfl cw_RX11_113 (by decide) (by decide) (Nat.le_of_ble_eq_true rfl) rfl dX11_wasRight_20 (fun y2 m1 h => ?_)
  exact g_zret hR dX11_wasRight_23 h.1 h.2
set_option maxHeartbeats 1000000 in
theorem kX11_wasRight {σ : Mem} {Q : Int → Mem → Prop} (h : wX11_wasRight σ Q) (l : Launch) (D : va_G) (cy : Nat → ClassId) (ad : Nat → Nat) : MI l yX11_wasRight cX11_wasRight 1 (some .boolean) 2 41 D cy ad [vR 300] σ Q := by
  refine m_I (own := RX11) (lv := [(0, vR 300)]) (by decide +kernel) rfl (Nat.le_of_ble_eq_true rfl) rfl (fun E hR => ?_) l D cy ad
  unfold wX11_wasRight at h
  refine g_aload_n dX11_wasRight_0 rfl ?_
  refine g_getI fl_11_107 kd_300 rfl dX11_wasRight_1 ?_
  refine g_aload_n dX11_wasRight_4 rfl ?_
  refine g_getI fl_11_104 kd_300 rfl dX11_wasRight_5 ?_
  obtain ⟨hA, hB⟩ := h
  refine g_icmp_ge (tgt := 19) dX11_wasRight_8 (by decide) (fun hc => ?_) (fun hc => ?_)
  · replace h := hA hc
    exact bX11_wasRight_19 hR h
  · replace h := hB hc
    refine g_aload_n dX11_wasRight_11 rfl ?_
    refine g_aload_n dX11_wasRight_12 rfl ?_
    refine g_getI fl_11_107 kd_300 rfl dX11_wasRight_13 ?_
    refine g_cVv (st := []) (av := [vI (σ 300 7)]) (kX11_fault h) kd_300 rfl cw_RX11_121 (by decide) (by decide) (Nat.le_of_ble_eq_true rfl) rfl dX11_wasRight_16 (fun m1 h => ?_)
    exact bX11_wasRight_19 hR h
def wX11_lay_2 (K2 : Int → Mem → Prop) (Q : Mem → Prop) (l1 : Int) (σ : Mem) : Prop := ((405 ≤ l1 → Q σ) ∧ (¬ 405 ≤ l1 → ((0 ≤ l1 ∧ l1 < 405) ∧ ((0 ≤ l1 ∧ l1 < 405) ∧ (∀ m1 : Mem, m1 = up2 σ 328 l1.toNat (σ 301 l1.toNat) → (∀ x2 : Int, x2 = w32 (l1 + 1) → K2 x2 m1))))))
def wLX11_lay_2 (Q : Mem → Prop) (l1 : Int) (σ : Mem) : Prop := ∃ n, lp (fun (K2 : Int → Mem → Prop) (x : Int) (σ : Mem) => wX11_lay_2 K2 Q x σ) n l1 σ
def wX11_lay (σ : Mem) (Q : Mem → Prop) : Prop := wLX11_lay_2 Q 0 σ
set_option maxHeartbeats 1000000 in
theorem bX11_lay_2 {E : TE} {K2 : Int → Mem → Prop} (hK2 : ∀ (x : Int) (σ : Mem), K2 x σ → GW E cX11_lay 2 RX11 0 0 σ 2 [(0, vR 300), (1, vI x)] []) {Q : Mem → Prop} (hR : RV E none Q) {l1 : Int} {σ : Mem} (h : wX11_lay_2 K2 Q l1 σ) : GW E cX11_lay 2 RX11 0 0 σ 2 [(0, vR 300), (1, vI l1)] [] := by
  unfold wX11_lay_2 at h
  refine g_iload_n dX11_lay_2 rfl ?_
  refine g_sipush dX11_lay_3 405 rfl (by decide) ?_
  obtain ⟨hA, hB⟩ := h
  refine g_icmp_ge (tgt := 27) dX11_lay_6 (by decide) (fun hc => ?_) (fun hc => ?_)
  · replace h := hA hc
    exact g_vret hR dX11_lay_27 h
  · replace h := hB hc
    refine g_aload_n dX11_lay_9 rfl ?_
    refine g_getR (r := 328) fl_11_58 kd_300 rfl dX11_lay_10 ?_
    refine g_iload_n dX11_lay_13 rfl ?_
    refine g_aload_n dX11_lay_14 rfl ?_
    refine g_getR (r := 301) fl_11_9 kd_300 rfl dX11_lay_15 ?_
    refine g_iload_n dX11_lay_18 rfl ?_
    obtain ⟨hin, h⟩ := h
    refine g_iald kd_301 hin dX11_lay_19 ?_
    obtain ⟨hin, h⟩ := h
    refine g_iast kd_328 hin dX11_lay_20 ?_
    refine g_nm (fun m1 em1 => ?_)
    replace h := h m1 em1
    refine g_iinc (lv' := [(1, vI (w32 (l1 + 1))), (0, vR 300)]) dX11_lay_21 rfl (by decide) rfl ?_
    refine g_loc (a := w32 (l1 + 1)) (i := 1) (lv := [(0, vR 300)]) (fun x2 ex2 => ?_)
    replace h := h x2 ex2
    refine g_goto (tgt := 2) dX11_lay_24 (by decide) ?_
    refine g_lv (lv' := [(0, vR 300), (1, vI x2)]) [1, 0] rfl ?_
    exact hK2 x2 m1 h
theorem eX11_lay_2 {E : TE} {Q : Mem → Prop} (hR : RV E none Q) {l1 : Int} {σ : Mem} (h : wLX11_lay_2 Q l1 σ) : GW E cX11_lay 2 RX11 0 0 σ 2 [(0, vR 300), (1, vI l1)] [] := by
  obtain ⟨n, h⟩ := h
  exact lp_GW (P := fun (x : Int) (σ : Mem) => GW E cX11_lay 2 RX11 0 0 σ 2 [(0, vR 300), (1, vI x)] []) (fun K hK x σ h  => bX11_lay_2 hK hR h) n _ σ h 
set_option maxHeartbeats 1000000 in
theorem kX11_lay {σ : Mem} {Q : Mem → Prop} (h : wX11_lay σ Q) (l : Launch) (D : va_G) (cy : Nat → ClassId) (ad : Nat → Nat) : MV l yX11_lay cX11_lay 2 none 0 0 D cy ad [vR 300] σ Q := by
  refine m_V (own := RX11) (lv := [(0, vR 300)]) (by decide +kernel) rfl (Nat.le_of_ble_eq_true rfl) rfl (fun E hR => ?_) l D cy ad
  unfold wX11_lay at h
  refine g_iconst dX11_lay_0 0 rfl (by decide) ?_
  refine g_istore_n (lv' := [(1, vI 0), (0, vR 300)]) dX11_lay_1 (by decide) rfl ?_
  refine g_lv (lv' := [(0, vR 300), (1, vI 0)]) [1, 0] rfl ?_
  exact eX11_lay_2 hR h
def wX11_note_52 (K52 : Int → Mem → Prop) (Q : Mem → Prop) (l1 : Int) (σ : Mem) : Prop := ((405 ≤ l1 → (∀ m1 : Mem, m1 = up2 σ 300 28 (w32 ((σ 300 28) + 1)) → Q m1)) ∧ (¬ 405 ≤ l1 → ((0 ≤ l1 ∧ l1 < 405) ∧ ((0 ≤ w32 ((w32 (405 * (σ 300 28))) + l1) ∧ w32 ((w32 (405 * (σ 300 28))) + l1) < 3240) ∧ (∀ m2 : Mem, m2 = up2 σ 327 (w32 ((w32 (405 * (σ 300 28))) + l1)).toNat (σ 328 l1.toNat) → (∀ x3 : Int, x3 = w32 (l1 + 1) → K52 x3 m2))))))
def wLX11_note_52 (Q : Mem → Prop) (l1 : Int) (σ : Mem) : Prop := ∃ n, lp (fun (K52 : Int → Mem → Prop) (x : Int) (σ : Mem) => wX11_note_52 K52 Q x σ) n l1 σ
def wX11_note_50 (Q : Mem → Prop) (σ : Mem) : Prop := wLX11_note_52 Q 0 σ
def wX11_note_11 (K11 : Int → Mem → Prop) (Q : Mem → Prop) (l1 : Int) (σ : Mem) : Prop := ((2835 ≤ l1 → (∀ m1 : Mem, m1 = up2 σ 300 28 (w32 ((σ 300 28) - 1)) → wX11_note_50 Q m1)) ∧ (¬ 2835 ≤ l1 → ((0 ≤ w32 (l1 + 405) ∧ w32 (l1 + 405) < 3240) ∧ ((0 ≤ l1 ∧ l1 < 3240) ∧ (∀ m2 : Mem, m2 = up2 σ 327 l1.toNat (σ 327 (w32 (l1 + 405)).toNat) → (∀ x3 : Int, x3 = w32 (l1 + 1) → K11 x3 m2))))))
def wLX11_note_11 (Q : Mem → Prop) (l1 : Int) (σ : Mem) : Prop := ∃ n, lp (fun (K11 : Int → Mem → Prop) (x : Int) (σ : Mem) => wX11_note_11 K11 Q x σ) n l1 σ
def wX11_note (σ : Mem) (Q : Mem → Prop) : Prop := ((¬ σ 300 28 = 8 → wX11_note_50 Q σ) ∧ (σ 300 28 = 8 → wLX11_note_11 Q 0 σ))
set_option maxHeartbeats 1000000 in
theorem bX11_note_52 {E : TE} {K52 : Int → Mem → Prop} (hK52 : ∀ (x : Int) (σ : Mem), K52 x σ → GW E cX11_note 2 RX11 0 0 σ 52 [(0, vR 300), (1, vI x)] []) {Q : Mem → Prop} (hR : RV E none Q) {l1 : Int} {σ : Mem} (h : wX11_note_52 K52 Q l1 σ) : GW E cX11_note 2 RX11 0 0 σ 52 [(0, vR 300), (1, vI l1)] [] := by
  unfold wX11_note_52 at h
  refine g_iload_n dX11_note_52 rfl ?_
  refine g_sipush dX11_note_53 405 rfl (by decide) ?_
  obtain ⟨hA, hB⟩ := h
  refine g_icmp_ge (tgt := 86) dX11_note_56 (by decide) (fun hc => ?_) (fun hc => ?_)
  · replace h := hA hc
    refine g_aload_n dX11_note_86 rfl ?_
    refine g_dup dX11_note_87 rfl ?_
    refine g_getI fl_11_320 kd_300 rfl dX11_note_88 ?_
    refine g_iconst dX11_note_91 1 rfl (by decide) ?_
    refine g_iadd dX11_note_92 ?_
    refine g_putI fp_11_320 kd_300 rfl dX11_note_93 ?_
    refine g_nm (fun m1 em1 => ?_)
    replace h := h m1 em1
    exact g_vret hR dX11_note_96 h
  · replace h := hB hc
    refine g_aload_n dX11_note_59 rfl ?_
    refine g_getR (r := 327) fl_11_55 kd_300 rfl dX11_note_60 ?_
    refine g_sipush dX11_note_63 405 rfl (by decide) ?_
    refine g_aload_n dX11_note_66 rfl ?_
    refine g_getI fl_11_320 kd_300 rfl dX11_note_67 ?_
    refine g_imul dX11_note_70 ?_
    refine g_iload_n dX11_note_71 rfl ?_
    refine g_iadd dX11_note_72 ?_
    refine g_aload_n dX11_note_73 rfl ?_
    refine g_getR (r := 328) fl_11_58 kd_300 rfl dX11_note_74 ?_
    refine g_iload_n dX11_note_77 rfl ?_
    obtain ⟨hin, h⟩ := h
    refine g_iald kd_328 hin dX11_note_78 ?_
    obtain ⟨hin, h⟩ := h
    refine g_iast kd_327 hin dX11_note_79 ?_
    refine g_nm (fun m2 em2 => ?_)
    replace h := h m2 em2
    refine g_iinc (lv' := [(1, vI (w32 (l1 + 1))), (0, vR 300)]) dX11_note_80 rfl (by decide) rfl ?_
    refine g_loc (a := w32 (l1 + 1)) (i := 1) (lv := [(0, vR 300)]) (fun x3 ex3 => ?_)
    replace h := h x3 ex3
    refine g_goto (tgt := 52) dX11_note_83 (by decide) ?_
    refine g_lv (lv' := [(0, vR 300), (1, vI x3)]) [1, 0] rfl ?_
    exact hK52 x3 m2 h
theorem eX11_note_52 {E : TE} {Q : Mem → Prop} (hR : RV E none Q) {l1 : Int} {σ : Mem} (h : wLX11_note_52 Q l1 σ) : GW E cX11_note 2 RX11 0 0 σ 52 [(0, vR 300), (1, vI l1)] [] := by
  obtain ⟨n, h⟩ := h
  exact lp_GW (P := fun (x : Int) (σ : Mem) => GW E cX11_note 2 RX11 0 0 σ 52 [(0, vR 300), (1, vI x)] []) (fun K hK x σ h  => bX11_note_52 hK hR h) n _ σ h 
set_option maxHeartbeats 1000000 in
theorem bX11_note_50 {E : TE} {Q : Mem → Prop} (hR : RV E none Q) {σ : Mem} (h : wX11_note_50 Q σ) : GW E cX11_note 2 RX11 0 0 σ 50 [(0, vR 300)] [] := by
  unfold wX11_note_50 at h
  refine g_iconst dX11_note_50 0 rfl (by decide) ?_
  refine g_istore_n (lv' := [(1, vI 0), (0, vR 300)]) dX11_note_51 (by decide) rfl ?_
  refine g_lv (lv' := [(0, vR 300), (1, vI 0)]) [1, 0] rfl ?_
  exact eX11_note_52 hR h
set_option maxHeartbeats 1000000 in
theorem bX11_note_11 {E : TE} {K11 : Int → Mem → Prop} (hK11 : ∀ (x : Int) (σ : Mem), K11 x σ → GW E cX11_note 2 RX11 0 0 σ 11 [(0, vR 300), (1, vI x)] []) {Q : Mem → Prop} (hR : RV E none Q) {l1 : Int} {σ : Mem} (h : wX11_note_11 K11 Q l1 σ) : GW E cX11_note 2 RX11 0 0 σ 11 [(0, vR 300), (1, vI l1)] [] := by
  unfold wX11_note_11 at h
  refine g_iload_n dX11_note_11 rfl ?_
  refine g_sipush dX11_note_12 2835 rfl (by decide) ?_
  obtain ⟨hA, hB⟩ := h
  refine g_icmp_ge (tgt := 40) dX11_note_15 (by decide) (fun hc => ?_) (fun hc => ?_)
  · replace h := hA hc
    refine g_aload_n dX11_note_40 rfl ?_
    refine g_dup dX11_note_41 rfl ?_
    refine g_getI fl_11_320 kd_300 rfl dX11_note_42 ?_
    refine g_iconst dX11_note_45 1 rfl (by decide) ?_
    refine g_isub dX11_note_46 ?_
    refine g_putI fp_11_320 kd_300 rfl dX11_note_47 ?_
    refine g_nm (fun m1 em1 => ?_)
    replace h := h m1 em1
    refine g_lv (lv' := [(0, vR 300)]) [0] rfl ?_
    exact bX11_note_50 hR h
  · replace h := hB hc
    refine g_aload_n dX11_note_18 rfl ?_
    refine g_getR (r := 327) fl_11_55 kd_300 rfl dX11_note_19 ?_
    refine g_iload_n dX11_note_22 rfl ?_
    refine g_aload_n dX11_note_23 rfl ?_
    refine g_getR (r := 327) fl_11_55 kd_300 rfl dX11_note_24 ?_
    refine g_iload_n dX11_note_27 rfl ?_
    refine g_sipush dX11_note_28 405 rfl (by decide) ?_
    refine g_iadd dX11_note_31 ?_
    obtain ⟨hin, h⟩ := h
    refine g_iald kd_327 hin dX11_note_32 ?_
    obtain ⟨hin, h⟩ := h
    refine g_iast kd_327 hin dX11_note_33 ?_
    refine g_nm (fun m2 em2 => ?_)
    replace h := h m2 em2
    refine g_iinc (lv' := [(1, vI (w32 (l1 + 1))), (0, vR 300)]) dX11_note_34 rfl (by decide) rfl ?_
    refine g_loc (a := w32 (l1 + 1)) (i := 1) (lv := [(0, vR 300)]) (fun x3 ex3 => ?_)
    replace h := h x3 ex3
    refine g_goto (tgt := 11) dX11_note_37 (by decide) ?_
    refine g_lv (lv' := [(0, vR 300), (1, vI x3)]) [1, 0] rfl ?_
    exact hK11 x3 m2 h
theorem eX11_note_11 {E : TE} {Q : Mem → Prop} (hR : RV E none Q) {l1 : Int} {σ : Mem} (h : wLX11_note_11 Q l1 σ) : GW E cX11_note 2 RX11 0 0 σ 11 [(0, vR 300), (1, vI l1)] [] := by
  obtain ⟨n, h⟩ := h
  exact lp_GW (P := fun (x : Int) (σ : Mem) => GW E cX11_note 2 RX11 0 0 σ 11 [(0, vR 300), (1, vI x)] []) (fun K hK x σ h  => bX11_note_11 hK hR h) n _ σ h 
set_option maxHeartbeats 1000000 in
theorem kX11_note {σ : Mem} {Q : Mem → Prop} (h : wX11_note σ Q) (l : Launch) (D : va_G) (cy : Nat → ClassId) (ad : Nat → Nat) : MV l yX11_note cX11_note 2 none 0 0 D cy ad [vR 300] σ Q := by
  refine m_V (own := RX11) (lv := [(0, vR 300)]) (by decide +kernel) rfl (Nat.le_of_ble_eq_true rfl) rfl (fun E hR => ?_) l D cy ad
  unfold wX11_note at h
  refine g_aload_n dX11_note_0 rfl ?_
  refine g_getI fl_11_320 kd_300 rfl dX11_note_1 ?_
  refine g_bipush dX11_note_4 8 rfl (by decide) ?_
  obtain ⟨hA, hB⟩ := h
  refine g_icmp_ne (tgt := 50) dX11_note_6 (by decide) (fun hc => ?_) (fun hc => ?_)
  · replace h := hA hc
    exact bX11_note_50 hR h
  · replace h := hB hc
    refine g_iconst dX11_note_9 0 rfl (by decide) ?_
    refine g_istore_n (lv' := [(1, vI 0), (0, vR 300)]) dX11_note_10 (by decide) rfl ?_
    refine g_lv (lv' := [(0, vR 300), (1, vI 0)]) [1, 0] rfl ?_
    exact eX11_note_11 hR h
def wX11_change (σ : Mem) (Q : Mem → Prop) : Prop := (wX11_lay  σ (fun m1 => (wX11_note  m1 (fun m2 => Q m2))))
set_option maxHeartbeats 1000000 in
theorem kX11_change {σ : Mem} {Q : Mem → Prop} (h : wX11_change σ Q) (l : Launch) (D : va_G) (cy : Nat → ClassId) (ad : Nat → Nat) : MV l yX11_change cX11_change 1 none 1 21 D cy ad [vR 300] σ Q := by
  refine m_V (own := RX11) (lv := [(0, vR 300)]) (by decide +kernel) rfl (Nat.le_of_ble_eq_true rfl) rfl (fun E hR => ?_) l D cy ad
  unfold wX11_change at h
  refine g_aload_n dX11_change_0 rfl ?_
  refine g_cVv (st := []) (av := []) (kX11_lay h) kd_300 rfl cw_RX11_262 (by decide) (by decide) (Nat.le_of_ble_eq_true rfl) rfl dX11_change_1 (fun m1 h => ?_)
  refine g_aload_n dX11_change_4 rfl ?_
  refine g_cVv (st := []) (av := []) (kX11_note h) kd_300 rfl cw_RX11_268 (by decide) (by decide) (Nat.le_of_ble_eq_true rfl) rfl dX11_change_5 (fun m2 h => ?_)
  exact g_vret hR dX11_change_8 h
def wX11_club_119 (K46 : (Int × Int) → Mem → Prop) (Q : Int → Mem → Prop) (l1 : Int) (l2 : Int) (l3 : Int) (l4 : Int) (σ : Mem) : Prop := (wX11_digits 3 σ (fun y2 m1 => (wX11_fine  m1 (fun y4 m3 => ((¬ y4 = 0 → (wX11_pair l3 l4 m3 (fun y6 m5 => ((0 ≤ y6 ∧ y6 < 64) ∧ (∀ m7 : Mem, m7 = up2 m5 311 y6.toNat y2 → (∀ x8 : Int, x8 = w32 (l2 + 1) → K46 (l1, x8) m7)))))) ∧ (y4 = 0 → K46 (l1, l2) m3))))))
def wX11_club_109 (K46 : (Int × Int) → Mem → Prop) (Q : Int → Mem → Prop) (l1 : Int) (l2 : Int) (l3 : Int) (l4 : Int) (σ : Mem) : Prop := (wX11_fault (w32 ((σ 300 7) - 1)) σ (fun m1 => wX11_club_119 K46 Q l1 l2 l3 l4 m1))
def wX11_club_204 (K204 : (Int × Int) → Mem → Prop) (Q : Int → Mem → Prop) (l2 : Int) (l3 : Int) (σ : Mem) : Prop := ((64 ≤ l3 → Q l2 σ) ∧ (¬ 64 ≤ l3 → ((0 ≤ l3 ∧ l3 < 64) ∧ ((0 ≤ w32 (1 + l3) ∧ w32 (1 + l3) < 405) ∧ (∀ m1 : Mem, m1 = up2 σ 301 (w32 (1 + l3)).toNat (max 0 (σ 311 l3.toNat)) → (∀ x2 : Int, x2 = w32 (l3 + 1) → K204 (l2, x2) m1))))))
def wLX11_club_204 (Q : Int → Mem → Prop) (l2 : Int) (l3 : Int) (σ : Mem) : Prop := ∃ n, lp (fun (K204 : (Int × Int) → Mem → Prop) (x : Int × Int) (σ : Mem) => wX11_club_204 K204 Q x.1 x.2 σ) n (l2, l3) σ
def wX11_club_175 (K175 : (Int × Int × Int) → Mem → Prop) (Q : Int → Mem → Prop) (l1 : Int) (l2 : Int) (l3 : Int) (σ : Mem) : Prop := ((405 ≤ l3 → (∀ m1 : Mem, m1 = up2 σ 301 0 l1 → wLX11_club_204 Q l2 0 m1)) ∧ (¬ 405 ≤ l3 → ((0 ≤ l3 ∧ l3 < 405) ∧ (∀ m2 : Mem, m2 = up2 σ 301 l3.toNat 0 → (∀ x3 : Int, x3 = w32 (l3 + 1) → K175 (l1, l2, x3) m2)))))
def wLX11_club_175 (Q : Int → Mem → Prop) (l1 : Int) (l2 : Int) (l3 : Int) (σ : Mem) : Prop := ∃ n, lp (fun (K175 : (Int × Int × Int) → Mem → Prop) (x : Int × Int × Int) (σ : Mem) => wX11_club_175 K175 Q x.1 x.2.1 x.2.2 σ) n (l1, l2, l3) σ
def wX11_club_155 (Q : Int → Mem → Prop) (l1 : Int) (l2 : Int) (σ : Mem) : Prop := (wX11_wasRight  σ (fun y2 m1 => ((¬ y2 = 0 → (wX11_change  m1 (fun m3 => wLX11_club_175 Q l1 l2 0 m3))) ∧ (y2 = 0 → Q (w32 (((-1)) - (m1 300 8))) m1))))
def wX11_club_46 (K46 : (Int × Int) → Mem → Prop) (Q : Int → Mem → Prop) (l1 : Int) (l2 : Int) (σ : Mem) : Prop := (wX11_fine  σ (fun y2 m1 => ((y2 = 0 → wX11_club_155 Q l1 l2 m1) ∧ (¬ y2 = 0 → ((m1 300 6 ≤ m1 300 7 → wX11_club_155 Q l1 l2 m1) ∧ (¬ m1 300 6 ≤ m1 300 7 → (wX11_oneOf 97 l1 m1 (fun y4 m3 => (wX11_oneOf 97 l1 m3 (fun y6 m5 => (wX11_fine  m5 (fun y8 m7 => ((y8 = 0 → wX11_club_119 K46 Q l1 l2 y4 y6 m7) ∧ (¬ y8 = 0 → ((y4 = y6 → wX11_club_109 K46 Q l1 l2 y4 y6 m7) ∧ (¬ y4 = y6 → (wX11_pair y4 y6 m7 (fun y10 m9 => ((0 ≤ y10 ∧ y10 < 64) ∧ ((m9 311 y10.toNat = (-1) → wX11_club_119 K46 Q l1 l2 y4 y6 m9) ∧ (¬ m9 311 y10.toNat = (-1) → wX11_club_109 K46 Q l1 l2 y4 y6 m9)))))))))))))))))))))
def wLX11_club_46 (Q : Int → Mem → Prop) (l1 : Int) (l2 : Int) (σ : Mem) : Prop := ∃ n, lp (fun (K46 : (Int × Int) → Mem → Prop) (x : Int × Int) (σ : Mem) => wX11_club_46 K46 Q x.1 x.2 σ) n (l1, l2) σ
def wX11_club_11 (K11 : Int → Mem → Prop) (Q : Int → Mem → Prop) (l1 : Int) (σ : Mem) : Prop := ((64 ≤ l1 → (wX11_oneOf 50 7 σ (fun y2 m1 => (∀ x3 : Int, x3 = w32 (y2 + 2) → wLX11_club_46 Q x3 0 m1)))) ∧ (¬ 64 ≤ l1 → ((0 ≤ l1 ∧ l1 < 64) ∧ (∀ m4 : Mem, m4 = up2 σ 311 l1.toNat ((-1)) → (∀ x5 : Int, x5 = w32 (l1 + 1) → K11 x5 m4)))))
def wLX11_club_11 (Q : Int → Mem → Prop) (l1 : Int) (σ : Mem) : Prop := ∃ n, lp (fun (K11 : Int → Mem → Prop) (x : Int) (σ : Mem) => wX11_club_11 K11 Q x σ) n l1 σ
def wX11_club (σ : Mem) (Q : Int → Mem → Prop) : Prop := (∀ m1 : Mem, m1 = up2 σ 300 5 0 → (wX11_begin  m1 (fun m2 => wLX11_club_11 Q 0 m2)))
set_option maxHeartbeats 1000000 in
theorem bX11_club_119 {E : TE} {K46 : (Int × Int) → Mem → Prop} (hK46 : ∀ (x : Int × Int) (σ : Mem), K46 x σ → GW E cX11_club 6 RX11 4 86 σ 46 [(0, vR 300), (1, vI x.1), (2, vI x.2)] []) {Q : Int → Mem → Prop} (hR : RI E (some .int) Q) {l1 : Int} {l2 : Int} {l3 : Int} {l4 : Int} {σ : Mem} (h : wX11_club_119 K46 Q l1 l2 l3 l4 σ) : GW E cX11_club 6 RX11 4 86 σ 119 [(0, vR 300), (1, vI l1), (2, vI l2), (3, vI l3), (4, vI l4)] [] := by
  unfold wX11_club_119 at h
  refine g_aload_n dX11_club_119 rfl ?_
  refine g_iconst dX11_club_120 3 rfl (by decide) ?_
  refine g_cVi (st := []) (av := [vI 3]) (kX11_digits h) kd_300 rfl cw_RX11_132 (by decide) (by decide) (Nat.le_of_ble_eq_true rfl) rfl dX11_club_121 (fun y2 m1 h => ?_)
  refine g_istore (lv' := [(5, vI y2), (0, vR 300), (1, vI l1), (2, vI l2), (3, vI l3), (4, vI l4)]) dX11_club_124 (by decide) rfl ?_
  refine g_aload_n dX11_club_126 rfl ?_
  refine g_cVi (st := []) (av := []) (kX11_fine h) kd_300 rfl cw_RX11_113 (by decide) (by decide) (Nat.le_of_ble_eq_true rfl) rfl dX11_club_127 (fun y4 m3 h => ?_)
  obtain ⟨hA, hB⟩ := h
  refine g_if_ne (tgt := 136) dX11_club_130 (by decide) (fun hc => ?_) (fun hc => ?_)
  · replace h := hA hc
    refine g_aload_n dX11_club_136 rfl ?_
    refine g_getR (r := 311) fl_11_24 kd_300 rfl dX11_club_137 ?_
    refine g_iload_n dX11_club_140 rfl ?_
    refine g_iload dX11_club_141 rfl ?_
    refine g_cSi (st := [vR 311]) (av := [vI l3, vI l4]) (kX11_pair h) cw_RX11_82 (by decide) (by decide) (Nat.le_of_ble_eq_true rfl) rfl dX11_club_143 (fun y6 m5 h => ?_)
    refine g_iload dX11_club_146 rfl ?_
    obtain ⟨hin, h⟩ := h
    refine g_iast kd_311 hin dX11_club_148 ?_
    refine g_nm (fun m7 em7 => ?_)
    replace h := h m7 em7
    refine g_iinc (lv' := [(2, vI (w32 (l2 + 1))), (5, vI y2), (0, vR 300), (1, vI l1), (3, vI l3), (4, vI l4)]) dX11_club_149 rfl (by decide) rfl ?_
    refine g_loc (a := w32 (l2 + 1)) (i := 2) (lv := [(5, vI y2), (0, vR 300), (1, vI l1), (3, vI l3), (4, vI l4)]) (fun x8 ex8 => ?_)
    replace h := h x8 ex8
    refine g_goto (tgt := 46) dX11_club_152 (by decide) ?_
    refine g_lv (lv' := [(0, vR 300), (1, vI l1), (2, vI x8)]) [2, 3, 0] rfl ?_
    exact hK46 ((l1, x8)) m7 h
  · replace h := hB hc
    refine g_goto (tgt := 46) dX11_club_133 (by decide) ?_
    refine g_lv (lv' := [(0, vR 300), (1, vI l1), (2, vI l2)]) [1, 2, 3] rfl ?_
    exact hK46 ((l1, l2)) m3 h
set_option maxHeartbeats 1000000 in
theorem bX11_club_109 {E : TE} {K46 : (Int × Int) → Mem → Prop} (hK46 : ∀ (x : Int × Int) (σ : Mem), K46 x σ → GW E cX11_club 6 RX11 4 86 σ 46 [(0, vR 300), (1, vI x.1), (2, vI x.2)] []) {Q : Int → Mem → Prop} (hR : RI E (some .int) Q) {l1 : Int} {l2 : Int} {l3 : Int} {l4 : Int} {σ : Mem} (h : wX11_club_109 K46 Q l1 l2 l3 l4 σ) : GW E cX11_club 6 RX11 4 86 σ 109 [(0, vR 300), (1, vI l1), (2, vI l2), (3, vI l3), (4, vI l4)] [] := by
  unfold wX11_club_109 at h
  refine g_aload_n dX11_club_109 rfl ?_
  refine g_aload_n dX11_club_110 rfl ?_
  refine g_getI fl_11_107 kd_300 rfl dX11_club_111 ?_
  refine g_iconst dX11_club_114 1 rfl (by decide) ?_
  refine g_isub dX11_club_115 ?_
  refine g_cVv (st := []) (av := [vI (w32 ((σ 300 7) - 1))]) (kX11_fault h) kd_300 rfl cw_RX11_121 (by decide) (by decide) (Nat.le_of_ble_eq_true rfl) rfl dX11_club_116 (fun m1 h => ?_)
  exact bX11_club_119 hK46 hR h
set_option maxHeartbeats 1000000 in
theorem bX11_club_204 {E : TE} {K204 : (Int × Int) → Mem → Prop} (hK204 : ∀ (x : Int × Int) (σ : Mem), K204 x σ → GW E cX11_club 6 RX11 4 86 σ 204 [(0, vR 300), (2, vI x.1), (3, vI x.2)] []) {Q : Int → Mem → Prop} (hR : RI E (some .int) Q) {l2 : Int} {l3 : Int} {σ : Mem} (h : wX11_club_204 K204 Q l2 l3 σ) : GW E cX11_club 6 RX11 4 86 σ 204 [(0, vR 300), (2, vI l2), (3, vI l3)] [] := by
  unfold wX11_club_204 at h
  refine g_iload_n dX11_club_204 rfl ?_
  refine g_aload_n dX11_club_205 rfl ?_
  refine g_getR (r := 311) fl_11_24 kd_300 rfl dX11_club_206 ?_
  refine g_alen (a := 64) kd_311 rfl (by decide) dX11_club_209 ?_
  obtain ⟨hA, hB⟩ := h
  refine g_icmp_ge (tgt := 237) dX11_club_210 (by decide) (fun hc => ?_) (fun hc => ?_)
  · replace h := hA hc
    refine g_iload_n dX11_club_237 rfl ?_
    exact g_iret hR dX11_club_238 h
  · replace h := hB hc
    refine g_aload_n dX11_club_213 rfl ?_
    refine g_getR (r := 301) fl_11_9 kd_300 rfl dX11_club_214 ?_
    refine g_iconst dX11_club_217 1 rfl (by decide) ?_
    refine g_iload_n dX11_club_218 rfl ?_
    refine g_iadd dX11_club_219 ?_
    refine g_iconst dX11_club_220 0 rfl (by decide) ?_
    refine g_aload_n dX11_club_221 rfl ?_
    refine g_getR (r := 311) fl_11_24 kd_300 rfl dX11_club_222 ?_
    refine g_iload_n dX11_club_225 rfl ?_
    obtain ⟨hin, h⟩ := h
    refine g_iald kd_311 hin dX11_club_226 ?_
    refine g_mmax q_1262 q_519 q_107 q_mmax (by decide) (Nat.le_of_ble_eq_true rfl) dX11_club_227 ?_
    obtain ⟨hin, h⟩ := h
    refine g_iast kd_301 hin dX11_club_230 ?_
    refine g_nm (fun m1 em1 => ?_)
    replace h := h m1 em1
    refine g_iinc (lv' := [(3, vI (w32 (l3 + 1))), (0, vR 300), (2, vI l2)]) dX11_club_231 rfl (by decide) rfl ?_
    refine g_loc (a := w32 (l3 + 1)) (i := 3) (lv := [(0, vR 300), (2, vI l2)]) (fun x2 ex2 => ?_)
    replace h := h x2 ex2
    refine g_goto (tgt := 204) dX11_club_234 (by decide) ?_
    refine g_lv (lv' := [(0, vR 300), (2, vI l2), (3, vI x2)]) [1, 2, 0] rfl ?_
    exact hK204 ((l2, x2)) m1 h
theorem eX11_club_204 {E : TE} {Q : Int → Mem → Prop} (hR : RI E (some .int) Q) {l2 : Int} {l3 : Int} {σ : Mem} (h : wLX11_club_204 Q l2 l3 σ) : GW E cX11_club 6 RX11 4 86 σ 204 [(0, vR 300), (2, vI l2), (3, vI l3)] [] := by
  obtain ⟨n, h⟩ := h
  exact lp_GW (P := fun (x : Int × Int) (σ : Mem) => GW E cX11_club 6 RX11 4 86 σ 204 [(0, vR 300), (2, vI x.1), (3, vI x.2)] []) (fun K hK x σ h  => bX11_club_204 hK hR h) n _ σ h 
set_option maxHeartbeats 1000000 in
theorem bX11_club_175 {E : TE} {K175 : (Int × Int × Int) → Mem → Prop} (hK175 : ∀ (x : Int × Int × Int) (σ : Mem), K175 x σ → GW E cX11_club 6 RX11 4 86 σ 175 [(0, vR 300), (1, vI x.1), (2, vI x.2.1), (3, vI x.2.2)] []) {Q : Int → Mem → Prop} (hR : RI E (some .int) Q) {l1 : Int} {l2 : Int} {l3 : Int} {σ : Mem} (h : wX11_club_175 K175 Q l1 l2 l3 σ) : GW E cX11_club 6 RX11 4 86 σ 175 [(0, vR 300), (1, vI l1), (2, vI l2), (3, vI l3)] [] := by
  unfold wX11_club_175 at h
  refine g_iload_n dX11_club_175 rfl ?_
  refine g_sipush dX11_club_176 405 rfl (by decide) ?_
  obtain ⟨hA, hB⟩ := h
  refine g_icmp_ge (tgt := 195) dX11_club_179 (by decide) (fun hc => ?_) (fun hc => ?_)
  · replace h := hA hc
    refine g_aload_n dX11_club_195 rfl ?_
    refine g_getR (r := 301) fl_11_9 kd_300 rfl dX11_club_196 ?_
    refine g_iconst dX11_club_199 0 rfl (by decide) ?_
    refine g_iload_n dX11_club_200 rfl ?_
    refine g_iast kd_301 (by decide) dX11_club_201 ?_
    refine g_nm (fun m1 em1 => ?_)
    replace h := h m1 em1
    refine g_iconst dX11_club_202 0 rfl (by decide) ?_
    refine g_istore_n (lv' := [(3, vI 0), (0, vR 300), (1, vI l1), (2, vI l2)]) dX11_club_203 (by decide) rfl ?_
    refine g_lv (lv' := [(0, vR 300), (2, vI l2), (3, vI 0)]) [1, 3, 0] rfl ?_
    exact eX11_club_204 hR h
  · replace h := hB hc
    refine g_aload_n dX11_club_182 rfl ?_
    refine g_getR (r := 301) fl_11_9 kd_300 rfl dX11_club_183 ?_
    refine g_iload_n dX11_club_186 rfl ?_
    refine g_iconst dX11_club_187 0 rfl (by decide) ?_
    obtain ⟨hin, h⟩ := h
    refine g_iast kd_301 hin dX11_club_188 ?_
    refine g_nm (fun m2 em2 => ?_)
    replace h := h m2 em2
    refine g_iinc (lv' := [(3, vI (w32 (l3 + 1))), (0, vR 300), (1, vI l1), (2, vI l2)]) dX11_club_189 rfl (by decide) rfl ?_
    refine g_loc (a := w32 (l3 + 1)) (i := 3) (lv := [(0, vR 300), (1, vI l1), (2, vI l2)]) (fun x3 ex3 => ?_)
    replace h := h x3 ex3
    refine g_goto (tgt := 175) dX11_club_192 (by decide) ?_
    refine g_lv (lv' := [(0, vR 300), (1, vI l1), (2, vI l2), (3, vI x3)]) [1, 2, 3, 0] rfl ?_
    exact hK175 ((l1, l2, x3)) m2 h
theorem eX11_club_175 {E : TE} {Q : Int → Mem → Prop} (hR : RI E (some .int) Q) {l1 : Int} {l2 : Int} {l3 : Int} {σ : Mem} (h : wLX11_club_175 Q l1 l2 l3 σ) : GW E cX11_club 6 RX11 4 86 σ 175 [(0, vR 300), (1, vI l1), (2, vI l2), (3, vI l3)] [] := by
  obtain ⟨n, h⟩ := h
  exact lp_GW (P := fun (x : Int × Int × Int) (σ : Mem) => GW E cX11_club 6 RX11 4 86 σ 175 [(0, vR 300), (1, vI x.1), (2, vI x.2.1), (3, vI x.2.2)] []) (fun K hK x σ h  => bX11_club_175 hK hR h) n _ σ h 
set_option maxHeartbeats 1000000 in
theorem bX11_club_155 {E : TE} {Q : Int → Mem → Prop} (hR : RI E (some .int) Q) {l1 : Int} {l2 : Int} {σ : Mem} (h : wX11_club_155 Q l1 l2 σ) : GW E cX11_club 6 RX11 4 86 σ 155 [(0, vR 300), (1, vI l1), (2, vI l2)] [] := by
  unfold wX11_club_155 at h
  refine g_aload_n dX11_club_155 rfl ?_
  refine g_cVi (st := []) (av := []) (kX11_wasRight h) kd_300 rfl cw_RX11_135 (by decide) (by decide) (Nat.le_of_ble_eq_true rfl) rfl dX11_club_156 (fun y2 m1 h => ?_)
  obtain ⟨hA, hB⟩ := h
  refine g_if_ne (tgt := 169) dX11_club_159 (by decide) (fun hc => ?_) (fun hc => ?_)
  · replace h := hA hc
    refine g_aload_n dX11_club_169 rfl ?_
    refine g_cVv (st := []) (av := []) (kX11_change h) kd_300 rfl cw_RX11_138 (by decide) (by decide) (Nat.le_of_ble_eq_true rfl) rfl dX11_club_170 (fun m3 h => ?_)
    refine g_iconst dX11_club_173 0 rfl (by decide) ?_
    refine g_istore_n (lv' := [(3, vI 0), (0, vR 300), (1, vI l1), (2, vI l2)]) dX11_club_174 (by decide) rfl ?_
    refine g_lv (lv' := [(0, vR 300), (1, vI l1), (2, vI l2), (3, vI 0)]) [1, 2, 3, 0] rfl ?_
    exact eX11_club_175 hR h
  · replace h := hB hc
    refine g_iconst dX11_club_162 (-1) rfl (by decide) ?_
    refine g_aload_n dX11_club_163 rfl ?_
    refine g_getI fl_11_110 kd_300 rfl dX11_club_164 ?_
    refine g_isub dX11_club_167 ?_
    exact g_iret hR dX11_club_168 h
set_option maxHeartbeats 1000000 in
theorem bX11_club_46 {E : TE} {K46 : (Int × Int) → Mem → Prop} (hK46 : ∀ (x : Int × Int) (σ : Mem), K46 x σ → GW E cX11_club 6 RX11 4 86 σ 46 [(0, vR 300), (1, vI x.1), (2, vI x.2)] []) {Q : Int → Mem → Prop} (hR : RI E (some .int) Q) {l1 : Int} {l2 : Int} {σ : Mem} (h : wX11_club_46 K46 Q l1 l2 σ) : GW E cX11_club 6 RX11 4 86 σ 46 [(0, vR 300), (1, vI l1), (2, vI l2)] [] := by
  unfold wX11_club_46 at h
  refine g_aload_n dX11_club_46 rfl ?_
  refine g_cVi (st := []) (av := []) (kX11_fine h) kd_300 rfl cw_RX11_113 (by decide) (by decide) (Nat.le_of_ble_eq_true rfl) rfl dX11_club_47 (fun y2 m1 h => ?_)
  obtain ⟨hA, hB⟩ := h
  refine g_if_eq (tgt := 155) dX11_club_50 (by decide) (fun hc => ?_) (fun hc => ?_)
  · replace h := hA hc
    exact bX11_club_155 hR h
  · replace h := hB hc
    refine g_aload_n dX11_club_53 rfl ?_
    refine g_getI fl_11_107 kd_300 rfl dX11_club_54 ?_
    refine g_aload_n dX11_club_57 rfl ?_
    refine g_getI fl_11_104 kd_300 rfl dX11_club_58 ?_
    obtain ⟨hA, hB⟩ := h
    refine g_icmp_ge (tgt := 155) dX11_club_61 (by decide) (fun hc => ?_) (fun hc => ?_)
    · replace h := hA hc
      exact bX11_club_155 hR h
    · replace h := hB hc
      refine g_aload_n dX11_club_64 rfl ?_
      refine g_bipush dX11_club_65 97 rfl (by decide) ?_
      refine g_iload_n dX11_club_67 rfl ?_
      refine g_cVi (st := []) (av := [vI 97, vI l1]) (kX11_oneOf h) kd_300 rfl cw_RX11_125 (by decide) (by decide) (Nat.le_of_ble_eq_true rfl) rfl dX11_club_68 (fun y4 m3 h => ?_)
      refine g_istore_n (lv' := [(3, vI y4), (0, vR 300), (1, vI l1), (2, vI l2)]) dX11_club_71 (by decide) rfl ?_
      refine g_aload_n dX11_club_72 rfl ?_
      refine g_bipush dX11_club_73 97 rfl (by decide) ?_
      refine g_iload_n dX11_club_75 rfl ?_
      refine g_cVi (st := []) (av := [vI 97, vI l1]) (kX11_oneOf h) kd_300 rfl cw_RX11_125 (by decide) (by decide) (Nat.le_of_ble_eq_true rfl) rfl dX11_club_76 (fun y6 m5 h => ?_)
      refine g_istore (lv' := [(4, vI y6), (3, vI y4), (0, vR 300), (1, vI l1), (2, vI l2)]) dX11_club_79 (by decide) rfl ?_
      refine g_aload_n dX11_club_81 rfl ?_
      refine g_cVi (st := []) (av := []) (kX11_fine h) kd_300 rfl cw_RX11_113 (by decide) (by decide) (Nat.le_of_ble_eq_true rfl) rfl dX11_club_82 (fun y8 m7 h => ?_)
      obtain ⟨hA, hB⟩ := h
      refine g_if_eq (tgt := 119) dX11_club_85 (by decide) (fun hc => ?_) (fun hc => ?_)
      · replace h := hA hc
        refine g_lv (lv' := [(0, vR 300), (1, vI l1), (2, vI l2), (3, vI y4), (4, vI y6)]) [2, 3, 4, 1, 0] rfl ?_
        exact bX11_club_119 hK46 hR h
      · replace h := hB hc
        refine g_iload_n dX11_club_88 rfl ?_
        refine g_iload dX11_club_89 rfl ?_
        obtain ⟨hA, hB⟩ := h
        refine g_icmp_eq (tgt := 109) dX11_club_91 (by decide) (fun hc => ?_) (fun hc => ?_)
        · replace h := hA hc
          refine g_lv (lv' := [(0, vR 300), (1, vI l1), (2, vI l2), (3, vI y4), (4, vI y6)]) [2, 3, 4, 1, 0] rfl ?_
          exact bX11_club_109 hK46 hR h
        · replace h := hB hc
          refine g_aload_n dX11_club_94 rfl ?_
          refine g_getR (r := 311) fl_11_24 kd_300 rfl dX11_club_95 ?_
          refine g_iload_n dX11_club_98 rfl ?_
          refine g_iload dX11_club_99 rfl ?_
          refine g_cSi (st := [vR 311]) (av := [vI y4, vI y6]) (kX11_pair h) cw_RX11_82 (by decide) (by decide) (Nat.le_of_ble_eq_true rfl) rfl dX11_club_101 (fun y10 m9 h => ?_)
          obtain ⟨hin, h⟩ := h
          refine g_iald kd_311 hin dX11_club_104 ?_
          refine g_iconst dX11_club_105 (-1) rfl (by decide) ?_
          obtain ⟨hA, hB⟩ := h
          refine g_icmp_eq (tgt := 119) dX11_club_106 (by decide) (fun hc => ?_) (fun hc => ?_)
          · replace h := hA hc
            refine g_lv (lv' := [(0, vR 300), (1, vI l1), (2, vI l2), (3, vI y4), (4, vI y6)]) [2, 3, 4, 1, 0] rfl ?_
            exact bX11_club_119 hK46 hR h
          · replace h := hB hc
            refine g_lv (lv' := [(0, vR 300), (1, vI l1), (2, vI l2), (3, vI y4), (4, vI y6)]) [2, 3, 4, 1, 0] rfl ?_
            exact bX11_club_109 hK46 hR h
theorem eX11_club_46 {E : TE} {Q : Int → Mem → Prop} (hR : RI E (some .int) Q) {l1 : Int} {l2 : Int} {σ : Mem} (h : wLX11_club_46 Q l1 l2 σ) : GW E cX11_club 6 RX11 4 86 σ 46 [(0, vR 300), (1, vI l1), (2, vI l2)] [] := by
  obtain ⟨n, h⟩ := h
  exact lp_GW (P := fun (x : Int × Int) (σ : Mem) => GW E cX11_club 6 RX11 4 86 σ 46 [(0, vR 300), (1, vI x.1), (2, vI x.2)] []) (fun K hK x σ h  => bX11_club_46 hK hR h) n _ σ h 
set_option maxHeartbeats 1000000 in
theorem bX11_club_11 {E : TE} {K11 : Int → Mem → Prop} (hK11 : ∀ (x : Int) (σ : Mem), K11 x σ → GW E cX11_club 6 RX11 4 86 σ 11 [(0, vR 300), (1, vI x)] []) {Q : Int → Mem → Prop} (hR : RI E (some .int) Q) {l1 : Int} {σ : Mem} (h : wX11_club_11 K11 Q l1 σ) : GW E cX11_club 6 RX11 4 86 σ 11 [(0, vR 300), (1, vI l1)] [] := by
  unfold wX11_club_11 at h
  refine g_iload_n dX11_club_11 rfl ?_
  refine g_aload_n dX11_club_12 rfl ?_
  refine g_getR (r := 311) fl_11_24 kd_300 rfl dX11_club_13 ?_
  refine g_alen (a := 64) kd_311 rfl (by decide) dX11_club_16 ?_
  obtain ⟨hA, hB⟩ := h
  refine g_icmp_ge (tgt := 33) dX11_club_17 (by decide) (fun hc => ?_) (fun hc => ?_)
  · replace h := hA hc
    refine g_aload_n dX11_club_33 rfl ?_
    refine g_bipush dX11_club_34 50 rfl (by decide) ?_
    refine g_bipush dX11_club_36 7 rfl (by decide) ?_
    refine g_cVi (st := []) (av := [vI 50, vI 7]) (kX11_oneOf h) kd_300 rfl cw_RX11_125 (by decide) (by decide) (Nat.le_of_ble_eq_true rfl) rfl dX11_club_38 (fun y2 m1 h => ?_)
    refine g_iconst dX11_club_41 2 rfl (by decide) ?_
    refine g_iadd dX11_club_42 ?_
    refine g_topI (fun x3 ex3 => ?_)
    replace h := h x3 ex3
    refine g_istore_n (lv' := [(1, vI x3), (0, vR 300)]) dX11_club_43 (by decide) rfl ?_
    refine g_iconst dX11_club_44 0 rfl (by decide) ?_
    refine g_istore_n (lv' := [(2, vI 0), (1, vI x3), (0, vR 300)]) dX11_club_45 (by decide) rfl ?_
    refine g_lv (lv' := [(0, vR 300), (1, vI x3), (2, vI 0)]) [2, 1, 0] rfl ?_
    exact eX11_club_46 hR h
  · replace h := hB hc
    refine g_aload_n dX11_club_20 rfl ?_
    refine g_getR (r := 311) fl_11_24 kd_300 rfl dX11_club_21 ?_
    refine g_iload_n dX11_club_24 rfl ?_
    refine g_iconst dX11_club_25 (-1) rfl (by decide) ?_
    obtain ⟨hin, h⟩ := h
    refine g_iast kd_311 hin dX11_club_26 ?_
    refine g_nm (fun m4 em4 => ?_)
    replace h := h m4 em4
    refine g_iinc (lv' := [(1, vI (w32 (l1 + 1))), (0, vR 300)]) dX11_club_27 rfl (by decide) rfl ?_
    refine g_loc (a := w32 (l1 + 1)) (i := 1) (lv := [(0, vR 300)]) (fun x5 ex5 => ?_)
    replace h := h x5 ex5
    refine g_goto (tgt := 11) dX11_club_30 (by decide) ?_
    refine g_lv (lv' := [(0, vR 300), (1, vI x5)]) [1, 0] rfl ?_
    exact hK11 x5 m4 h
theorem eX11_club_11 {E : TE} {Q : Int → Mem → Prop} (hR : RI E (some .int) Q) {l1 : Int} {σ : Mem} (h : wLX11_club_11 Q l1 σ) : GW E cX11_club 6 RX11 4 86 σ 11 [(0, vR 300), (1, vI l1)] [] := by
  obtain ⟨n, h⟩ := h
  exact lp_GW (P := fun (x : Int) (σ : Mem) => GW E cX11_club 6 RX11 4 86 σ 11 [(0, vR 300), (1, vI x)] []) (fun K hK x σ h  => bX11_club_11 hK hR h) n _ σ h 
set_option maxHeartbeats 1000000 in
theorem kX11_club {σ : Mem} {Q : Int → Mem → Prop} (h : wX11_club σ Q) (l : Launch) (D : va_G) (cy : Nat → ClassId) (ad : Nat → Nat) : MI l yX11_club cX11_club 6 (some .int) 4 86 D cy ad [vR 300] σ Q := by
  refine m_I (own := RX11) (lv := [(0, vR 300)]) (by decide +kernel) rfl (Nat.le_of_ble_eq_true rfl) rfl (fun E hR => ?_) l D cy ad
  unfold wX11_club at h
  refine g_aload_n dX11_club_0 rfl ?_
  refine g_iconst dX11_club_1 0 rfl (by decide) ?_
  refine g_putI fp_11_68 kd_300 rfl dX11_club_2 ?_
  refine g_nm (fun m1 em1 => ?_)
  replace h := h m1 em1
  refine g_aload_n dX11_club_5 rfl ?_
  refine g_cVv (st := []) (av := []) (kX11_begin h) kd_300 rfl cw_RX11_129 (by decide) (by decide) (Nat.le_of_ble_eq_true rfl) rfl dX11_club_6 (fun m2 h => ?_)
  refine g_iconst dX11_club_9 0 rfl (by decide) ?_
  refine g_istore_n (lv' := [(1, vI 0), (0, vR 300)]) dX11_club_10 (by decide) rfl ?_
  refine g_lv (lv' := [(0, vR 300), (1, vI 0)]) [1, 0] rfl ?_
  exact eX11_club_11 hR h
def wX11_entryOf (l0 : Int) (l1 : Int) (l2 : Int) (l3 : Int) (σ : Mem) (Q : Int → Mem → Prop) : Prop := (∀ x1 : Int, x1 = w32 (l1 + (w32 (l3 * l2))) → ((¬ l0 = 0 → ((¬ l0 = 1 → Q x1 σ) ∧ (l0 = 1 → Q (i16 x1) σ))) ∧ (l0 = 0 → Q (i8 x1) σ)))
set_option maxHeartbeats 1000000 in
theorem kX11_entryOf {l0 : Int} {l1 : Int} {l2 : Int} {l3 : Int} {σ : Mem} {Q : Int → Mem → Prop} (h : wX11_entryOf l0 l1 l2 l3 σ Q) (l : Launch) (D : va_G) (cy : Nat → ClassId) (ad : Nat → Nat) : MI l yX11_entryOf cX11_entryOf 5 (some .int) 0 0 D cy ad [vI l0, vI l1, vI l2, vI l3] σ Q := by
  refine m_I (own := RX11) (lv := [(0, vI l0), (1, vI l1), (2, vI l2), (3, vI l3)]) (by decide +kernel) rfl (Nat.le_of_ble_eq_true rfl) rfl (fun E hR => ?_) l D cy ad
  unfold wX11_entryOf at h
  refine g_iload_n dX11_entryOf_0 rfl ?_
  refine g_iload_n dX11_entryOf_1 rfl ?_
  refine g_iload_n dX11_entryOf_2 rfl ?_
  refine g_imul dX11_entryOf_3 ?_
  refine g_iadd dX11_entryOf_4 ?_
  refine g_topI (fun x1 ex1 => ?_)
  replace h := h x1 ex1
  refine g_istore (lv' := [(4, vI x1), (0, vI l0), (1, vI l1), (2, vI l2), (3, vI l3)]) dX11_entryOf_5 (by decide) rfl ?_
  refine g_iload_n dX11_entryOf_7 rfl ?_
  obtain ⟨hA, hB⟩ := h
  refine g_if_ne (tgt := 17) dX11_entryOf_8 (by decide) (fun hc => ?_) (fun hc => ?_)
  · replace h := hA hc
    refine g_iload_n dX11_entryOf_17 rfl ?_
    refine g_iconst dX11_entryOf_18 1 rfl (by decide) ?_
    obtain ⟨hA, hB⟩ := h
    refine g_icmp_ne (tgt := 28) dX11_entryOf_19 (by decide) (fun hc => ?_) (fun hc => ?_)
    · replace h := hA hc
      refine g_iload dX11_entryOf_28 rfl ?_
      exact g_iret hR dX11_entryOf_30 h
    · replace h := hB hc
      refine g_iload dX11_entryOf_22 rfl ?_
      refine g_i2s dX11_entryOf_24 ?_
      refine g_goto (tgt := 30) dX11_entryOf_25 (by decide) ?_
      exact g_iret hR dX11_entryOf_30 h
  · replace h := hB hc
    refine g_iload dX11_entryOf_11 rfl ?_
    refine g_i2b dX11_entryOf_13 ?_
    refine g_goto (tgt := 30) dX11_entryOf_14 (by decide) ?_
    exact g_iret hR dX11_entryOf_30 h
def wX11_whyNot (l1 : Int) (l2 : Int) (l3 : Int) (σ : Mem) (Q : Int → Mem → Prop) : Prop := (wX11_isMember l2 σ (fun y2 m1 => ((¬ y2 = 0 → (wX11_in l3 0 999 m1 (fun y4 m3 => ((¬ y4 = 0 → (wX11_owes l2 l1 m3 (fun y6 m5 => ((y6 ≤ l3 → Q 0 m5) ∧ (¬ y6 ≤ l3 → Q 3 m5))))) ∧ (y4 = 0 → Q 2 m3))))) ∧ (y2 = 0 → Q 1 m1))))
set_option maxHeartbeats 1000000 in
theorem kX11_whyNot {l1 : Int} {l2 : Int} {l3 : Int} {σ : Mem} {Q : Int → Mem → Prop} (h : wX11_whyNot l1 l2 l3 σ Q) (l : Launch) (D : va_G) (cy : Nat → ClassId) (ad : Nat → Nat) : MI l yX11_whyNot cX11_whyNot 4 (some .int) 2 46 D cy ad [vR 300, vI l1, vI l2, vI l3] σ Q := by
  refine m_I (own := RX11) (lv := [(0, vR 300), (1, vI l1), (2, vI l2), (3, vI l3)]) (by decide +kernel) rfl (Nat.le_of_ble_eq_true rfl) rfl (fun E hR => ?_) l D cy ad
  unfold wX11_whyNot at h
  refine g_aload_n dX11_whyNot_0 rfl ?_
  refine g_iload_n dX11_whyNot_1 rfl ?_
  refine g_cVi (st := []) (av := [vI l2]) (kX11_isMember h) kd_300 rfl cw_RX11_78 (by decide) (by decide) (Nat.le_of_ble_eq_true rfl) rfl dX11_whyNot_2 (fun y2 m1 h => ?_)
  obtain ⟨hA, hB⟩ := h
  refine g_if_ne (tgt := 10) dX11_whyNot_5 (by decide) (fun hc => ?_) (fun hc => ?_)
  · replace h := hA hc
    refine g_iload_n dX11_whyNot_10 rfl ?_
    refine g_iconst dX11_whyNot_11 0 rfl (by decide) ?_
    refine g_sipush dX11_whyNot_12 999 rfl (by decide) ?_
    refine g_cSi (st := []) (av := [vI l3, vI 0, vI 999]) (kX11_in h) cw_RX11_74 (by decide) (by decide) (Nat.le_of_ble_eq_true rfl) rfl dX11_whyNot_15 (fun y4 m3 h => ?_)
    obtain ⟨hA, hB⟩ := h
    refine g_if_ne (tgt := 25) dX11_whyNot_18 (by decide) (fun hc => ?_) (fun hc => ?_)
    · replace h := hA hc
      refine g_iload_n dX11_whyNot_25 rfl ?_
      refine g_aload_n dX11_whyNot_26 rfl ?_
      refine g_iload_n dX11_whyNot_27 rfl ?_
      refine g_iload_n dX11_whyNot_28 rfl ?_
      refine g_cVi (st := [vI l3]) (av := [vI l2, vI l1]) (kX11_owes h) kd_300 rfl cw_RX11_141 (by decide) (by decide) (Nat.le_of_ble_eq_true rfl) rfl dX11_whyNot_29 (fun y6 m5 h => ?_)
      obtain ⟨hA, hB⟩ := h
      refine g_icmp_ge (tgt := 39) dX11_whyNot_32 (by decide) (fun hc => ?_) (fun hc => ?_)
      · replace h := hA hc
        refine g_iconst dX11_whyNot_39 0 rfl (by decide) ?_
        exact g_iret hR dX11_whyNot_40 h
      · replace h := hB hc
        refine g_iconst dX11_whyNot_35 3 rfl (by decide) ?_
        refine g_goto (tgt := 40) dX11_whyNot_36 (by decide) ?_
        exact g_iret hR dX11_whyNot_40 h
    · replace h := hB hc
      refine g_iconst dX11_whyNot_21 2 rfl (by decide) ?_
      refine g_goto (tgt := 40) dX11_whyNot_22 (by decide) ?_
      exact g_iret hR dX11_whyNot_40 h
  · replace h := hB hc
    refine g_iconst dX11_whyNot_8 1 rfl (by decide) ?_
    exact g_iret hR dX11_whyNot_9 h
def wX11_sheet_81 (K58 : (Int × Int × Int × Int × Int × Int) → Mem → Prop) (Q : Int → Mem → Prop) (l1 : Int) (l2 : Int) (l3 : Int) (l4 : Int) (l5 : Int) (l6 : Int) (s0 : Int) (s1 : Int) (σ : Mem) : Prop := (wX11_entryOf l2 l4 l5 l6 σ (fun y2 m1 => (wX11_whyNot s1 s0 y2 m1 (fun y4 m3 => ((¬ y4 = 0 → (∀ m5 : Mem, m5 = up2 m3 300 4 0 → (wX11_tell l6 m5 (fun m6 => (wX11_tell y4 m6 (fun m7 => Q ((-4)) m7)))))) ∧ (y4 = 0 → (∀ x8 : Int, x8 = w32 (l6 + 1) → K58 (l1, l2, l3, l4, l5, x8) m3)))))))
def wX11_sheet_198 (K138 : (Int × Int × Int × Int × Int × Int × Int) → Mem → Prop) (Q : Int → Mem → Prop) (l1 : Int) (l2 : Int) (l3 : Int) (l4 : Int) (l5 : Int) (l7 : Int) (l8 : Int) (l9 : Int) (s0 : Int) (s1 : Int) (σ : Mem) : Prop := (∀ x1 : Int, x1 = w32 (s1 + s0) → ((0 ≤ l8 ∧ l8 < 405) ∧ (∀ m2 : Mem, m2 = up2 σ 301 l8.toNat l9 → (∀ x3 : Int, x3 = w32 (l7 + 1) → K138 (l1, l2, l3, l4, l5, x1, x3) m2))))
def wX11_sheet_161 (K138 : (Int × Int × Int × Int × Int × Int × Int) → Mem → Prop) (Q : Int → Mem → Prop) (l1 : Int) (l2 : Int) (l3 : Int) (l4 : Int) (l5 : Int) (l6 : Int) (l7 : Int) (s0 : Int) (s1 : Int) (s2 : Int) (σ : Mem) : Prop := (wX11_pair s1 s0 σ (fun y2 m1 => (∀ x3 : Int, x3 = w32 (s2 + y2) → (wX11_entryOf l2 l4 l5 l7 m1 (fun y5 m4 => ((0 ≤ x3 ∧ x3 < 405) ∧ ((m4 301 x3.toNat = y5 → wX11_sheet_198 K138 Q l1 l2 l3 l4 l5 l7 x3 y5 0 l6 m4) ∧ (¬ m4 301 x3.toNat = y5 → wX11_sheet_198 K138 Q l1 l2 l3 l4 l5 l7 x3 y5 1 l6 m4))))))))
def wX11_sheet_138 (K138 : (Int × Int × Int × Int × Int × Int × Int) → Mem → Prop) (Q : Int → Mem → Prop) (l1 : Int) (l2 : Int) (l3 : Int) (l4 : Int) (l5 : Int) (l6 : Int) (l7 : Int) (σ : Mem) : Prop := ((l3 ≤ l7 → Q l6 σ) ∧ (¬ l3 ≤ l7 → ((l1 ≤ l7 → wX11_sheet_161 K138 Q l1 l2 l3 l4 l5 l6 l7 (w32 (l7 + 1)) l1 1 σ) ∧ (¬ l1 ≤ l7 → wX11_sheet_161 K138 Q l1 l2 l3 l4 l5 l6 l7 l7 l1 1 σ))))
def wLX11_sheet_138 (Q : Int → Mem → Prop) (l1 : Int) (l2 : Int) (l3 : Int) (l4 : Int) (l5 : Int) (l6 : Int) (l7 : Int) (σ : Mem) : Prop := ∃ n, lp (fun (K138 : (Int × Int × Int × Int × Int × Int × Int) → Mem → Prop) (x : Int × Int × Int × Int × Int × Int × Int) (σ : Mem) => wX11_sheet_138 K138 Q x.1 x.2.1 x.2.2.1 x.2.2.2.1 x.2.2.2.2.1 x.2.2.2.2.2.1 x.2.2.2.2.2.2 σ) n (l1, l2, l3, l4, l5, l6, l7) σ
def wX11_sheet_58 (K58 : (Int × Int × Int × Int × Int × Int) → Mem → Prop) (Q : Int → Mem → Prop) (l1 : Int) (l2 : Int) (l3 : Int) (l4 : Int) (l5 : Int) (l6 : Int) (σ : Mem) : Prop := ((l3 ≤ l6 → wLX11_sheet_138 Q l1 l2 l3 l4 l5 0 0 σ) ∧ (¬ l3 ≤ l6 → ((l1 ≤ l6 → wX11_sheet_81 K58 Q l1 l2 l3 l4 l5 l6 (w32 (l6 + 1)) l1 σ) ∧ (¬ l1 ≤ l6 → wX11_sheet_81 K58 Q l1 l2 l3 l4 l5 l6 l6 l1 σ))))
def wLX11_sheet_58 (Q : Int → Mem → Prop) (l1 : Int) (l2 : Int) (l3 : Int) (l4 : Int) (l5 : Int) (l6 : Int) (σ : Mem) : Prop := ∃ n, lp (fun (K58 : (Int × Int × Int × Int × Int × Int) → Mem → Prop) (x : Int × Int × Int × Int × Int × Int) (σ : Mem) => wX11_sheet_58 K58 Q x.1 x.2.1 x.2.2.1 x.2.2.2.1 x.2.2.2.2.1 x.2.2.2.2.2 σ) n (l1, l2, l3, l4, l5, l6) σ
def wX11_sheet (l1 : Int) (l2 : Int) (l3 : Int) (l4 : Int) (l5 : Int) (σ : Mem) (Q : Int → Mem → Prop) : Prop := (∀ m1 : Mem, m1 = up2 σ 300 5 0 → (wX11_isMember l1 m1 (fun y3 m2 => ((y3 = 0 → Q ((-1)) m2) ∧ (¬ y3 = 0 → (wX11_in l2 0 3 m2 (fun y5 m4 => ((y5 = 0 → Q ((-1)) m4) ∧ (¬ y5 = 0 → ((l3 ≤ 20 → (wX11_heldBits  m4 (fun y7 m6 => ((y7 = 0 → ((¬ l2 = 3 → ((0 ≤ l3 → wLX11_sheet_58 Q l1 l2 l3 l4 l5 0 m6) ∧ (¬ 0 ≤ l3 → Q ((-2)) m6))) ∧ (l2 = 3 → Q ((-3)) m6))) ∧ (¬ y7 = 0 → Q ((-5)) m6))))) ∧ (¬ l3 ≤ 20 → Q ((-1)) m4)))))))))))
set_option maxHeartbeats 1000000 in
theorem bX11_sheet_81 {E : TE} {K58 : (Int × Int × Int × Int × Int × Int) → Mem → Prop} (hK58 : ∀ (x : Int × Int × Int × Int × Int × Int) (σ : Mem), K58 x σ → GW E cX11_sheet 10 RX11 3 69 σ 58 [(0, vR 300), (1, vI x.1), (2, vI x.2.1), (3, vI x.2.2.1), (4, vI x.2.2.2.1), (5, vI x.2.2.2.2.1), (6, vI x.2.2.2.2.2)] []) {Q : Int → Mem → Prop} (hR : RI E (some .int) Q) {l1 : Int} {l2 : Int} {l3 : Int} {l4 : Int} {l5 : Int} {l6 : Int} {s0 : Int} {s1 : Int} {σ : Mem} (h : wX11_sheet_81 K58 Q l1 l2 l3 l4 l5 l6 s0 s1 σ) : GW E cX11_sheet 10 RX11 3 69 σ 81 [(0, vR 300), (1, vI l1), (2, vI l2), (3, vI l3), (4, vI l4), (5, vI l5), (6, vI l6)] [vI s0, vI s1, vR 300] := by
  unfold wX11_sheet_81 at h
  refine g_iload_n dX11_sheet_81 rfl ?_
  refine g_iload dX11_sheet_82 rfl ?_
  refine g_iload dX11_sheet_84 rfl ?_
  refine g_iload dX11_sheet_86 rfl ?_
  refine g_cSi (st := [vI s0, vI s1, vR 300]) (av := [vI l2, vI l4, vI l5, vI l6]) (kX11_entryOf h) cw_RX11_147 (by decide) (by decide) (Nat.le_of_ble_eq_true rfl) rfl dX11_sheet_88 (fun y2 m1 h => ?_)
  refine g_cVi (st := []) (av := [vI s1, vI s0, vI y2]) (kX11_whyNot h) kd_300 rfl cw_RX11_151 (by decide) (by decide) (Nat.le_of_ble_eq_true rfl) rfl dX11_sheet_91 (fun y4 m3 h => ?_)
  refine g_istore (lv' := [(7, vI y4), (0, vR 300), (1, vI l1), (2, vI l2), (3, vI l3), (4, vI l4), (5, vI l5), (6, vI l6)]) dX11_sheet_94 (by decide) rfl ?_
  refine g_iload dX11_sheet_96 rfl ?_
  obtain ⟨hA, hB⟩ := h
  refine g_if_ne (tgt := 104) dX11_sheet_98 (by decide) (fun hc => ?_) (fun hc => ?_)
  · replace h := hA hc
    refine g_aload_n dX11_sheet_104 rfl ?_
    refine g_iconst dX11_sheet_105 0 rfl (by decide) ?_
    refine g_putI fp_11_71 kd_300 rfl dX11_sheet_106 ?_
    refine g_nm (fun m5 em5 => ?_)
    replace h := h m5 em5
    refine g_aload_n dX11_sheet_109 rfl ?_
    refine g_iload dX11_sheet_110 rfl ?_
    refine g_i2l dX11_sheet_112 ?_
    refine g_cVv (st := []) (av := [vL l6]) (kX11_tell h) kd_300 rfl cw_RX11_155 (by decide) (by decide) (Nat.le_of_ble_eq_true rfl) rfl dX11_sheet_113 (fun m6 h => ?_)
    refine g_aload_n dX11_sheet_116 rfl ?_
    refine g_iload dX11_sheet_117 rfl ?_
    refine g_i2l dX11_sheet_119 ?_
    refine g_cVv (st := []) (av := [vL y4]) (kX11_tell h) kd_300 rfl cw_RX11_155 (by decide) (by decide) (Nat.le_of_ble_eq_true rfl) rfl dX11_sheet_120 (fun m7 h => ?_)
    refine g_bipush dX11_sheet_123 (-4) rfl (by decide) ?_
    exact g_iret hR dX11_sheet_125 h
  · replace h := hB hc
    refine g_goto (tgt := 126) dX11_sheet_101 (by decide) ?_
    refine g_iinc (lv' := [(6, vI (w32 (l6 + 1))), (7, vI y4), (0, vR 300), (1, vI l1), (2, vI l2), (3, vI l3), (4, vI l4), (5, vI l5)]) dX11_sheet_126 rfl (by decide) rfl ?_
    refine g_loc (a := w32 (l6 + 1)) (i := 6) (lv := [(7, vI y4), (0, vR 300), (1, vI l1), (2, vI l2), (3, vI l3), (4, vI l4), (5, vI l5)]) (fun x8 ex8 => ?_)
    replace h := h x8 ex8
    refine g_goto (tgt := 58) dX11_sheet_129 (by decide) ?_
    refine g_lv (lv' := [(0, vR 300), (1, vI l1), (2, vI l2), (3, vI l3), (4, vI l4), (5, vI l5), (6, vI x8)]) [2, 3, 4, 5, 6, 7, 0] rfl ?_
    exact hK58 ((l1, l2, l3, l4, l5, x8)) m3 h
set_option maxHeartbeats 1000000 in
theorem bX11_sheet_198 {E : TE} {K138 : (Int × Int × Int × Int × Int × Int × Int) → Mem → Prop} (hK138 : ∀ (x : Int × Int × Int × Int × Int × Int × Int) (σ : Mem), K138 x σ → GW E cX11_sheet 10 RX11 3 69 σ 138 [(0, vR 300), (1, vI x.1), (2, vI x.2.1), (3, vI x.2.2.1), (4, vI x.2.2.2.1), (5, vI x.2.2.2.2.1), (6, vI x.2.2.2.2.2.1), (7, vI x.2.2.2.2.2.2)] []) {Q : Int → Mem → Prop} (hR : RI E (some .int) Q) {l1 : Int} {l2 : Int} {l3 : Int} {l4 : Int} {l5 : Int} {l7 : Int} {l8 : Int} {l9 : Int} {s0 : Int} {s1 : Int} {σ : Mem} (h : wX11_sheet_198 K138 Q l1 l2 l3 l4 l5 l7 l8 l9 s0 s1 σ) : GW E cX11_sheet 10 RX11 3 69 σ 198 [(0, vR 300), (1, vI l1), (2, vI l2), (3, vI l3), (4, vI l4), (5, vI l5), (7, vI l7), (8, vI l8), (9, vI l9)] [vI s0, vI s1] := by
  unfold wX11_sheet_198 at h
  refine g_iadd dX11_sheet_198 ?_
  refine g_topI (fun x1 ex1 => ?_)
  replace h := h x1 ex1
  refine g_istore (lv' := [(6, vI x1), (0, vR 300), (1, vI l1), (2, vI l2), (3, vI l3), (4, vI l4), (5, vI l5), (7, vI l7), (8, vI l8), (9, vI l9)]) dX11_sheet_199 (by decide) rfl ?_
  refine g_aload_n dX11_sheet_201 rfl ?_
  refine g_getR (r := 301) fl_11_9 kd_300 rfl dX11_sheet_202 ?_
  refine g_iload dX11_sheet_205 rfl ?_
  refine g_iload dX11_sheet_207 rfl ?_
  obtain ⟨hin, h⟩ := h
  refine g_iast kd_301 hin dX11_sheet_209 ?_
  refine g_nm (fun m2 em2 => ?_)
  replace h := h m2 em2
  refine g_iinc (lv' := [(7, vI (w32 (l7 + 1))), (6, vI x1), (0, vR 300), (1, vI l1), (2, vI l2), (3, vI l3), (4, vI l4), (5, vI l5), (8, vI l8), (9, vI l9)]) dX11_sheet_210 rfl (by decide) rfl ?_
  refine g_loc (a := w32 (l7 + 1)) (i := 7) (lv := [(6, vI x1), (0, vR 300), (1, vI l1), (2, vI l2), (3, vI l3), (4, vI l4), (5, vI l5), (8, vI l8), (9, vI l9)]) (fun x3 ex3 => ?_)
  replace h := h x3 ex3
  refine g_goto (tgt := 138) dX11_sheet_213 (by decide) ?_
  refine g_lv (lv' := [(0, vR 300), (1, vI l1), (2, vI l2), (3, vI l3), (4, vI l4), (5, vI l5), (6, vI x1), (7, vI x3)]) [2, 3, 4, 5, 6, 7, 1, 0] rfl ?_
  exact hK138 ((l1, l2, l3, l4, l5, x1, x3)) m2 h
set_option maxHeartbeats 1000000 in
theorem bX11_sheet_161 {E : TE} {K138 : (Int × Int × Int × Int × Int × Int × Int) → Mem → Prop} (hK138 : ∀ (x : Int × Int × Int × Int × Int × Int × Int) (σ : Mem), K138 x σ → GW E cX11_sheet 10 RX11 3 69 σ 138 [(0, vR 300), (1, vI x.1), (2, vI x.2.1), (3, vI x.2.2.1), (4, vI x.2.2.2.1), (5, vI x.2.2.2.2.1), (6, vI x.2.2.2.2.2.1), (7, vI x.2.2.2.2.2.2)] []) {Q : Int → Mem → Prop} (hR : RI E (some .int) Q) {l1 : Int} {l2 : Int} {l3 : Int} {l4 : Int} {l5 : Int} {l6 : Int} {l7 : Int} {s0 : Int} {s1 : Int} {s2 : Int} {σ : Mem} (h : wX11_sheet_161 K138 Q l1 l2 l3 l4 l5 l6 l7 s0 s1 s2 σ) : GW E cX11_sheet 10 RX11 3 69 σ 161 [(0, vR 300), (1, vI l1), (2, vI l2), (3, vI l3), (4, vI l4), (5, vI l5), (6, vI l6), (7, vI l7)] [vI s0, vI s1, vI s2] := by
  unfold wX11_sheet_161 at h
  refine g_cSi (st := [vI s2]) (av := [vI s1, vI s0]) (kX11_pair h) cw_RX11_82 (by decide) (by decide) (Nat.le_of_ble_eq_true rfl) rfl dX11_sheet_161 (fun y2 m1 h => ?_)
  refine g_iadd dX11_sheet_164 ?_
  refine g_topI (fun x3 ex3 => ?_)
  replace h := h x3 ex3
  refine g_istore (lv' := [(8, vI x3), (0, vR 300), (1, vI l1), (2, vI l2), (3, vI l3), (4, vI l4), (5, vI l5), (6, vI l6), (7, vI l7)]) dX11_sheet_165 (by decide) rfl ?_
  refine g_iload_n dX11_sheet_167 rfl ?_
  refine g_iload dX11_sheet_168 rfl ?_
  refine g_iload dX11_sheet_170 rfl ?_
  refine g_iload dX11_sheet_172 rfl ?_
  refine g_cSi (st := []) (av := [vI l2, vI l4, vI l5, vI l7]) (kX11_entryOf h) cw_RX11_147 (by decide) (by decide) (Nat.le_of_ble_eq_true rfl) rfl dX11_sheet_174 (fun y5 m4 h => ?_)
  refine g_istore (lv' := [(9, vI y5), (8, vI x3), (0, vR 300), (1, vI l1), (2, vI l2), (3, vI l3), (4, vI l4), (5, vI l5), (6, vI l6), (7, vI l7)]) dX11_sheet_177 (by decide) rfl ?_
  refine g_iload dX11_sheet_179 rfl ?_
  refine g_aload_n dX11_sheet_181 rfl ?_
  refine g_getR (r := 301) fl_11_9 kd_300 rfl dX11_sheet_182 ?_
  refine g_iload dX11_sheet_185 rfl ?_
  obtain ⟨hin, h⟩ := h
  refine g_iald kd_301 hin dX11_sheet_187 ?_
  refine g_iload dX11_sheet_188 rfl ?_
  obtain ⟨hA, hB⟩ := h
  refine g_icmp_eq (tgt := 197) dX11_sheet_190 (by decide) (fun hc => ?_) (fun hc => ?_)
  · replace h := hA hc
    refine g_iconst dX11_sheet_197 0 rfl (by decide) ?_
    refine g_lv (lv' := [(0, vR 300), (1, vI l1), (2, vI l2), (3, vI l3), (4, vI l4), (5, vI l5), (7, vI l7), (8, vI x3), (9, vI y5)]) [2, 3, 4, 5, 6, 7, 9, 1, 0] rfl ?_
    exact bX11_sheet_198 hK138 hR h
  · replace h := hB hc
    refine g_iconst dX11_sheet_193 1 rfl (by decide) ?_
    refine g_goto (tgt := 198) dX11_sheet_194 (by decide) ?_
    refine g_lv (lv' := [(0, vR 300), (1, vI l1), (2, vI l2), (3, vI l3), (4, vI l4), (5, vI l5), (7, vI l7), (8, vI x3), (9, vI y5)]) [2, 3, 4, 5, 6, 7, 9, 1, 0] rfl ?_
    exact bX11_sheet_198 hK138 hR h
set_option maxHeartbeats 1000000 in
theorem bX11_sheet_138 {E : TE} {K138 : (Int × Int × Int × Int × Int × Int × Int) → Mem → Prop} (hK138 : ∀ (x : Int × Int × Int × Int × Int × Int × Int) (σ : Mem), K138 x σ → GW E cX11_sheet 10 RX11 3 69 σ 138 [(0, vR 300), (1, vI x.1), (2, vI x.2.1), (3, vI x.2.2.1), (4, vI x.2.2.2.1), (5, vI x.2.2.2.2.1), (6, vI x.2.2.2.2.2.1), (7, vI x.2.2.2.2.2.2)] []) {Q : Int → Mem → Prop} (hR : RI E (some .int) Q) {l1 : Int} {l2 : Int} {l3 : Int} {l4 : Int} {l5 : Int} {l6 : Int} {l7 : Int} {σ : Mem} (h : wX11_sheet_138 K138 Q l1 l2 l3 l4 l5 l6 l7 σ) : GW E cX11_sheet 10 RX11 3 69 σ 138 [(0, vR 300), (1, vI l1), (2, vI l2), (3, vI l3), (4, vI l4), (5, vI l5), (6, vI l6), (7, vI l7)] [] := by
  unfold wX11_sheet_138 at h
  refine g_iload dX11_sheet_138 rfl ?_
  refine g_iload_n dX11_sheet_140 rfl ?_
  obtain ⟨hA, hB⟩ := h
  refine g_icmp_ge (tgt := 216) dX11_sheet_141 (by decide) (fun hc => ?_) (fun hc => ?_)
  · replace h := hA hc
    refine g_iload dX11_sheet_216 rfl ?_
    exact g_iret hR dX11_sheet_218 h
  · replace h := hB hc
    refine g_iconst dX11_sheet_144 1 rfl (by decide) ?_
    refine g_iload_n dX11_sheet_145 rfl ?_
    refine g_iload dX11_sheet_146 rfl ?_
    refine g_iload_n dX11_sheet_148 rfl ?_
    obtain ⟨hA, hB⟩ := h
    refine g_icmp_ge (tgt := 157) dX11_sheet_149 (by decide) (fun hc => ?_) (fun hc => ?_)
    · replace h := hA hc
      refine g_iload dX11_sheet_157 rfl ?_
      refine g_iconst dX11_sheet_159 1 rfl (by decide) ?_
      refine g_iadd dX11_sheet_160 ?_
      exact bX11_sheet_161 hK138 hR h
    · replace h := hB hc
      refine g_iload dX11_sheet_152 rfl ?_
      refine g_goto (tgt := 161) dX11_sheet_154 (by decide) ?_
      exact bX11_sheet_161 hK138 hR h
theorem eX11_sheet_138 {E : TE} {Q : Int → Mem → Prop} (hR : RI E (some .int) Q) {l1 : Int} {l2 : Int} {l3 : Int} {l4 : Int} {l5 : Int} {l6 : Int} {l7 : Int} {σ : Mem} (h : wLX11_sheet_138 Q l1 l2 l3 l4 l5 l6 l7 σ) : GW E cX11_sheet 10 RX11 3 69 σ 138 [(0, vR 300), (1, vI l1), (2, vI l2), (3, vI l3), (4, vI l4), (5, vI l5), (6, vI l6), (7, vI l7)] [] := by
  obtain ⟨n, h⟩ := h
  exact lp_GW (P := fun (x : Int × Int × Int × Int × Int × Int × Int) (σ : Mem) => GW E cX11_sheet 10 RX11 3 69 σ 138 [(0, vR 300), (1, vI x.1), (2, vI x.2.1), (3, vI x.2.2.1), (4, vI x.2.2.2.1), (5, vI x.2.2.2.2.1), (6, vI x.2.2.2.2.2.1), (7, vI x.2.2.2.2.2.2)] []) (fun K hK x σ h  => bX11_sheet_138 hK hR h) n _ σ h 
set_option maxHeartbeats 1000000 in
theorem bX11_sheet_58 {E : TE} {K58 : (Int × Int × Int × Int × Int × Int) → Mem → Prop} (hK58 : ∀ (x : Int × Int × Int × Int × Int × Int) (σ : Mem), K58 x σ → GW E cX11_sheet 10 RX11 3 69 σ 58 [(0, vR 300), (1, vI x.1), (2, vI x.2.1), (3, vI x.2.2.1), (4, vI x.2.2.2.1), (5, vI x.2.2.2.2.1), (6, vI x.2.2.2.2.2)] []) {Q : Int → Mem → Prop} (hR : RI E (some .int) Q) {l1 : Int} {l2 : Int} {l3 : Int} {l4 : Int} {l5 : Int} {l6 : Int} {σ : Mem} (h : wX11_sheet_58 K58 Q l1 l2 l3 l4 l5 l6 σ) : GW E cX11_sheet 10 RX11 3 69 σ 58 [(0, vR 300), (1, vI l1), (2, vI l2), (3, vI l3), (4, vI l4), (5, vI l5), (6, vI l6)] [] := by
  unfold wX11_sheet_58 at h
  refine g_iload dX11_sheet_58 rfl ?_
  refine g_iload_n dX11_sheet_60 rfl ?_
  obtain ⟨hA, hB⟩ := h
  refine g_icmp_ge (tgt := 132) dX11_sheet_61 (by decide) (fun hc => ?_) (fun hc => ?_)
  · replace h := hA hc
    refine g_iconst dX11_sheet_132 0 rfl (by decide) ?_
    refine g_istore (lv' := [(6, vI 0), (0, vR 300), (1, vI l1), (2, vI l2), (3, vI l3), (4, vI l4), (5, vI l5)]) dX11_sheet_133 (by decide) rfl ?_
    refine g_iconst dX11_sheet_135 0 rfl (by decide) ?_
    refine g_istore (lv' := [(7, vI 0), (6, vI 0), (0, vR 300), (1, vI l1), (2, vI l2), (3, vI l3), (4, vI l4), (5, vI l5)]) dX11_sheet_136 (by decide) rfl ?_
    refine g_lv (lv' := [(0, vR 300), (1, vI l1), (2, vI l2), (3, vI l3), (4, vI l4), (5, vI l5), (6, vI 0), (7, vI 0)]) [2, 3, 4, 5, 6, 7, 1, 0] rfl ?_
    exact eX11_sheet_138 hR h
  · replace h := hB hc
    refine g_aload_n dX11_sheet_64 rfl ?_
    refine g_iload_n dX11_sheet_65 rfl ?_
    refine g_iload dX11_sheet_66 rfl ?_
    refine g_iload_n dX11_sheet_68 rfl ?_
    obtain ⟨hA, hB⟩ := h
    refine g_icmp_ge (tgt := 77) dX11_sheet_69 (by decide) (fun hc => ?_) (fun hc => ?_)
    · replace h := hA hc
      refine g_iload dX11_sheet_77 rfl ?_
      refine g_iconst dX11_sheet_79 1 rfl (by decide) ?_
      refine g_iadd dX11_sheet_80 ?_
      exact bX11_sheet_81 hK58 hR h
    · replace h := hB hc
      refine g_iload dX11_sheet_72 rfl ?_
      refine g_goto (tgt := 81) dX11_sheet_74 (by decide) ?_
      exact bX11_sheet_81 hK58 hR h
theorem eX11_sheet_58 {E : TE} {Q : Int → Mem → Prop} (hR : RI E (some .int) Q) {l1 : Int} {l2 : Int} {l3 : Int} {l4 : Int} {l5 : Int} {l6 : Int} {σ : Mem} (h : wLX11_sheet_58 Q l1 l2 l3 l4 l5 l6 σ) : GW E cX11_sheet 10 RX11 3 69 σ 58 [(0, vR 300), (1, vI l1), (2, vI l2), (3, vI l3), (4, vI l4), (5, vI l5), (6, vI l6)] [] := by
  obtain ⟨n, h⟩ := h
  exact lp_GW (P := fun (x : Int × Int × Int × Int × Int × Int) (σ : Mem) => GW E cX11_sheet 10 RX11 3 69 σ 58 [(0, vR 300), (1, vI x.1), (2, vI x.2.1), (3, vI x.2.2.1), (4, vI x.2.2.2.1), (5, vI x.2.2.2.2.1), (6, vI x.2.2.2.2.2)] []) (fun K hK x σ h  => bX11_sheet_58 hK hR h) n _ σ h 
set_option maxHeartbeats 1000000 in
theorem kX11_sheet {l1 : Int} {l2 : Int} {l3 : Int} {l4 : Int} {l5 : Int} {σ : Mem} {Q : Int → Mem → Prop} (h : wX11_sheet l1 l2 l3 l4 l5 σ Q) (l : Launch) (D : va_G) (cy : Nat → ClassId) (ad : Nat → Nat) : MI l yX11_sheet cX11_sheet 10 (some .int) 3 69 D cy ad [vR 300, vI l1, vI l2, vI l3, vI l4, vI l5] σ Q := by
  refine m_I (own := RX11) (lv := [(0, vR 300), (1, vI l1), (2, vI l2), (3, vI l3), (4, vI l4), (5, vI l5)]) (by decide +kernel) rfl (Nat.le_of_ble_eq_true rfl) rfl (fun E hR => ?_) l D cy ad
  unfold wX11_sheet at h
  refine g_aload_n dX11_sheet_0 rfl ?_
  refine g_iconst dX11_sheet_1 0 rfl (by decide) ?_
  refine g_putI fp_11_68 kd_300 rfl dX11_sheet_2 ?_
  refine g_nm (fun m1 em1 => ?_)
  replace h := h m1 em1
  refine g_aload_n dX11_sheet_5 rfl ?_
  refine g_iload_n dX11_sheet_6 rfl ?_
  refine g_cVi (st := []) (av := [vI l1]) (kX11_isMember h) kd_300 rfl cw_RX11_78 (by decide) (by decide) (Nat.le_of_ble_eq_true rfl) rfl dX11_sheet_7 (fun y3 m2 h => ?_)
  obtain ⟨hA, hB⟩ := h
  refine g_if_eq (tgt := 28) dX11_sheet_10 (by decide) (fun hc => ?_) (fun hc => ?_)
  · replace h := hA hc
    refine g_iconst dX11_sheet_28 (-1) rfl (by decide) ?_
    exact g_iret hR dX11_sheet_29 h
  · replace h := hB hc
    refine g_iload_n dX11_sheet_13 rfl ?_
    refine g_iconst dX11_sheet_14 0 rfl (by decide) ?_
    refine g_iconst dX11_sheet_15 3 rfl (by decide) ?_
    refine g_cSi (st := []) (av := [vI l2, vI 0, vI 3]) (kX11_in h) cw_RX11_74 (by decide) (by decide) (Nat.le_of_ble_eq_true rfl) rfl dX11_sheet_16 (fun y5 m4 h => ?_)
    obtain ⟨hA, hB⟩ := h
    refine g_if_eq (tgt := 28) dX11_sheet_19 (by decide) (fun hc => ?_) (fun hc => ?_)
    · replace h := hA hc
      refine g_iconst dX11_sheet_28 (-1) rfl (by decide) ?_
      exact g_iret hR dX11_sheet_29 h
    · replace h := hB hc
      refine g_iload_n dX11_sheet_22 rfl ?_
      refine g_bipush dX11_sheet_23 20 rfl (by decide) ?_
      obtain ⟨hA, hB⟩ := h
      refine g_icmp_le (tgt := 30) dX11_sheet_25 (by decide) (fun hc => ?_) (fun hc => ?_)
      · replace h := hA hc
        refine g_aload_n dX11_sheet_30 rfl ?_
        refine g_cVi (st := []) (av := []) (kX11_heldBits h) kd_300 rfl cw_RX11_144 (by decide) (by decide) (Nat.le_of_ble_eq_true rfl) rfl dX11_sheet_31 (fun y7 m6 h => ?_)
        obtain ⟨hA, hB⟩ := h
        refine g_if_eq (tgt := 40) dX11_sheet_34 (by decide) (fun hc => ?_) (fun hc => ?_)
        · replace h := hA hc
          refine g_iload_n dX11_sheet_40 rfl ?_
          refine g_iconst dX11_sheet_41 3 rfl (by decide) ?_
          obtain ⟨hA, hB⟩ := h
          refine g_icmp_ne (tgt := 48) dX11_sheet_42 (by decide) (fun hc => ?_) (fun hc => ?_)
          · replace h := hA hc
            refine g_iload_n dX11_sheet_48 rfl ?_
            obtain ⟨hA, hB⟩ := h
            refine g_if_ge (tgt := 55) dX11_sheet_49 (by decide) (fun hc => ?_) (fun hc => ?_)
            · replace h := hA hc
              refine g_iconst dX11_sheet_55 0 rfl (by decide) ?_
              refine g_istore (lv' := [(6, vI 0), (0, vR 300), (1, vI l1), (2, vI l2), (3, vI l3), (4, vI l4), (5, vI l5)]) dX11_sheet_56 (by decide) rfl ?_
              refine g_lv (lv' := [(0, vR 300), (1, vI l1), (2, vI l2), (3, vI l3), (4, vI l4), (5, vI l5), (6, vI 0)]) [1, 2, 3, 4, 5, 6, 0] rfl ?_
              exact eX11_sheet_58 hR h
            · replace h := hB hc
              refine g_bipush dX11_sheet_52 (-2) rfl (by decide) ?_
              exact g_iret hR dX11_sheet_54 h
          · replace h := hB hc
            refine g_bipush dX11_sheet_45 (-3) rfl (by decide) ?_
            exact g_iret hR dX11_sheet_47 h
        · replace h := hB hc
          refine g_bipush dX11_sheet_37 (-5) rfl (by decide) ?_
          exact g_iret hR dX11_sheet_39 h
      · replace h := hB hc
        refine g_iconst dX11_sheet_28 (-1) rfl (by decide) ?_
        exact g_iret hR dX11_sheet_29 h
def wX11_line (l1 : Int) (l2 : Int) (σ : Mem) (Q : Int → Mem → Prop) : Prop := (∀ m1 : Mem, m1 = up2 σ 300 5 0 → (wX11_areTwo l1 l2 m1 (fun y3 m2 => ((¬ y3 = 0 → (∀ m4 : Mem, m4 = up2 m2 300 4 0 → (wX11_owes l2 l1 m4 (fun y6 m5 => (wX11_tell y6 m5 (fun m7 => (wX11_room l2 l1 m7 (fun y9 m8 => (wX11_tell y9 m8 (fun m10 => (wX11_heldOf l2 l1 m10 (fun y12 m11 => (wX11_tell y12 m11 (fun m13 => (wX11_limit l1 l2 m13 (fun y15 m14 => Q y15 m14)))))))))))))))) ∧ (y3 = 0 → Q ((-1)) m2)))))
set_option maxHeartbeats 1000000 in
theorem kX11_line {l1 : Int} {l2 : Int} {σ : Mem} {Q : Int → Mem → Prop} (h : wX11_line l1 l2 σ Q) (l : Launch) (D : va_G) (cy : Nat → ClassId) (ad : Nat → Nat) : MI l yX11_line cX11_line 3 (some .int) 3 70 D cy ad [vR 300, vI l1, vI l2] σ Q := by
  refine m_I (own := RX11) (lv := [(0, vR 300), (1, vI l1), (2, vI l2)]) (by decide +kernel) rfl (Nat.le_of_ble_eq_true rfl) rfl (fun E hR => ?_) l D cy ad
  unfold wX11_line at h
  refine g_aload_n dX11_line_0 rfl ?_
  refine g_iconst dX11_line_1 0 rfl (by decide) ?_
  refine g_putI fp_11_68 kd_300 rfl dX11_line_2 ?_
  refine g_nm (fun m1 em1 => ?_)
  replace h := h m1 em1
  refine g_aload_n dX11_line_5 rfl ?_
  refine g_iload_n dX11_line_6 rfl ?_
  refine g_iload_n dX11_line_7 rfl ?_
  refine g_cVi (st := []) (av := [vI l1, vI l2]) (kX11_areTwo h) kd_300 rfl cw_RX11_159 (by decide) (by decide) (Nat.le_of_ble_eq_true rfl) rfl dX11_line_8 (fun y3 m2 h => ?_)
  obtain ⟨hA, hB⟩ := h
  refine g_if_ne (tgt := 16) dX11_line_11 (by decide) (fun hc => ?_) (fun hc => ?_)
  · replace h := hA hc
    refine g_aload_n dX11_line_16 rfl ?_
    refine g_iconst dX11_line_17 0 rfl (by decide) ?_
    refine g_putI fp_11_71 kd_300 rfl dX11_line_18 ?_
    refine g_nm (fun m4 em4 => ?_)
    replace h := h m4 em4
    refine g_aload_n dX11_line_21 rfl ?_
    refine g_aload_n dX11_line_22 rfl ?_
    refine g_iload_n dX11_line_23 rfl ?_
    refine g_iload_n dX11_line_24 rfl ?_
    refine g_cVi (st := [vR 300]) (av := [vI l2, vI l1]) (kX11_owes h) kd_300 rfl cw_RX11_141 (by decide) (by decide) (Nat.le_of_ble_eq_true rfl) rfl dX11_line_25 (fun y6 m5 h => ?_)
    refine g_i2l dX11_line_28 ?_
    refine g_cVv (st := []) (av := [vL y6]) (kX11_tell h) kd_300 rfl cw_RX11_155 (by decide) (by decide) (Nat.le_of_ble_eq_true rfl) rfl dX11_line_29 (fun m7 h => ?_)
    refine g_aload_n dX11_line_32 rfl ?_
    refine g_aload_n dX11_line_33 rfl ?_
    refine g_iload_n dX11_line_34 rfl ?_
    refine g_iload_n dX11_line_35 rfl ?_
    refine g_cVi (st := [vR 300]) (av := [vI l2, vI l1]) (kX11_room h) kd_300 rfl cw_RX11_163 (by decide) (by decide) (Nat.le_of_ble_eq_true rfl) rfl dX11_line_36 (fun y9 m8 h => ?_)
    refine g_i2l dX11_line_39 ?_
    refine g_cVv (st := []) (av := [vL y9]) (kX11_tell h) kd_300 rfl cw_RX11_155 (by decide) (by decide) (Nat.le_of_ble_eq_true rfl) rfl dX11_line_40 (fun m10 h => ?_)
    refine g_aload_n dX11_line_43 rfl ?_
    refine g_aload_n dX11_line_44 rfl ?_
    refine g_iload_n dX11_line_45 rfl ?_
    refine g_iload_n dX11_line_46 rfl ?_
    refine g_cVi (st := [vR 300]) (av := [vI l2, vI l1]) (kX11_heldOf h) kd_300 rfl cw_RX11_98 (by decide) (by decide) (Nat.le_of_ble_eq_true rfl) rfl dX11_line_47 (fun y12 m11 h => ?_)
    refine g_i2l dX11_line_50 ?_
    refine g_cVv (st := []) (av := [vL y12]) (kX11_tell h) kd_300 rfl cw_RX11_155 (by decide) (by decide) (Nat.le_of_ble_eq_true rfl) rfl dX11_line_51 (fun m13 h => ?_)
    refine g_aload_n dX11_line_54 rfl ?_
    refine g_iload_n dX11_line_55 rfl ?_
    refine g_iload_n dX11_line_56 rfl ?_
    refine g_cVi (st := []) (av := [vI l1, vI l2]) (kX11_limit h) kd_300 rfl cw_RX11_95 (by decide) (by decide) (Nat.le_of_ble_eq_true rfl) rfl dX11_line_57 (fun y15 m14 h => ?_)
    exact g_iret hR dX11_line_60 h
  · replace h := hB hc
    refine g_iconst dX11_line_14 (-1) rfl (by decide) ?_
    exact g_iret hR dX11_line_15 h
def wX11_net_22 (K22 : (Int × Int × Int) → Mem → Prop) (Q : Int → Mem → Prop) (l1 : Int) (l2 : Int) (l3 : Int) (σ : Mem) : Prop := ((σ 301 0 ≤ l3 → Q l2 σ) ∧ (¬ σ 301 0 ≤ l3 → (wX11_pair l3 l1 σ (fun y2 m1 => ((0 ≤ w32 (65 + y2) ∧ w32 (65 + y2) < 405) ∧ (∀ x3 : Int, x3 = w32 (l2 + (m1 301 (w32 (65 + y2)).toNat)) → (∀ x4 : Int, x4 = w32 (l3 + 1) → K22 (l1, x3, x4) m1)))))))
def wLX11_net_22 (Q : Int → Mem → Prop) (l1 : Int) (l2 : Int) (l3 : Int) (σ : Mem) : Prop := ∃ n, lp (fun (K22 : (Int × Int × Int) → Mem → Prop) (x : Int × Int × Int) (σ : Mem) => wX11_net_22 K22 Q x.1 x.2.1 x.2.2 σ) n (l1, l2, l3) σ
def wX11_net (l1 : Int) (σ : Mem) (Q : Int → Mem → Prop) : Prop := (∀ m1 : Mem, m1 = up2 σ 300 5 0 → (wX11_isMember l1 m1 (fun y3 m2 => ((¬ y3 = 0 → wLX11_net_22 Q l1 0 0 m2) ∧ (y3 = 0 → (wX11_lost  m2 (fun y5 m4 => Q y5 m4)))))))
set_option maxHeartbeats 1000000 in
theorem bX11_net_22 {E : TE} {K22 : (Int × Int × Int) → Mem → Prop} (hK22 : ∀ (x : Int × Int × Int) (σ : Mem), K22 x σ → GW E cX11_net 4 RX11 2 43 σ 22 [(0, vR 300), (1, vI x.1), (2, vI x.2.1), (3, vI x.2.2)] []) {Q : Int → Mem → Prop} (hR : RI E (some .int) Q) {l1 : Int} {l2 : Int} {l3 : Int} {σ : Mem} (h : wX11_net_22 K22 Q l1 l2 l3 σ) : GW E cX11_net 4 RX11 2 43 σ 22 [(0, vR 300), (1, vI l1), (2, vI l2), (3, vI l3)] [] := by
  unfold wX11_net_22 at h
  refine g_iload_n dX11_net_22 rfl ?_
  refine g_aload_n dX11_net_23 rfl ?_
  refine g_getR (r := 301) fl_11_9 kd_300 rfl dX11_net_24 ?_
  refine g_iconst dX11_net_27 0 rfl (by decide) ?_
  refine g_iald kd_301 (by decide) dX11_net_28 ?_
  obtain ⟨hA, hB⟩ := h
  refine g_icmp_ge (tgt := 54) dX11_net_29 (by decide) (fun hc => ?_) (fun hc => ?_)
  · replace h := hA hc
    refine g_iload_n dX11_net_54 rfl ?_
    exact g_iret hR dX11_net_55 h
  · replace h := hB hc
    refine g_iload_n dX11_net_32 rfl ?_
    refine g_aload_n dX11_net_33 rfl ?_
    refine g_getR (r := 301) fl_11_9 kd_300 rfl dX11_net_34 ?_
    refine g_bipush dX11_net_37 65 rfl (by decide) ?_
    refine g_iload_n dX11_net_39 rfl ?_
    refine g_iload_n dX11_net_40 rfl ?_
    refine g_cSi (st := [vI 65, vR 301, vI l2]) (av := [vI l3, vI l1]) (kX11_pair h) cw_RX11_82 (by decide) (by decide) (Nat.le_of_ble_eq_true rfl) rfl dX11_net_41 (fun y2 m1 h => ?_)
    refine g_iadd dX11_net_44 ?_
    obtain ⟨hin, h⟩ := h
    refine g_iald kd_301 hin dX11_net_45 ?_
    refine g_iadd dX11_net_46 ?_
    refine g_topI (fun x3 ex3 => ?_)
    replace h := h x3 ex3
    refine g_istore_n (lv' := [(2, vI x3), (0, vR 300), (1, vI l1), (3, vI l3)]) dX11_net_47 (by decide) rfl ?_
    refine g_iinc (lv' := [(3, vI (w32 (l3 + 1))), (2, vI x3), (0, vR 300), (1, vI l1)]) dX11_net_48 rfl (by decide) rfl ?_
    refine g_loc (a := w32 (l3 + 1)) (i := 3) (lv := [(2, vI x3), (0, vR 300), (1, vI l1)]) (fun x4 ex4 => ?_)
    replace h := h x4 ex4
    refine g_goto (tgt := 22) dX11_net_51 (by decide) ?_
    refine g_lv (lv' := [(0, vR 300), (1, vI l1), (2, vI x3), (3, vI x4)]) [2, 3, 1, 0] rfl ?_
    exact hK22 ((l1, x3, x4)) m1 h
theorem eX11_net_22 {E : TE} {Q : Int → Mem → Prop} (hR : RI E (some .int) Q) {l1 : Int} {l2 : Int} {l3 : Int} {σ : Mem} (h : wLX11_net_22 Q l1 l2 l3 σ) : GW E cX11_net 4 RX11 2 43 σ 22 [(0, vR 300), (1, vI l1), (2, vI l2), (3, vI l3)] [] := by
  obtain ⟨n, h⟩ := h
  exact lp_GW (P := fun (x : Int × Int × Int) (σ : Mem) => GW E cX11_net 4 RX11 2 43 σ 22 [(0, vR 300), (1, vI x.1), (2, vI x.2.1), (3, vI x.2.2)] []) (fun K hK x σ h  => bX11_net_22 hK hR h) n _ σ h 
set_option maxHeartbeats 1000000 in
theorem kX11_net {l1 : Int} {σ : Mem} {Q : Int → Mem → Prop} (h : wX11_net l1 σ Q) (l : Launch) (D : va_G) (cy : Nat → ClassId) (ad : Nat → Nat) : MI l yX11_net cX11_net 4 (some .int) 2 43 D cy ad [vR 300, vI l1] σ Q := by
  refine m_I (own := RX11) (lv := [(0, vR 300), (1, vI l1)]) (by decide +kernel) rfl (Nat.le_of_ble_eq_true rfl) rfl (fun E hR => ?_) l D cy ad
  unfold wX11_net at h
  refine g_aload_n dX11_net_0 rfl ?_
  refine g_iconst dX11_net_1 0 rfl (by decide) ?_
  refine g_putI fp_11_68 kd_300 rfl dX11_net_2 ?_
  refine g_nm (fun m1 em1 => ?_)
  replace h := h m1 em1
  refine g_aload_n dX11_net_5 rfl ?_
  refine g_iload_n dX11_net_6 rfl ?_
  refine g_cVi (st := []) (av := [vI l1]) (kX11_isMember h) kd_300 rfl cw_RX11_78 (by decide) (by decide) (Nat.le_of_ble_eq_true rfl) rfl dX11_net_7 (fun y3 m2 h => ?_)
  obtain ⟨hA, hB⟩ := h
  refine g_if_ne (tgt := 18) dX11_net_10 (by decide) (fun hc => ?_) (fun hc => ?_)
  · replace h := hA hc
    refine g_iconst dX11_net_18 0 rfl (by decide) ?_
    refine g_istore_n (lv' := [(2, vI 0), (0, vR 300), (1, vI l1)]) dX11_net_19 (by decide) rfl ?_
    refine g_iconst dX11_net_20 0 rfl (by decide) ?_
    refine g_istore_n (lv' := [(3, vI 0), (2, vI 0), (0, vR 300), (1, vI l1)]) dX11_net_21 (by decide) rfl ?_
    refine g_lv (lv' := [(0, vR 300), (1, vI l1), (2, vI 0), (3, vI 0)]) [2, 3, 1, 0] rfl ?_
    exact eX11_net_22 hR h
  · replace h := hB hc
    refine g_aload_n dX11_net_13 rfl ?_
    refine g_cVi (st := []) (av := []) (kX11_lost h) kd_300 rfl cw_RX11_166 (by decide) (by decide) (Nat.le_of_ble_eq_true rfl) rfl dX11_net_14 (fun y5 m4 h => ?_)
    exact g_iret hR dX11_net_17 h
def wX11_owesAll_4 (K4 : (Int × Int × Int) → Mem → Prop) (Q : Int → Mem → Prop) (l1 : Int) (l2 : Int) (l3 : Int) (σ : Mem) : Prop := ((σ 301 0 ≤ l3 → Q l2 σ) ∧ (¬ σ 301 0 ≤ l3 → (wX11_owes l1 l3 σ (fun y2 m1 => (∀ x3 : Int, x3 = w32 (l2 + y2) → (∀ x4 : Int, x4 = w32 (l3 + 1) → K4 (l1, x3, x4) m1))))))
def wLX11_owesAll_4 (Q : Int → Mem → Prop) (l1 : Int) (l2 : Int) (l3 : Int) (σ : Mem) : Prop := ∃ n, lp (fun (K4 : (Int × Int × Int) → Mem → Prop) (x : Int × Int × Int) (σ : Mem) => wX11_owesAll_4 K4 Q x.1 x.2.1 x.2.2 σ) n (l1, l2, l3) σ
def wX11_owesAll (l1 : Int) (σ : Mem) (Q : Int → Mem → Prop) : Prop := wLX11_owesAll_4 Q l1 0 0 σ
set_option maxHeartbeats 1000000 in
theorem bX11_owesAll_4 {E : TE} {K4 : (Int × Int × Int) → Mem → Prop} (hK4 : ∀ (x : Int × Int × Int) (σ : Mem), K4 x σ → GW E cX11_owesAll 4 RX11 2 46 σ 4 [(0, vR 300), (1, vI x.1), (2, vI x.2.1), (3, vI x.2.2)] []) {Q : Int → Mem → Prop} (hR : RI E (some .int) Q) {l1 : Int} {l2 : Int} {l3 : Int} {σ : Mem} (h : wX11_owesAll_4 K4 Q l1 l2 l3 σ) : GW E cX11_owesAll 4 RX11 2 46 σ 4 [(0, vR 300), (1, vI l1), (2, vI l2), (3, vI l3)] [] := by
  unfold wX11_owesAll_4 at h
  refine g_iload_n dX11_owesAll_4 rfl ?_
  refine g_aload_n dX11_owesAll_5 rfl ?_
  refine g_getR (r := 301) fl_11_9 kd_300 rfl dX11_owesAll_6 ?_
  refine g_iconst dX11_owesAll_9 0 rfl (by decide) ?_
  refine g_iald kd_301 (by decide) dX11_owesAll_10 ?_
  obtain ⟨hA, hB⟩ := h
  refine g_icmp_ge (tgt := 29) dX11_owesAll_11 (by decide) (fun hc => ?_) (fun hc => ?_)
  · replace h := hA hc
    refine g_iload_n dX11_owesAll_29 rfl ?_
    exact g_iret hR dX11_owesAll_30 h
  · replace h := hB hc
    refine g_iload_n dX11_owesAll_14 rfl ?_
    refine g_aload_n dX11_owesAll_15 rfl ?_
    refine g_iload_n dX11_owesAll_16 rfl ?_
    refine g_iload_n dX11_owesAll_17 rfl ?_
    refine g_cVi (st := [vI l2]) (av := [vI l1, vI l3]) (kX11_owes h) kd_300 rfl cw_RX11_141 (by decide) (by decide) (Nat.le_of_ble_eq_true rfl) rfl dX11_owesAll_18 (fun y2 m1 h => ?_)
    refine g_iadd dX11_owesAll_21 ?_
    refine g_topI (fun x3 ex3 => ?_)
    replace h := h x3 ex3
    refine g_istore_n (lv' := [(2, vI x3), (0, vR 300), (1, vI l1), (3, vI l3)]) dX11_owesAll_22 (by decide) rfl ?_
    refine g_iinc (lv' := [(3, vI (w32 (l3 + 1))), (2, vI x3), (0, vR 300), (1, vI l1)]) dX11_owesAll_23 rfl (by decide) rfl ?_
    refine g_loc (a := w32 (l3 + 1)) (i := 3) (lv := [(2, vI x3), (0, vR 300), (1, vI l1)]) (fun x4 ex4 => ?_)
    replace h := h x4 ex4
    refine g_goto (tgt := 4) dX11_owesAll_26 (by decide) ?_
    refine g_lv (lv' := [(0, vR 300), (1, vI l1), (2, vI x3), (3, vI x4)]) [2, 3, 1, 0] rfl ?_
    exact hK4 ((l1, x3, x4)) m1 h
theorem eX11_owesAll_4 {E : TE} {Q : Int → Mem → Prop} (hR : RI E (some .int) Q) {l1 : Int} {l2 : Int} {l3 : Int} {σ : Mem} (h : wLX11_owesAll_4 Q l1 l2 l3 σ) : GW E cX11_owesAll 4 RX11 2 46 σ 4 [(0, vR 300), (1, vI l1), (2, vI l2), (3, vI l3)] [] := by
  obtain ⟨n, h⟩ := h
  exact lp_GW (P := fun (x : Int × Int × Int) (σ : Mem) => GW E cX11_owesAll 4 RX11 2 46 σ 4 [(0, vR 300), (1, vI x.1), (2, vI x.2.1), (3, vI x.2.2)] []) (fun K hK x σ h  => bX11_owesAll_4 hK hR h) n _ σ h 
set_option maxHeartbeats 1000000 in
theorem kX11_owesAll {l1 : Int} {σ : Mem} {Q : Int → Mem → Prop} (h : wX11_owesAll l1 σ Q) (l : Launch) (D : va_G) (cy : Nat → ClassId) (ad : Nat → Nat) : MI l yX11_owesAll cX11_owesAll 4 (some .int) 2 46 D cy ad [vR 300, vI l1] σ Q := by
  refine m_I (own := RX11) (lv := [(0, vR 300), (1, vI l1)]) (by decide +kernel) rfl (Nat.le_of_ble_eq_true rfl) rfl (fun E hR => ?_) l D cy ad
  unfold wX11_owesAll at h
  refine g_iconst dX11_owesAll_0 0 rfl (by decide) ?_
  refine g_istore_n (lv' := [(2, vI 0), (0, vR 300), (1, vI l1)]) dX11_owesAll_1 (by decide) rfl ?_
  refine g_iconst dX11_owesAll_2 0 rfl (by decide) ?_
  refine g_istore_n (lv' := [(3, vI 0), (2, vI 0), (0, vR 300), (1, vI l1)]) dX11_owesAll_3 (by decide) rfl ?_
  refine g_lv (lv' := [(0, vR 300), (1, vI l1), (2, vI 0), (3, vI 0)]) [2, 3, 1, 0] rfl ?_
  exact eX11_owesAll_4 hR h
def wX11_allDebts_4 (K4 : (Int × Int) → Mem → Prop) (Q : Int → Mem → Prop) (l1 : Int) (l2 : Int) (σ : Mem) : Prop := ((σ 301 0 ≤ l2 → Q l1 σ) ∧ (¬ σ 301 0 ≤ l2 → (wX11_owesAll l2 σ (fun y2 m1 => (∀ x3 : Int, x3 = w32 (l1 + y2) → (∀ x4 : Int, x4 = w32 (l2 + 1) → K4 (x3, x4) m1))))))
def wLX11_allDebts_4 (Q : Int → Mem → Prop) (l1 : Int) (l2 : Int) (σ : Mem) : Prop := ∃ n, lp (fun (K4 : (Int × Int) → Mem → Prop) (x : Int × Int) (σ : Mem) => wX11_allDebts_4 K4 Q x.1 x.2 σ) n (l1, l2) σ
def wX11_allDebts (σ : Mem) (Q : Int → Mem → Prop) : Prop := wLX11_allDebts_4 Q 0 0 σ
set_option maxHeartbeats 1000000 in
theorem bX11_allDebts_4 {E : TE} {K4 : (Int × Int) → Mem → Prop} (hK4 : ∀ (x : Int × Int) (σ : Mem), K4 x σ → GW E cX11_allDebts 3 RX11 3 69 σ 4 [(0, vR 300), (1, vI x.1), (2, vI x.2)] []) {Q : Int → Mem → Prop} (hR : RI E (some .int) Q) {l1 : Int} {l2 : Int} {σ : Mem} (h : wX11_allDebts_4 K4 Q l1 l2 σ) : GW E cX11_allDebts 3 RX11 3 69 σ 4 [(0, vR 300), (1, vI l1), (2, vI l2)] [] := by
  unfold wX11_allDebts_4 at h
  refine g_iload_n dX11_allDebts_4 rfl ?_
  refine g_aload_n dX11_allDebts_5 rfl ?_
  refine g_getR (r := 301) fl_11_9 kd_300 rfl dX11_allDebts_6 ?_
  refine g_iconst dX11_allDebts_9 0 rfl (by decide) ?_
  refine g_iald kd_301 (by decide) dX11_allDebts_10 ?_
  obtain ⟨hA, hB⟩ := h
  refine g_icmp_ge (tgt := 28) dX11_allDebts_11 (by decide) (fun hc => ?_) (fun hc => ?_)
  · replace h := hA hc
    refine g_iload_n dX11_allDebts_28 rfl ?_
    exact g_iret hR dX11_allDebts_29 h
  · replace h := hB hc
    refine g_iload_n dX11_allDebts_14 rfl ?_
    refine g_aload_n dX11_allDebts_15 rfl ?_
    refine g_iload_n dX11_allDebts_16 rfl ?_
    refine g_cVi (st := [vI l1]) (av := [vI l2]) (kX11_owesAll h) kd_300 rfl cw_RX11_169 (by decide) (by decide) (Nat.le_of_ble_eq_true rfl) rfl dX11_allDebts_17 (fun y2 m1 h => ?_)
    refine g_iadd dX11_allDebts_20 ?_
    refine g_topI (fun x3 ex3 => ?_)
    replace h := h x3 ex3
    refine g_istore_n (lv' := [(1, vI x3), (0, vR 300), (2, vI l2)]) dX11_allDebts_21 (by decide) rfl ?_
    refine g_iinc (lv' := [(2, vI (w32 (l2 + 1))), (1, vI x3), (0, vR 300)]) dX11_allDebts_22 rfl (by decide) rfl ?_
    refine g_loc (a := w32 (l2 + 1)) (i := 2) (lv := [(1, vI x3), (0, vR 300)]) (fun x4 ex4 => ?_)
    replace h := h x4 ex4
    refine g_goto (tgt := 4) dX11_allDebts_25 (by decide) ?_
    refine g_lv (lv' := [(0, vR 300), (1, vI x3), (2, vI x4)]) [2, 1, 0] rfl ?_
    exact hK4 ((x3, x4)) m1 h
theorem eX11_allDebts_4 {E : TE} {Q : Int → Mem → Prop} (hR : RI E (some .int) Q) {l1 : Int} {l2 : Int} {σ : Mem} (h : wLX11_allDebts_4 Q l1 l2 σ) : GW E cX11_allDebts 3 RX11 3 69 σ 4 [(0, vR 300), (1, vI l1), (2, vI l2)] [] := by
  obtain ⟨n, h⟩ := h
  exact lp_GW (P := fun (x : Int × Int) (σ : Mem) => GW E cX11_allDebts 3 RX11 3 69 σ 4 [(0, vR 300), (1, vI x.1), (2, vI x.2)] []) (fun K hK x σ h  => bX11_allDebts_4 hK hR h) n _ σ h 
set_option maxHeartbeats 1000000 in
theorem kX11_allDebts {σ : Mem} {Q : Int → Mem → Prop} (h : wX11_allDebts σ Q) (l : Launch) (D : va_G) (cy : Nat → ClassId) (ad : Nat → Nat) : MI l yX11_allDebts cX11_allDebts 3 (some .int) 3 69 D cy ad [vR 300] σ Q := by
  refine m_I (own := RX11) (lv := [(0, vR 300)]) (by decide +kernel) rfl (Nat.le_of_ble_eq_true rfl) rfl (fun E hR => ?_) l D cy ad
  unfold wX11_allDebts at h
  refine g_iconst dX11_allDebts_0 0 rfl (by decide) ?_
  refine g_istore_n (lv' := [(1, vI 0), (0, vR 300)]) dX11_allDebts_1 (by decide) rfl ?_
  refine g_iconst dX11_allDebts_2 0 rfl (by decide) ?_
  refine g_istore_n (lv' := [(2, vI 0), (1, vI 0), (0, vR 300)]) dX11_allDebts_3 (by decide) rfl ?_
  refine g_lv (lv' := [(0, vR 300), (1, vI 0), (2, vI 0)]) [2, 1, 0] rfl ?_
  exact eX11_allDebts_4 hR h
def wX11_debts_51 (K11 : (Int × Int × Int) → Mem → Prop) (K24 : (Int × Int × Int × Int) → Mem → Prop) (Q : Int → Mem → Prop) (l2 : Int) (l3 : Int) (l4 : Int) (s0 : Int) (s1 : Int) (σ : Mem) : Prop := (∀ x1 : Int, x1 = w32 (s1 + s0) → (∀ x2 : Int, x2 = w32 (l4 + 1) → K24 (x1, l2, l3, x2) σ))
def wX11_debts_78 (K11 : (Int × Int × Int) → Mem → Prop) (Q : Int → Mem → Prop) (l1 : Int) (l2 : Int) (l3 : Int) (s0 : Int) (s1 : Int) (σ : Mem) : Prop := ((s1 ≤ s0 → (∀ x1 : Int, x1 = w32 (l3 + 1) → K11 (l1, l2, x1) σ)) ∧ (¬ s1 ≤ s0 → (∀ x2 : Int, x2 = w32 (l3 + 1) → K11 (l1, l3, x2) σ)))
def wX11_debts_24 (K11 : (Int × Int × Int) → Mem → Prop) (K24 : (Int × Int × Int × Int) → Mem → Prop) (Q : Int → Mem → Prop) (l1 : Int) (l2 : Int) (l3 : Int) (l4 : Int) (σ : Mem) : Prop := ((σ 301 0 ≤ l4 → (wX11_owesAll l3 σ (fun y2 m1 => ((¬ l2 = (-1) → (wX11_owesAll l2 m1 (fun y4 m3 => wX11_debts_78 K11 Q l1 l2 l3 y4 y2 m3))) ∧ (l2 = (-1) → wX11_debts_78 K11 Q l1 l2 l3 0 y2 m1))))) ∧ (¬ σ 301 0 ≤ l4 → (wX11_owes l3 l4 σ (fun y6 m5 => ((y6 ≤ 0 → wX11_debts_51 K11 K24 Q l2 l3 l4 0 l1 m5) ∧ (¬ y6 ≤ 0 → wX11_debts_51 K11 K24 Q l2 l3 l4 1 l1 m5))))))
def wLX11_debts_24 (K11 : (Int × Int × Int) → Mem → Prop) (Q : Int → Mem → Prop) (l1 : Int) (l2 : Int) (l3 : Int) (l4 : Int) (σ : Mem) : Prop := ∃ n, lp (fun (K24 : (Int × Int × Int × Int) → Mem → Prop) (x : Int × Int × Int × Int) (σ : Mem) => wX11_debts_24 K11 K24 Q x.1 x.2.1 x.2.2.1 x.2.2.2 σ) n (l1, l2, l3, l4) σ
def wX11_debts_122 (Q : Int → Mem → Prop) (s0 : Int) (σ : Mem) : Prop := (wX11_tell s0 σ (fun m1 => (wX11_allDebts  m1 (fun y3 m2 => Q y3 m2))))
def wX11_debts_11 (K11 : (Int × Int × Int) → Mem → Prop) (Q : Int → Mem → Prop) (l1 : Int) (l2 : Int) (l3 : Int) (σ : Mem) : Prop := ((σ 301 0 ≤ l3 → (∀ m1 : Mem, m1 = up2 σ 300 4 0 → (wX11_tell l1 m1 (fun m2 => (wX11_tell l2 m2 (fun m3 => ((¬ l2 = (-1) → (wX11_owesAll l2 m3 (fun y5 m4 => wX11_debts_122 Q y5 m4))) ∧ (l2 = (-1) → wX11_debts_122 Q 0 m3)))))))) ∧ (¬ σ 301 0 ≤ l3 → wLX11_debts_24 K11 Q l1 l2 l3 0 σ))
def wLX11_debts_11 (Q : Int → Mem → Prop) (l1 : Int) (l2 : Int) (l3 : Int) (σ : Mem) : Prop := ∃ n, lp (fun (K11 : (Int × Int × Int) → Mem → Prop) (x : Int × Int × Int) (σ : Mem) => wX11_debts_11 K11 Q x.1 x.2.1 x.2.2 σ) n (l1, l2, l3) σ
def wX11_debts (σ : Mem) (Q : Int → Mem → Prop) : Prop := (∀ m1 : Mem, m1 = up2 σ 300 5 0 → wLX11_debts_11 Q 0 ((-1)) 0 m1)
set_option maxHeartbeats 1000000 in
theorem bX11_debts_51 {E : TE} {K11 : (Int × Int × Int) → Mem → Prop} {K24 : (Int × Int × Int × Int) → Mem → Prop} (hK11 : ∀ (x : Int × Int × Int) (σ : Mem), K11 x σ → GW E cX11_debts 5 RX11 4 91 σ 11 [(0, vR 300), (1, vI x.1), (2, vI x.2.1), (3, vI x.2.2)] []) (hK24 : ∀ (x : Int × Int × Int × Int) (σ : Mem), K24 x σ → GW E cX11_debts 5 RX11 4 91 σ 24 [(0, vR 300), (1, vI x.1), (2, vI x.2.1), (3, vI x.2.2.1), (4, vI x.2.2.2)] []) {Q : Int → Mem → Prop} (hR : RI E (some .int) Q) {l2 : Int} {l3 : Int} {l4 : Int} {s0 : Int} {s1 : Int} {σ : Mem} (h : wX11_debts_51 K11 K24 Q l2 l3 l4 s0 s1 σ) : GW E cX11_debts 5 RX11 4 91 σ 51 [(0, vR 300), (2, vI l2), (3, vI l3), (4, vI l4)] [vI s0, vI s1] := by
  unfold wX11_debts_51 at h
  refine g_iadd dX11_debts_51 ?_
  refine g_topI (fun x1 ex1 => ?_)
  replace h := h x1 ex1
  refine g_istore_n (lv' := [(1, vI x1), (0, vR 300), (2, vI l2), (3, vI l3), (4, vI l4)]) dX11_debts_52 (by decide) rfl ?_
  refine g_iinc (lv' := [(4, vI (w32 (l4 + 1))), (1, vI x1), (0, vR 300), (2, vI l2), (3, vI l3)]) dX11_debts_53 rfl (by decide) rfl ?_
  refine g_loc (a := w32 (l4 + 1)) (i := 4) (lv := [(1, vI x1), (0, vR 300), (2, vI l2), (3, vI l3)]) (fun x2 ex2 => ?_)
  replace h := h x2 ex2
  refine g_goto (tgt := 24) dX11_debts_56 (by decide) ?_
  refine g_lv (lv' := [(0, vR 300), (1, vI x1), (2, vI l2), (3, vI l3), (4, vI x2)]) [2, 1, 3, 4, 0] rfl ?_
  exact hK24 ((x1, l2, l3, x2)) σ h
set_option maxHeartbeats 1000000 in
theorem bX11_debts_78 {E : TE} {K11 : (Int × Int × Int) → Mem → Prop} (hK11 : ∀ (x : Int × Int × Int) (σ : Mem), K11 x σ → GW E cX11_debts 5 RX11 4 91 σ 11 [(0, vR 300), (1, vI x.1), (2, vI x.2.1), (3, vI x.2.2)] []) {Q : Int → Mem → Prop} (hR : RI E (some .int) Q) {l1 : Int} {l2 : Int} {l3 : Int} {s0 : Int} {s1 : Int} {σ : Mem} (h : wX11_debts_78 K11 Q l1 l2 l3 s0 s1 σ) : GW E cX11_debts 5 RX11 4 91 σ 78 [(0, vR 300), (1, vI l1), (2, vI l2), (3, vI l3)] [vI s0, vI s1] := by
  unfold wX11_debts_78 at h
  obtain ⟨hA, hB⟩ := h
  refine g_icmp_le (tgt := 83) dX11_debts_78 (by decide) (fun hc => ?_) (fun hc => ?_)
  · replace h := hA hc
    refine g_iinc (lv' := [(3, vI (w32 (l3 + 1))), (0, vR 300), (1, vI l1), (2, vI l2)]) dX11_debts_83 rfl (by decide) rfl ?_
    refine g_loc (a := w32 (l3 + 1)) (i := 3) (lv := [(0, vR 300), (1, vI l1), (2, vI l2)]) (fun x1 ex1 => ?_)
    replace h := h x1 ex1
    refine g_goto (tgt := 11) dX11_debts_86 (by decide) ?_
    refine g_lv (lv' := [(0, vR 300), (1, vI l1), (2, vI l2), (3, vI x1)]) [1, 2, 3, 0] rfl ?_
    exact hK11 ((l1, l2, x1)) σ h
  · replace h := hB hc
    refine g_iload_n dX11_debts_81 rfl ?_
    refine g_istore_n (lv' := [(2, vI l3), (0, vR 300), (1, vI l1), (3, vI l3)]) dX11_debts_82 (by decide) rfl ?_
    refine g_iinc (lv' := [(3, vI (w32 (l3 + 1))), (2, vI l3), (0, vR 300), (1, vI l1)]) dX11_debts_83 rfl (by decide) rfl ?_
    refine g_loc (a := w32 (l3 + 1)) (i := 3) (lv := [(2, vI l3), (0, vR 300), (1, vI l1)]) (fun x2 ex2 => ?_)
    replace h := h x2 ex2
    refine g_goto (tgt := 11) dX11_debts_86 (by decide) ?_
    refine g_lv (lv' := [(0, vR 300), (1, vI l1), (2, vI l3), (3, vI x2)]) [2, 3, 1, 0] rfl ?_
    exact hK11 ((l1, l3, x2)) σ h
set_option maxHeartbeats 1000000 in
theorem bX11_debts_24 {E : TE} {K11 : (Int × Int × Int) → Mem → Prop} {K24 : (Int × Int × Int × Int) → Mem → Prop} (hK11 : ∀ (x : Int × Int × Int) (σ : Mem), K11 x σ → GW E cX11_debts 5 RX11 4 91 σ 11 [(0, vR 300), (1, vI x.1), (2, vI x.2.1), (3, vI x.2.2)] []) (hK24 : ∀ (x : Int × Int × Int × Int) (σ : Mem), K24 x σ → GW E cX11_debts 5 RX11 4 91 σ 24 [(0, vR 300), (1, vI x.1), (2, vI x.2.1), (3, vI x.2.2.1), (4, vI x.2.2.2)] []) {Q : Int → Mem → Prop} (hR : RI E (some .int) Q) {l1 : Int} {l2 : Int} {l3 : Int} {l4 : Int} {σ : Mem} (h : wX11_debts_24 K11 K24 Q l1 l2 l3 l4 σ) : GW E cX11_debts 5 RX11 4 91 σ 24 [(0, vR 300), (1, vI l1), (2, vI l2), (3, vI l3), (4, vI l4)] [] := by
  unfold wX11_debts_24 at h
  refine g_iload dX11_debts_24 rfl ?_
  refine g_aload_n dX11_debts_26 rfl ?_
  refine g_getR (r := 301) fl_11_9 kd_300 rfl dX11_debts_27 ?_
  refine g_iconst dX11_debts_30 0 rfl (by decide) ?_
  refine g_iald kd_301 (by decide) dX11_debts_31 ?_
  obtain ⟨hA, hB⟩ := h
  refine g_icmp_ge (tgt := 59) dX11_debts_32 (by decide) (fun hc => ?_) (fun hc => ?_)
  · replace h := hA hc
    refine g_aload_n dX11_debts_59 rfl ?_
    refine g_iload_n dX11_debts_60 rfl ?_
    refine g_cVi (st := []) (av := [vI l3]) (kX11_owesAll h) kd_300 rfl cw_RX11_169 (by decide) (by decide) (Nat.le_of_ble_eq_true rfl) rfl dX11_debts_61 (fun y2 m1 h => ?_)
    refine g_iload_n dX11_debts_64 rfl ?_
    refine g_iconst dX11_debts_65 (-1) rfl (by decide) ?_
    obtain ⟨hA, hB⟩ := h
    refine g_icmp_ne (tgt := 73) dX11_debts_66 (by decide) (fun hc => ?_) (fun hc => ?_)
    · replace h := hA hc
      refine g_aload_n dX11_debts_73 rfl ?_
      refine g_iload_n dX11_debts_74 rfl ?_
      refine g_cVi (st := [vI y2]) (av := [vI l2]) (kX11_owesAll h) kd_300 rfl cw_RX11_169 (by decide) (by decide) (Nat.le_of_ble_eq_true rfl) rfl dX11_debts_75 (fun y4 m3 h => ?_)
      refine g_lv (lv' := [(0, vR 300), (1, vI l1), (2, vI l2), (3, vI l3)]) [0, 1, 2, 3] rfl ?_
      exact bX11_debts_78 hK11 hR h
    · replace h := hB hc
      refine g_iconst dX11_debts_69 0 rfl (by decide) ?_
      refine g_goto (tgt := 78) dX11_debts_70 (by decide) ?_
      refine g_lv (lv' := [(0, vR 300), (1, vI l1), (2, vI l2), (3, vI l3)]) [0, 1, 2, 3] rfl ?_
      exact bX11_debts_78 hK11 hR h
  · replace h := hB hc
    refine g_iload_n dX11_debts_35 rfl ?_
    refine g_aload_n dX11_debts_36 rfl ?_
    refine g_iload_n dX11_debts_37 rfl ?_
    refine g_iload dX11_debts_38 rfl ?_
    refine g_cVi (st := [vI l1]) (av := [vI l3, vI l4]) (kX11_owes h) kd_300 rfl cw_RX11_141 (by decide) (by decide) (Nat.le_of_ble_eq_true rfl) rfl dX11_debts_40 (fun y6 m5 h => ?_)
    obtain ⟨hA, hB⟩ := h
    refine g_if_le (tgt := 50) dX11_debts_43 (by decide) (fun hc => ?_) (fun hc => ?_)
    · replace h := hA hc
      refine g_iconst dX11_debts_50 0 rfl (by decide) ?_
      refine g_lv (lv' := [(0, vR 300), (2, vI l2), (3, vI l3), (4, vI l4)]) [0, 2, 3, 4] rfl ?_
      exact bX11_debts_51 hK11 hK24 hR h
    · replace h := hB hc
      refine g_iconst dX11_debts_46 1 rfl (by decide) ?_
      refine g_goto (tgt := 51) dX11_debts_47 (by decide) ?_
      refine g_lv (lv' := [(0, vR 300), (2, vI l2), (3, vI l3), (4, vI l4)]) [0, 2, 3, 4] rfl ?_
      exact bX11_debts_51 hK11 hK24 hR h
theorem eX11_debts_24 {E : TE} {K11 : (Int × Int × Int) → Mem → Prop} (hK11 : ∀ (x : Int × Int × Int) (σ : Mem), K11 x σ → GW E cX11_debts 5 RX11 4 91 σ 11 [(0, vR 300), (1, vI x.1), (2, vI x.2.1), (3, vI x.2.2)] []) {Q : Int → Mem → Prop} (hR : RI E (some .int) Q) {l1 : Int} {l2 : Int} {l3 : Int} {l4 : Int} {σ : Mem} (h : wLX11_debts_24 K11 Q l1 l2 l3 l4 σ) : GW E cX11_debts 5 RX11 4 91 σ 24 [(0, vR 300), (1, vI l1), (2, vI l2), (3, vI l3), (4, vI l4)] [] := by
  obtain ⟨n, h⟩ := h
  exact lp_GW (P := fun (x : Int × Int × Int × Int) (σ : Mem) => GW E cX11_debts 5 RX11 4 91 σ 24 [(0, vR 300), (1, vI x.1), (2, vI x.2.1), (3, vI x.2.2.1), (4, vI x.2.2.2)] []) (fun K hK x σ h  => bX11_debts_24 hK11 hK hR h) n _ σ h 
set_option maxHeartbeats 1000000 in
theorem bX11_debts_122 {E : TE} {Q : Int → Mem → Prop} (hR : RI E (some .int) Q) {s0 : Int} {σ : Mem} (h : wX11_debts_122 Q s0 σ) : GW E cX11_debts 5 RX11 4 91 σ 122 [(0, vR 300)] [vL s0, vR 300] := by
  unfold wX11_debts_122 at h
  refine g_cVv (st := []) (av := [vL s0]) (kX11_tell h) kd_300 rfl cw_RX11_155 (by decide) (by decide) (Nat.le_of_ble_eq_true rfl) rfl dX11_debts_122 (fun m1 h => ?_)
  refine g_aload_n dX11_debts_125 rfl ?_
  refine g_cVi (st := []) (av := []) (kX11_allDebts h) kd_300 rfl cw_RX11_172 (by decide) (by decide) (Nat.le_of_ble_eq_true rfl) rfl dX11_debts_126 (fun y3 m2 h => ?_)
  exact g_iret hR dX11_debts_129 h
set_option maxHeartbeats 1000000 in
theorem bX11_debts_11 {E : TE} {K11 : (Int × Int × Int) → Mem → Prop} (hK11 : ∀ (x : Int × Int × Int) (σ : Mem), K11 x σ → GW E cX11_debts 5 RX11 4 91 σ 11 [(0, vR 300), (1, vI x.1), (2, vI x.2.1), (3, vI x.2.2)] []) {Q : Int → Mem → Prop} (hR : RI E (some .int) Q) {l1 : Int} {l2 : Int} {l3 : Int} {σ : Mem} (h : wX11_debts_11 K11 Q l1 l2 l3 σ) : GW E cX11_debts 5 RX11 4 91 σ 11 [(0, vR 300), (1, vI l1), (2, vI l2), (3, vI l3)] [] := by
  unfold wX11_debts_11 at h
  refine g_iload_n dX11_debts_11 rfl ?_
  refine g_aload_n dX11_debts_12 rfl ?_
  refine g_getR (r := 301) fl_11_9 kd_300 rfl dX11_debts_13 ?_
  refine g_iconst dX11_debts_16 0 rfl (by decide) ?_
  refine g_iald kd_301 (by decide) dX11_debts_17 ?_
  obtain ⟨hA, hB⟩ := h
  refine g_icmp_ge (tgt := 89) dX11_debts_18 (by decide) (fun hc => ?_) (fun hc => ?_)
  · replace h := hA hc
    refine g_aload_n dX11_debts_89 rfl ?_
    refine g_iconst dX11_debts_90 0 rfl (by decide) ?_
    refine g_putI fp_11_71 kd_300 rfl dX11_debts_91 ?_
    refine g_nm (fun m1 em1 => ?_)
    replace h := h m1 em1
    refine g_aload_n dX11_debts_94 rfl ?_
    refine g_iload_n dX11_debts_95 rfl ?_
    refine g_i2l dX11_debts_96 ?_
    refine g_cVv (st := []) (av := [vL l1]) (kX11_tell h) kd_300 rfl cw_RX11_155 (by decide) (by decide) (Nat.le_of_ble_eq_true rfl) rfl dX11_debts_97 (fun m2 h => ?_)
    refine g_aload_n dX11_debts_100 rfl ?_
    refine g_iload_n dX11_debts_101 rfl ?_
    refine g_i2l dX11_debts_102 ?_
    refine g_cVv (st := []) (av := [vL l2]) (kX11_tell h) kd_300 rfl cw_RX11_155 (by decide) (by decide) (Nat.le_of_ble_eq_true rfl) rfl dX11_debts_103 (fun m3 h => ?_)
    refine g_aload_n dX11_debts_106 rfl ?_
    refine g_iload_n dX11_debts_107 rfl ?_
    refine g_iconst dX11_debts_108 (-1) rfl (by decide) ?_
    obtain ⟨hA, hB⟩ := h
    refine g_icmp_ne (tgt := 116) dX11_debts_109 (by decide) (fun hc => ?_) (fun hc => ?_)
    · replace h := hA hc
      refine g_aload_n dX11_debts_116 rfl ?_
      refine g_iload_n dX11_debts_117 rfl ?_
      refine g_cVi (st := [vR 300]) (av := [vI l2]) (kX11_owesAll h) kd_300 rfl cw_RX11_169 (by decide) (by decide) (Nat.le_of_ble_eq_true rfl) rfl dX11_debts_118 (fun y5 m4 h => ?_)
      refine g_i2l dX11_debts_121 ?_
      refine g_lv (lv' := [(0, vR 300)]) [0] rfl ?_
      exact bX11_debts_122 hR h
    · replace h := hB hc
      refine g_lconst dX11_debts_112 0 rfl (by decide) ?_
      refine g_goto (tgt := 122) dX11_debts_113 (by decide) ?_
      refine g_lv (lv' := [(0, vR 300)]) [0] rfl ?_
      exact bX11_debts_122 hR h
  · replace h := hB hc
    refine g_iconst dX11_debts_21 0 rfl (by decide) ?_
    refine g_istore (lv' := [(4, vI 0), (0, vR 300), (1, vI l1), (2, vI l2), (3, vI l3)]) dX11_debts_22 (by decide) rfl ?_
    refine g_lv (lv' := [(0, vR 300), (1, vI l1), (2, vI l2), (3, vI l3), (4, vI 0)]) [1, 2, 3, 4, 0] rfl ?_
    exact eX11_debts_24 hK11 hR h
theorem eX11_debts_11 {E : TE} {Q : Int → Mem → Prop} (hR : RI E (some .int) Q) {l1 : Int} {l2 : Int} {l3 : Int} {σ : Mem} (h : wLX11_debts_11 Q l1 l2 l3 σ) : GW E cX11_debts 5 RX11 4 91 σ 11 [(0, vR 300), (1, vI l1), (2, vI l2), (3, vI l3)] [] := by
  obtain ⟨n, h⟩ := h
  exact lp_GW (P := fun (x : Int × Int × Int) (σ : Mem) => GW E cX11_debts 5 RX11 4 91 σ 11 [(0, vR 300), (1, vI x.1), (2, vI x.2.1), (3, vI x.2.2)] []) (fun K hK x σ h  => bX11_debts_11 hK hR h) n _ σ h 
set_option maxHeartbeats 1000000 in
theorem kX11_debts {σ : Mem} {Q : Int → Mem → Prop} (h : wX11_debts σ Q) (l : Launch) (D : va_G) (cy : Nat → ClassId) (ad : Nat → Nat) : MI l yX11_debts cX11_debts 5 (some .int) 4 91 D cy ad [vR 300] σ Q := by
  refine m_I (own := RX11) (lv := [(0, vR 300)]) (by decide +kernel) rfl (Nat.le_of_ble_eq_true rfl) rfl (fun E hR => ?_) l D cy ad
  unfold wX11_debts at h
  refine g_aload_n dX11_debts_0 rfl ?_
  refine g_iconst dX11_debts_1 0 rfl (by decide) ?_
  refine g_putI fp_11_68 kd_300 rfl dX11_debts_2 ?_
  refine g_nm (fun m1 em1 => ?_)
  replace h := h m1 em1
  refine g_iconst dX11_debts_5 0 rfl (by decide) ?_
  refine g_istore_n (lv' := [(1, vI 0), (0, vR 300)]) dX11_debts_6 (by decide) rfl ?_
  refine g_iconst dX11_debts_7 (-1) rfl (by decide) ?_
  refine g_istore_n (lv' := [(2, vI ((-1))), (1, vI 0), (0, vR 300)]) dX11_debts_8 (by decide) rfl ?_
  refine g_iconst dX11_debts_9 0 rfl (by decide) ?_
  refine g_istore_n (lv' := [(3, vI 0), (2, vI ((-1))), (1, vI 0), (0, vR 300)]) dX11_debts_10 (by decide) rfl ?_
  refine g_lv (lv' := [(0, vR 300), (1, vI 0), (2, vI ((-1))), (3, vI 0)]) [3, 2, 1, 0] rfl ?_
  exact eX11_debts_11 hR h
def wX11_canGo (l1 : Int) (l2 : Int) (l3 : Int) (σ : Mem) (Q : Int → Mem → Prop) : Prop := ((l1 = l2 → Q 0 σ) ∧ (¬ l1 = l2 → ((l1 = σ 300 14 → Q 0 σ) ∧ (¬ l1 = σ 300 14 → ((l2 = σ 300 14 → Q 0 σ) ∧ (¬ l2 = σ 300 14 → (wX11_room l1 l2 σ (fun y2 m1 => ((y2 < l3 → Q 0 m1) ∧ (¬ y2 < l3 → Q 1 m1))))))))))
set_option maxHeartbeats 1000000 in
theorem kX11_canGo {l1 : Int} {l2 : Int} {l3 : Int} {σ : Mem} {Q : Int → Mem → Prop} (h : wX11_canGo l1 l2 l3 σ Q) (l : Launch) (D : va_G) (cy : Nat → ClassId) (ad : Nat → Nat) : MI l yX11_canGo cX11_canGo 4 (some .boolean) 3 70 D cy ad [vR 300, vI l1, vI l2, vI l3] σ Q := by
  refine m_I (own := RX11) (lv := [(0, vR 300), (1, vI l1), (2, vI l2), (3, vI l3)]) (by decide +kernel) rfl (Nat.le_of_ble_eq_true rfl) rfl (fun E hR => ?_) l D cy ad
  unfold wX11_canGo at h
  refine g_iload_n dX11_canGo_0 rfl ?_
  refine g_iload_n dX11_canGo_1 rfl ?_
  obtain ⟨hA, hB⟩ := h
  refine g_icmp_eq (tgt := 35) dX11_canGo_2 (by decide) (fun hc => ?_) (fun hc => ?_)
  · replace h := hA hc
    refine g_iconst dX11_canGo_35 0 rfl (by decide) ?_
    exact g_zret hR dX11_canGo_36 (by decide) h
  · replace h := hB hc
    refine g_iload_n dX11_canGo_5 rfl ?_
    refine g_aload_n dX11_canGo_6 rfl ?_
    refine g_getI fl_11_33 kd_300 rfl dX11_canGo_7 ?_
    obtain ⟨hA, hB⟩ := h
    refine g_icmp_eq (tgt := 35) dX11_canGo_10 (by decide) (fun hc => ?_) (fun hc => ?_)
    · replace h := hA hc
      refine g_iconst dX11_canGo_35 0 rfl (by decide) ?_
      exact g_zret hR dX11_canGo_36 (by decide) h
    · replace h := hB hc
      refine g_iload_n dX11_canGo_13 rfl ?_
      refine g_aload_n dX11_canGo_14 rfl ?_
      refine g_getI fl_11_33 kd_300 rfl dX11_canGo_15 ?_
      obtain ⟨hA, hB⟩ := h
      refine g_icmp_eq (tgt := 35) dX11_canGo_18 (by decide) (fun hc => ?_) (fun hc => ?_)
      · replace h := hA hc
        refine g_iconst dX11_canGo_35 0 rfl (by decide) ?_
        exact g_zret hR dX11_canGo_36 (by decide) h
      · replace h := hB hc
        refine g_aload_n dX11_canGo_21 rfl ?_
        refine g_iload_n dX11_canGo_22 rfl ?_
        refine g_iload_n dX11_canGo_23 rfl ?_
        refine g_cVi (st := []) (av := [vI l1, vI l2]) (kX11_room h) kd_300 rfl cw_RX11_163 (by decide) (by decide) (Nat.le_of_ble_eq_true rfl) rfl dX11_canGo_24 (fun y2 m1 h => ?_)
        refine g_iload_n dX11_canGo_27 rfl ?_
        obtain ⟨hA, hB⟩ := h
        refine g_icmp_lt (tgt := 35) dX11_canGo_28 (by decide) (fun hc => ?_) (fun hc => ?_)
        · replace h := hA hc
          refine g_iconst dX11_canGo_35 0 rfl (by decide) ?_
          exact g_zret hR dX11_canGo_36 (by decide) h
        · replace h := hB hc
          refine g_iconst dX11_canGo_31 1 rfl (by decide) ?_
          refine g_goto (tgt := 36) dX11_canGo_32 (by decide) ?_
          exact g_zret hR dX11_canGo_36 (by decide) h
def wX11_layFar_27 (K2 : (Int × Int × Int) → Mem → Prop) (Q : Mem → Prop) (l1 : Int) (l2 : Int) (l3 : Int) (s0 : Int) (s1 : Int) (σ : Mem) : Prop := ((0 ≤ s1 ∧ s1 < 8) ∧ (∀ m1 : Mem, m1 = up2 σ 312 s1.toNat s0 → (∀ x2 : Int, x2 = w32 (l3 + 1) → K2 (l1, l2, x2) m1)))
def wX11_layFar_77 (K36 : (Int × Int) → Mem → Prop) (K49 : (Int × Int × Int) → Mem → Prop) (K77 : (Int × Int × Int × Int) → Mem → Prop) (Q : Mem → Prop) (l2 : Int) (l3 : Int) (l4 : Int) (l5 : Int) (σ : Mem) : Prop := ((σ 301 0 ≤ l5 → (∀ x1 : Int, x1 = w32 (l4 + 1) → K49 (l2, l3, x1) σ)) ∧ (¬ σ 301 0 ≤ l5 → ((0 ≤ l5 ∧ l5 < 8) ∧ ((¬ σ 312 l5.toNat = (-1) → (∀ x2 : Int, x2 = w32 (l5 + 1) → K77 (l2, l3, l4, x2) σ)) ∧ (σ 312 l5.toNat = (-1) → (wX11_canGo l5 l4 l2 σ (fun y4 m3 => ((y4 = 0 → (∀ x5 : Int, x5 = w32 (l5 + 1) → K77 (l2, l3, l4, x5) m3)) ∧ (¬ y4 = 0 → ((0 ≤ l5 ∧ l5 < 8) ∧ (∀ m6 : Mem, m6 = up2 m3 312 l5.toNat (w32 (l3 + 1)) → (∀ x7 : Int, x7 = w32 (l5 + 1) → K77 (l2, l3, l4, x7) m6))))))))))))
def wLX11_layFar_77 (K36 : (Int × Int) → Mem → Prop) (K49 : (Int × Int × Int) → Mem → Prop) (Q : Mem → Prop) (l2 : Int) (l3 : Int) (l4 : Int) (l5 : Int) (σ : Mem) : Prop := ∃ n, lp (fun (K77 : (Int × Int × Int × Int) → Mem → Prop) (x : Int × Int × Int × Int) (σ : Mem) => wX11_layFar_77 K36 K49 K77 Q x.1 x.2.1 x.2.2.1 x.2.2.2 σ) n (l2, l3, l4, l5) σ
def wX11_layFar_49 (K36 : (Int × Int) → Mem → Prop) (K49 : (Int × Int × Int) → Mem → Prop) (Q : Mem → Prop) (l2 : Int) (l3 : Int) (l4 : Int) (σ : Mem) : Prop := ((σ 301 0 ≤ l4 → (∀ x1 : Int, x1 = w32 (l3 + 1) → K36 (l2, x1) σ)) ∧ (¬ σ 301 0 ≤ l4 → ((0 ≤ l4 ∧ l4 < 8) ∧ ((σ 312 l4.toNat = l3 → wLX11_layFar_77 K36 K49 Q l2 l3 l4 0 σ) ∧ (¬ σ 312 l4.toNat = l3 → (∀ x2 : Int, x2 = w32 (l4 + 1) → K49 (l2, l3, x2) σ))))))
def wLX11_layFar_49 (K36 : (Int × Int) → Mem → Prop) (Q : Mem → Prop) (l2 : Int) (l3 : Int) (l4 : Int) (σ : Mem) : Prop := ∃ n, lp (fun (K49 : (Int × Int × Int) → Mem → Prop) (x : Int × Int × Int) (σ : Mem) => wX11_layFar_49 K36 K49 Q x.1 x.2.1 x.2.2 σ) n (l2, l3, l4) σ
def wX11_layFar_36 (K36 : (Int × Int) → Mem → Prop) (Q : Mem → Prop) (l2 : Int) (l3 : Int) (σ : Mem) : Prop := ((σ 301 0 ≤ l3 → Q σ) ∧ (¬ σ 301 0 ≤ l3 → wLX11_layFar_49 K36 Q l2 l3 0 σ))
def wLX11_layFar_36 (Q : Mem → Prop) (l2 : Int) (l3 : Int) (σ : Mem) : Prop := ∃ n, lp (fun (K36 : (Int × Int) → Mem → Prop) (x : Int × Int) (σ : Mem) => wX11_layFar_36 K36 Q x.1 x.2 σ) n (l2, l3) σ
def wX11_layFar_2 (K2 : (Int × Int × Int) → Mem → Prop) (Q : Mem → Prop) (l1 : Int) (l2 : Int) (l3 : Int) (σ : Mem) : Prop := ((σ 301 0 ≤ l3 → wLX11_layFar_36 Q l2 0 σ) ∧ (¬ σ 301 0 ≤ l3 → ((¬ l3 = l1 → wX11_layFar_27 K2 Q l1 l2 l3 ((-1)) l3 σ) ∧ (l3 = l1 → wX11_layFar_27 K2 Q l1 l2 l3 0 l3 σ))))
def wLX11_layFar_2 (Q : Mem → Prop) (l1 : Int) (l2 : Int) (l3 : Int) (σ : Mem) : Prop := ∃ n, lp (fun (K2 : (Int × Int × Int) → Mem → Prop) (x : Int × Int × Int) (σ : Mem) => wX11_layFar_2 K2 Q x.1 x.2.1 x.2.2 σ) n (l1, l2, l3) σ
def wX11_layFar (l1 : Int) (l2 : Int) (σ : Mem) (Q : Mem → Prop) : Prop := wLX11_layFar_2 Q l1 l2 0 σ
set_option maxHeartbeats 1000000 in
theorem bX11_layFar_27 {E : TE} {K2 : (Int × Int × Int) → Mem → Prop} (hK2 : ∀ (x : Int × Int × Int) (σ : Mem), K2 x σ → GW E cX11_layFar 6 RX11 4 93 σ 2 [(0, vR 300), (1, vI x.1), (2, vI x.2.1), (3, vI x.2.2)] []) {Q : Mem → Prop} (hR : RV E none Q) {l1 : Int} {l2 : Int} {l3 : Int} {s0 : Int} {s1 : Int} {σ : Mem} (h : wX11_layFar_27 K2 Q l1 l2 l3 s0 s1 σ) : GW E cX11_layFar 6 RX11 4 93 σ 27 [(0, vR 300), (1, vI l1), (2, vI l2), (3, vI l3)] [vI s0, vI s1, vR 312] := by
  unfold wX11_layFar_27 at h
  obtain ⟨hin, h⟩ := h
  refine g_iast kd_312 hin dX11_layFar_27 ?_
  refine g_nm (fun m1 em1 => ?_)
  replace h := h m1 em1
  refine g_iinc (lv' := [(3, vI (w32 (l3 + 1))), (0, vR 300), (1, vI l1), (2, vI l2)]) dX11_layFar_28 rfl (by decide) rfl ?_
  refine g_loc (a := w32 (l3 + 1)) (i := 3) (lv := [(0, vR 300), (1, vI l1), (2, vI l2)]) (fun x2 ex2 => ?_)
  replace h := h x2 ex2
  refine g_goto (tgt := 2) dX11_layFar_31 (by decide) ?_
  refine g_lv (lv' := [(0, vR 300), (1, vI l1), (2, vI l2), (3, vI x2)]) [1, 2, 3, 0] rfl ?_
  exact hK2 ((l1, l2, x2)) m1 h
set_option maxHeartbeats 1000000 in
theorem bX11_layFar_77 {E : TE} {K36 : (Int × Int) → Mem → Prop} {K49 : (Int × Int × Int) → Mem → Prop} {K77 : (Int × Int × Int × Int) → Mem → Prop} (hK36 : ∀ (x : Int × Int) (σ : Mem), K36 x σ → GW E cX11_layFar 6 RX11 4 93 σ 36 [(0, vR 300), (2, vI x.1), (3, vI x.2)] []) (hK49 : ∀ (x : Int × Int × Int) (σ : Mem), K49 x σ → GW E cX11_layFar 6 RX11 4 93 σ 49 [(0, vR 300), (2, vI x.1), (3, vI x.2.1), (4, vI x.2.2)] []) (hK77 : ∀ (x : Int × Int × Int × Int) (σ : Mem), K77 x σ → GW E cX11_layFar 6 RX11 4 93 σ 77 [(0, vR 300), (2, vI x.1), (3, vI x.2.1), (4, vI x.2.2.1), (5, vI x.2.2.2)] []) {Q : Mem → Prop} (hR : RV E none Q) {l2 : Int} {l3 : Int} {l4 : Int} {l5 : Int} {σ : Mem} (h : wX11_layFar_77 K36 K49 K77 Q l2 l3 l4 l5 σ) : GW E cX11_layFar 6 RX11 4 93 σ 77 [(0, vR 300), (2, vI l2), (3, vI l3), (4, vI l4), (5, vI l5)] [] := by
  unfold wX11_layFar_77 at h
  refine g_iload dX11_layFar_77 rfl ?_
  refine g_aload_n dX11_layFar_79 rfl ?_
  refine g_getR (r := 301) fl_11_9 kd_300 rfl dX11_layFar_80 ?_
  refine g_iconst dX11_layFar_83 0 rfl (by decide) ?_
  refine g_iald kd_301 (by decide) dX11_layFar_84 ?_
  obtain ⟨hA, hB⟩ := h
  refine g_icmp_ge (tgt := 127) dX11_layFar_85 (by decide) (fun hc => ?_) (fun hc => ?_)
  · replace h := hA hc
    refine g_iinc (lv' := [(4, vI (w32 (l4 + 1))), (0, vR 300), (2, vI l2), (3, vI l3), (5, vI l5)]) dX11_layFar_127 rfl (by decide) rfl ?_
    refine g_loc (a := w32 (l4 + 1)) (i := 4) (lv := [(0, vR 300), (2, vI l2), (3, vI l3), (5, vI l5)]) (fun x1 ex1 => ?_)
    replace h := h x1 ex1
    refine g_goto (tgt := 49) dX11_layFar_130 (by decide) ?_
    refine g_lv (lv' := [(0, vR 300), (2, vI l2), (3, vI l3), (4, vI x1)]) [1, 2, 3, 0] rfl ?_
    exact hK49 ((l2, l3, x1)) σ h
  · replace h := hB hc
    refine g_aload_n dX11_layFar_88 rfl ?_
    refine g_getR (r := 312) fl_11_27 kd_300 rfl dX11_layFar_89 ?_
    refine g_iload dX11_layFar_92 rfl ?_
    obtain ⟨hin, h⟩ := h
    refine g_iald kd_312 hin dX11_layFar_94 ?_
    refine g_iconst dX11_layFar_95 (-1) rfl (by decide) ?_
    obtain ⟨hA, hB⟩ := h
    refine g_icmp_ne (tgt := 121) dX11_layFar_96 (by decide) (fun hc => ?_) (fun hc => ?_)
    · replace h := hA hc
      refine g_iinc (lv' := [(5, vI (w32 (l5 + 1))), (0, vR 300), (2, vI l2), (3, vI l3), (4, vI l4)]) dX11_layFar_121 rfl (by decide) rfl ?_
      refine g_loc (a := w32 (l5 + 1)) (i := 5) (lv := [(0, vR 300), (2, vI l2), (3, vI l3), (4, vI l4)]) (fun x2 ex2 => ?_)
      replace h := h x2 ex2
      refine g_goto (tgt := 77) dX11_layFar_124 (by decide) ?_
      refine g_lv (lv' := [(0, vR 300), (2, vI l2), (3, vI l3), (4, vI l4), (5, vI x2)]) [1, 2, 3, 4, 0] rfl ?_
      exact hK77 ((l2, l3, l4, x2)) σ h
    · replace h := hB hc
      refine g_aload_n dX11_layFar_99 rfl ?_
      refine g_iload dX11_layFar_100 rfl ?_
      refine g_iload dX11_layFar_102 rfl ?_
      refine g_iload_n dX11_layFar_104 rfl ?_
      refine g_cVi (st := []) (av := [vI l5, vI l4, vI l2]) (kX11_canGo h) kd_300 rfl cw_RX11_175 (by decide) (by decide) (Nat.le_of_ble_eq_true rfl) rfl dX11_layFar_105 (fun y4 m3 h => ?_)
      obtain ⟨hA, hB⟩ := h
      refine g_if_eq (tgt := 121) dX11_layFar_108 (by decide) (fun hc => ?_) (fun hc => ?_)
      · replace h := hA hc
        refine g_iinc (lv' := [(5, vI (w32 (l5 + 1))), (0, vR 300), (2, vI l2), (3, vI l3), (4, vI l4)]) dX11_layFar_121 rfl (by decide) rfl ?_
        refine g_loc (a := w32 (l5 + 1)) (i := 5) (lv := [(0, vR 300), (2, vI l2), (3, vI l3), (4, vI l4)]) (fun x5 ex5 => ?_)
        replace h := h x5 ex5
        refine g_goto (tgt := 77) dX11_layFar_124 (by decide) ?_
        refine g_lv (lv' := [(0, vR 300), (2, vI l2), (3, vI l3), (4, vI l4), (5, vI x5)]) [1, 2, 3, 4, 0] rfl ?_
        exact hK77 ((l2, l3, l4, x5)) m3 h
      · replace h := hB hc
        refine g_aload_n dX11_layFar_111 rfl ?_
        refine g_getR (r := 312) fl_11_27 kd_300 rfl dX11_layFar_112 ?_
        refine g_iload dX11_layFar_115 rfl ?_
        refine g_iload_n dX11_layFar_117 rfl ?_
        refine g_iconst dX11_layFar_118 1 rfl (by decide) ?_
        refine g_iadd dX11_layFar_119 ?_
        obtain ⟨hin, h⟩ := h
        refine g_iast kd_312 hin dX11_layFar_120 ?_
        refine g_nm (fun m6 em6 => ?_)
        replace h := h m6 em6
        refine g_iinc (lv' := [(5, vI (w32 (l5 + 1))), (0, vR 300), (2, vI l2), (3, vI l3), (4, vI l4)]) dX11_layFar_121 rfl (by decide) rfl ?_
        refine g_loc (a := w32 (l5 + 1)) (i := 5) (lv := [(0, vR 300), (2, vI l2), (3, vI l3), (4, vI l4)]) (fun x7 ex7 => ?_)
        replace h := h x7 ex7
        refine g_goto (tgt := 77) dX11_layFar_124 (by decide) ?_
        refine g_lv (lv' := [(0, vR 300), (2, vI l2), (3, vI l3), (4, vI l4), (5, vI x7)]) [1, 2, 3, 4, 0] rfl ?_
        exact hK77 ((l2, l3, l4, x7)) m6 h
theorem eX11_layFar_77 {E : TE} {K36 : (Int × Int) → Mem → Prop} {K49 : (Int × Int × Int) → Mem → Prop} (hK36 : ∀ (x : Int × Int) (σ : Mem), K36 x σ → GW E cX11_layFar 6 RX11 4 93 σ 36 [(0, vR 300), (2, vI x.1), (3, vI x.2)] []) (hK49 : ∀ (x : Int × Int × Int) (σ : Mem), K49 x σ → GW E cX11_layFar 6 RX11 4 93 σ 49 [(0, vR 300), (2, vI x.1), (3, vI x.2.1), (4, vI x.2.2)] []) {Q : Mem → Prop} (hR : RV E none Q) {l2 : Int} {l3 : Int} {l4 : Int} {l5 : Int} {σ : Mem} (h : wLX11_layFar_77 K36 K49 Q l2 l3 l4 l5 σ) : GW E cX11_layFar 6 RX11 4 93 σ 77 [(0, vR 300), (2, vI l2), (3, vI l3), (4, vI l4), (5, vI l5)] [] := by
  obtain ⟨n, h⟩ := h
  exact lp_GW (P := fun (x : Int × Int × Int × Int) (σ : Mem) => GW E cX11_layFar 6 RX11 4 93 σ 77 [(0, vR 300), (2, vI x.1), (3, vI x.2.1), (4, vI x.2.2.1), (5, vI x.2.2.2)] []) (fun K hK x σ h  => bX11_layFar_77 hK36 hK49 hK hR h) n _ σ h 
set_option maxHeartbeats 1000000 in
theorem bX11_layFar_49 {E : TE} {K36 : (Int × Int) → Mem → Prop} {K49 : (Int × Int × Int) → Mem → Prop} (hK36 : ∀ (x : Int × Int) (σ : Mem), K36 x σ → GW E cX11_layFar 6 RX11 4 93 σ 36 [(0, vR 300), (2, vI x.1), (3, vI x.2)] []) (hK49 : ∀ (x : Int × Int × Int) (σ : Mem), K49 x σ → GW E cX11_layFar 6 RX11 4 93 σ 49 [(0, vR 300), (2, vI x.1), (3, vI x.2.1), (4, vI x.2.2)] []) {Q : Mem → Prop} (hR : RV E none Q) {l2 : Int} {l3 : Int} {l4 : Int} {σ : Mem} (h : wX11_layFar_49 K36 K49 Q l2 l3 l4 σ) : GW E cX11_layFar 6 RX11 4 93 σ 49 [(0, vR 300), (2, vI l2), (3, vI l3), (4, vI l4)] [] := by
  unfold wX11_layFar_49 at h
  refine g_iload dX11_layFar_49 rfl ?_
  refine g_aload_n dX11_layFar_51 rfl ?_
  refine g_getR (r := 301) fl_11_9 kd_300 rfl dX11_layFar_52 ?_
  refine g_iconst dX11_layFar_55 0 rfl (by decide) ?_
  refine g_iald kd_301 (by decide) dX11_layFar_56 ?_
  obtain ⟨hA, hB⟩ := h
  refine g_icmp_ge (tgt := 133) dX11_layFar_57 (by decide) (fun hc => ?_) (fun hc => ?_)
  · replace h := hA hc
    refine g_iinc (lv' := [(3, vI (w32 (l3 + 1))), (0, vR 300), (2, vI l2), (4, vI l4)]) dX11_layFar_133 rfl (by decide) rfl ?_
    refine g_loc (a := w32 (l3 + 1)) (i := 3) (lv := [(0, vR 300), (2, vI l2), (4, vI l4)]) (fun x1 ex1 => ?_)
    replace h := h x1 ex1
    refine g_goto (tgt := 36) dX11_layFar_136 (by decide) ?_
    refine g_lv (lv' := [(0, vR 300), (2, vI l2), (3, vI x1)]) [1, 2, 0] rfl ?_
    exact hK36 ((l2, x1)) σ h
  · replace h := hB hc
    refine g_aload_n dX11_layFar_60 rfl ?_
    refine g_getR (r := 312) fl_11_27 kd_300 rfl dX11_layFar_61 ?_
    refine g_iload dX11_layFar_64 rfl ?_
    obtain ⟨hin, h⟩ := h
    refine g_iald kd_312 hin dX11_layFar_66 ?_
    refine g_iload_n dX11_layFar_67 rfl ?_
    obtain ⟨hA, hB⟩ := h
    refine g_icmp_eq (tgt := 74) dX11_layFar_68 (by decide) (fun hc => ?_) (fun hc => ?_)
    · replace h := hA hc
      refine g_iconst dX11_layFar_74 0 rfl (by decide) ?_
      refine g_istore (lv' := [(5, vI 0), (0, vR 300), (2, vI l2), (3, vI l3), (4, vI l4)]) dX11_layFar_75 (by decide) rfl ?_
      refine g_lv (lv' := [(0, vR 300), (2, vI l2), (3, vI l3), (4, vI l4), (5, vI 0)]) [1, 2, 3, 4, 0] rfl ?_
      exact eX11_layFar_77 hK36 hK49 hR h
    · replace h := hB hc
      refine g_goto (tgt := 127) dX11_layFar_71 (by decide) ?_
      refine g_iinc (lv' := [(4, vI (w32 (l4 + 1))), (0, vR 300), (2, vI l2), (3, vI l3)]) dX11_layFar_127 rfl (by decide) rfl ?_
      refine g_loc (a := w32 (l4 + 1)) (i := 4) (lv := [(0, vR 300), (2, vI l2), (3, vI l3)]) (fun x2 ex2 => ?_)
      replace h := h x2 ex2
      refine g_goto (tgt := 49) dX11_layFar_130 (by decide) ?_
      refine g_lv (lv' := [(0, vR 300), (2, vI l2), (3, vI l3), (4, vI x2)]) [1, 2, 3, 0] rfl ?_
      exact hK49 ((l2, l3, x2)) σ h
theorem eX11_layFar_49 {E : TE} {K36 : (Int × Int) → Mem → Prop} (hK36 : ∀ (x : Int × Int) (σ : Mem), K36 x σ → GW E cX11_layFar 6 RX11 4 93 σ 36 [(0, vR 300), (2, vI x.1), (3, vI x.2)] []) {Q : Mem → Prop} (hR : RV E none Q) {l2 : Int} {l3 : Int} {l4 : Int} {σ : Mem} (h : wLX11_layFar_49 K36 Q l2 l3 l4 σ) : GW E cX11_layFar 6 RX11 4 93 σ 49 [(0, vR 300), (2, vI l2), (3, vI l3), (4, vI l4)] [] := by
  obtain ⟨n, h⟩ := h
  exact lp_GW (P := fun (x : Int × Int × Int) (σ : Mem) => GW E cX11_layFar 6 RX11 4 93 σ 49 [(0, vR 300), (2, vI x.1), (3, vI x.2.1), (4, vI x.2.2)] []) (fun K hK x σ h  => bX11_layFar_49 hK36 hK hR h) n _ σ h 
set_option maxHeartbeats 1000000 in
theorem bX11_layFar_36 {E : TE} {K36 : (Int × Int) → Mem → Prop} (hK36 : ∀ (x : Int × Int) (σ : Mem), K36 x σ → GW E cX11_layFar 6 RX11 4 93 σ 36 [(0, vR 300), (2, vI x.1), (3, vI x.2)] []) {Q : Mem → Prop} (hR : RV E none Q) {l2 : Int} {l3 : Int} {σ : Mem} (h : wX11_layFar_36 K36 Q l2 l3 σ) : GW E cX11_layFar 6 RX11 4 93 σ 36 [(0, vR 300), (2, vI l2), (3, vI l3)] [] := by
  unfold wX11_layFar_36 at h
  refine g_iload_n dX11_layFar_36 rfl ?_
  refine g_aload_n dX11_layFar_37 rfl ?_
  refine g_getR (r := 301) fl_11_9 kd_300 rfl dX11_layFar_38 ?_
  refine g_iconst dX11_layFar_41 0 rfl (by decide) ?_
  refine g_iald kd_301 (by decide) dX11_layFar_42 ?_
  obtain ⟨hA, hB⟩ := h
  refine g_icmp_ge (tgt := 139) dX11_layFar_43 (by decide) (fun hc => ?_) (fun hc => ?_)
  · replace h := hA hc
    exact g_vret hR dX11_layFar_139 h
  · replace h := hB hc
    refine g_iconst dX11_layFar_46 0 rfl (by decide) ?_
    refine g_istore (lv' := [(4, vI 0), (0, vR 300), (2, vI l2), (3, vI l3)]) dX11_layFar_47 (by decide) rfl ?_
    refine g_lv (lv' := [(0, vR 300), (2, vI l2), (3, vI l3), (4, vI 0)]) [1, 2, 3, 0] rfl ?_
    exact eX11_layFar_49 hK36 hR h
theorem eX11_layFar_36 {E : TE} {Q : Mem → Prop} (hR : RV E none Q) {l2 : Int} {l3 : Int} {σ : Mem} (h : wLX11_layFar_36 Q l2 l3 σ) : GW E cX11_layFar 6 RX11 4 93 σ 36 [(0, vR 300), (2, vI l2), (3, vI l3)] [] := by
  obtain ⟨n, h⟩ := h
  exact lp_GW (P := fun (x : Int × Int) (σ : Mem) => GW E cX11_layFar 6 RX11 4 93 σ 36 [(0, vR 300), (2, vI x.1), (3, vI x.2)] []) (fun K hK x σ h  => bX11_layFar_36 hK hR h) n _ σ h 
set_option maxHeartbeats 1000000 in
theorem bX11_layFar_2 {E : TE} {K2 : (Int × Int × Int) → Mem → Prop} (hK2 : ∀ (x : Int × Int × Int) (σ : Mem), K2 x σ → GW E cX11_layFar 6 RX11 4 93 σ 2 [(0, vR 300), (1, vI x.1), (2, vI x.2.1), (3, vI x.2.2)] []) {Q : Mem → Prop} (hR : RV E none Q) {l1 : Int} {l2 : Int} {l3 : Int} {σ : Mem} (h : wX11_layFar_2 K2 Q l1 l2 l3 σ) : GW E cX11_layFar 6 RX11 4 93 σ 2 [(0, vR 300), (1, vI l1), (2, vI l2), (3, vI l3)] [] := by
  unfold wX11_layFar_2 at h
  refine g_iload_n dX11_layFar_2 rfl ?_
  refine g_aload_n dX11_layFar_3 rfl ?_
  refine g_getR (r := 301) fl_11_9 kd_300 rfl dX11_layFar_4 ?_
  refine g_iconst dX11_layFar_7 0 rfl (by decide) ?_
  refine g_iald kd_301 (by decide) dX11_layFar_8 ?_
  obtain ⟨hA, hB⟩ := h
  refine g_icmp_ge (tgt := 34) dX11_layFar_9 (by decide) (fun hc => ?_) (fun hc => ?_)
  · replace h := hA hc
    refine g_iconst dX11_layFar_34 0 rfl (by decide) ?_
    refine g_istore_n (lv' := [(3, vI 0), (0, vR 300), (1, vI l1), (2, vI l2)]) dX11_layFar_35 (by decide) rfl ?_
    refine g_lv (lv' := [(0, vR 300), (2, vI l2), (3, vI 0)]) [1, 3, 0] rfl ?_
    exact eX11_layFar_36 hR h
  · replace h := hB hc
    refine g_aload_n dX11_layFar_12 rfl ?_
    refine g_getR (r := 312) fl_11_27 kd_300 rfl dX11_layFar_13 ?_
    refine g_iload_n dX11_layFar_16 rfl ?_
    refine g_iload_n dX11_layFar_17 rfl ?_
    refine g_iload_n dX11_layFar_18 rfl ?_
    obtain ⟨hA, hB⟩ := h
    refine g_icmp_ne (tgt := 26) dX11_layFar_19 (by decide) (fun hc => ?_) (fun hc => ?_)
    · replace h := hA hc
      refine g_iconst dX11_layFar_26 (-1) rfl (by decide) ?_
      exact bX11_layFar_27 hK2 hR h
    · replace h := hB hc
      refine g_iconst dX11_layFar_22 0 rfl (by decide) ?_
      refine g_goto (tgt := 27) dX11_layFar_23 (by decide) ?_
      exact bX11_layFar_27 hK2 hR h
theorem eX11_layFar_2 {E : TE} {Q : Mem → Prop} (hR : RV E none Q) {l1 : Int} {l2 : Int} {l3 : Int} {σ : Mem} (h : wLX11_layFar_2 Q l1 l2 l3 σ) : GW E cX11_layFar 6 RX11 4 93 σ 2 [(0, vR 300), (1, vI l1), (2, vI l2), (3, vI l3)] [] := by
  obtain ⟨n, h⟩ := h
  exact lp_GW (P := fun (x : Int × Int × Int) (σ : Mem) => GW E cX11_layFar 6 RX11 4 93 σ 2 [(0, vR 300), (1, vI x.1), (2, vI x.2.1), (3, vI x.2.2)] []) (fun K hK x σ h  => bX11_layFar_2 hK hR h) n _ σ h 
set_option maxHeartbeats 1000000 in
theorem kX11_layFar {l1 : Int} {l2 : Int} {σ : Mem} {Q : Mem → Prop} (h : wX11_layFar l1 l2 σ Q) (l : Launch) (D : va_G) (cy : Nat → ClassId) (ad : Nat → Nat) : MV l yX11_layFar cX11_layFar 6 none 4 93 D cy ad [vR 300, vI l1, vI l2] σ Q := by
  refine m_V (own := RX11) (lv := [(0, vR 300), (1, vI l1), (2, vI l2)]) (by decide +kernel) rfl (Nat.le_of_ble_eq_true rfl) rfl (fun E hR => ?_) l D cy ad
  unfold wX11_layFar at h
  refine g_iconst dX11_layFar_0 0 rfl (by decide) ?_
  refine g_istore_n (lv' := [(3, vI 0), (0, vR 300), (1, vI l1), (2, vI l2)]) dX11_layFar_1 (by decide) rfl ?_
  refine g_lv (lv' := [(0, vR 300), (1, vI l1), (2, vI l2), (3, vI 0)]) [1, 2, 3, 0] rfl ?_
  exact eX11_layFar_2 hR h
