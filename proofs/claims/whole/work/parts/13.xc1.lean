def wX10_sign (l1 : Int) (σ : Mem) (Q : Int → Mem → Prop) : Prop := (wX9_append l1 σ (fun y2 m1 => ((y2 = 0 → Q ((-1)) m1) ∧ (¬ y2 = 0 → Q (m1 5 1) m1))))
set_option maxHeartbeats 1000000 in
theorem kX10_sign {l1 : Int} {σ : Mem} {Q : Int → Mem → Prop} (h : wX10_sign l1 σ Q) (l : Launch) (D : va_G) (cy : Nat → ClassId) (ad : Nat → Nat) : MI l yX10_sign cX10_sign 2 (some .int) 1 22 D cy ad [vR 0, vI l1] σ Q := by
  refine m_I (own := RX10) (lv := [(0, vR 0), (1, vI l1)]) (by decide +kernel) rfl (Nat.le_of_ble_eq_true rfl) rfl (fun E hR => ?_) l D cy ad
  unfold wX10_sign at h
  refine g_aload_n dX10_sign_0 rfl ?_
  refine g_getR (r := 5) fl_10_40 kd_0 rfl dX10_sign_1 ?_
  refine g_iload_n dX10_sign_4 rfl ?_
  refine g_cVi (st := []) (av := [vI l1]) (kX9_append h) kd_5 rfl cw_RX10_86 (by decide) (by decide) (Nat.le_of_ble_eq_true rfl) rfl dX10_sign_5 (fun y2 m1 h => ?_)
  obtain ⟨hA, hB⟩ := h
  refine g_if_eq (tgt := 21) dX10_sign_8 (by decide) (fun hc => ?_) (fun hc => ?_)
  · replace h := hA hc
    refine g_iconst dX10_sign_21 (-1) rfl (by decide) ?_
    exact g_iret hR dX10_sign_22 h
  · replace h := hB hc
    refine g_aload_n dX10_sign_11 rfl ?_
    refine g_getR (r := 5) fl_10_40 kd_0 rfl dX10_sign_12 ?_
    refine g_getI fl_10_90 kd_5 rfl dX10_sign_15 ?_
    refine g_goto (tgt := 22) dX10_sign_18 (by decide) ?_
    exact g_iret hR dX10_sign_22 h
def wX10_end (l1 : Int) (σ : Mem) (Q : Int → Mem → Prop) : Prop := (wX9_cutTo l1 σ (fun y2 m1 => ((y2 = 0 ∨ y2 = 1) ∧ Q y2 m1)))
set_option maxHeartbeats 1000000 in
theorem kX10_end {l1 : Int} {σ : Mem} {Q : Int → Mem → Prop} (h : wX10_end l1 σ Q) (l : Launch) (D : va_G) (cy : Nat → ClassId) (ad : Nat → Nat) : MI l yX10_end cX10_end 2 (some .boolean) 1 21 D cy ad [vR 0, vI l1] σ Q := by
  refine m_I (own := RX10) (lv := [(0, vR 0), (1, vI l1)]) (by decide +kernel) rfl (Nat.le_of_ble_eq_true rfl) rfl (fun E hR => ?_) l D cy ad
  unfold wX10_end at h
  refine g_aload_n dX10_end_0 rfl ?_
  refine g_getR (r := 5) fl_10_40 kd_0 rfl dX10_end_1 ?_
  refine g_iload_n dX10_end_4 rfl ?_
  refine g_cVi (st := []) (av := [vI l1]) (kX9_cutTo h) kd_5 rfl cw_RX10_94 (by decide) (by decide) (Nat.le_of_ble_eq_true rfl) rfl dX10_end_5 (fun y2 m1 h => ?_)
  exact g_zret hR dX10_end_8 h.1 h.2
def wX10_club (σ : Mem) (Q : Int → Mem → Prop) : Prop := (wX9_readClub 72 σ (fun y2 m1 => (wX9_empty  m1 (fun m3 => ((0 ≤ y2 → (wX6_add 40 m3 (fun m4 => (wX1_copyFrom 40 72 m4 (fun m5 => Q y2 m5))))) ∧ (¬ 0 ≤ y2 → Q y2 m3))))))
set_option maxHeartbeats 1000000 in
theorem kX10_club {σ : Mem} {Q : Int → Mem → Prop} (h : wX10_club σ Q) (l : Launch) (D : va_G) (cy : Nat → ClassId) (ad : Nat → Nat) : MI l yX10_club cX10_club 2 (some .int) 4 130 D cy ad [vR 0] σ Q := by
  refine m_I (own := RX10) (lv := [(0, vR 0)]) (by decide +kernel) rfl (Nat.le_of_ble_eq_true rfl) rfl (fun E hR => ?_) l D cy ad
  unfold wX10_club at h
  refine g_aload_n dX10_club_0 rfl ?_
  refine g_getR (r := 5) fl_10_40 kd_0 rfl dX10_club_1 ?_
  refine g_aload_n dX10_club_4 rfl ?_
  refine g_getR (r := 72) fl_10_19 kd_0 rfl dX10_club_5 ?_
  refine g_cVi (st := []) (av := [vR 72]) (kX9_readClub bk_72 h) kd_5 rfl cw_RX10_97 (by decide) (by decide) (Nat.le_of_ble_eq_true rfl) rfl dX10_club_8 (fun y2 m1 h => ?_)
  refine g_istore_n (lv' := [(1, vI y2), (0, vR 0)]) dX10_club_11 (by decide) rfl ?_
  refine g_aload_n dX10_club_12 rfl ?_
  refine g_getR (r := 5) fl_10_40 kd_0 rfl dX10_club_13 ?_
  refine g_cVv (st := []) (av := []) (kX9_empty h) kd_5 rfl cw_RX10_101 (by decide) (by decide) (Nat.le_of_ble_eq_true rfl) rfl dX10_club_16 (fun m3 h => ?_)
  refine g_iload_n dX10_club_19 rfl ?_
  obtain ⟨hA, hB⟩ := h
  refine g_if_ge (tgt := 25) dX10_club_20 (by decide) (fun hc => ?_) (fun hc => ?_)
  · replace h := hA hc
    refine g_aload_n dX10_club_25 rfl ?_
    refine g_getR (r := 3) fl_10_33 kd_0 rfl dX10_club_26 ?_
    refine g_aload_n dX10_club_29 rfl ?_
    refine g_getR (r := 40) fl_10_12 kd_0 rfl dX10_club_30 ?_
    refine g_cVv (st := []) (av := [vR 40]) (kX6_add bk_40 h) kd_3 rfl cw_RX10_104 (by decide) (by decide) (Nat.le_of_ble_eq_true rfl) rfl dX10_club_33 (fun m4 h => ?_)
    refine g_aload_n dX10_club_36 rfl ?_
    refine g_getR (r := 40) fl_10_12 kd_0 rfl dX10_club_37 ?_
    refine g_aload_n dX10_club_40 rfl ?_
    refine g_getR (r := 72) fl_10_19 kd_0 rfl dX10_club_41 ?_
    refine g_cVv (st := []) (av := [vR 72]) (kX1_copyFrom bk_40 bk_72 h) (kd_bk0 bk_40) rfl cw_RX10_108 (by decide) (by decide) (Nat.le_of_ble_eq_true rfl) rfl dX10_club_44 (fun m5 h => ?_)
    refine g_iload_n dX10_club_47 rfl ?_
    exact g_iret hR dX10_club_48 h
  · replace h := hB hc
    refine g_iload_n dX10_club_23 rfl ?_
    exact g_iret hR dX10_club_24 h
def wX10_entryOf (l0 : Int) (l1 : Int) (σ : Mem) (Q : Int → Mem → Prop) : Prop := ((¬ l0 = 0 → ((¬ l0 = 1 → Q l1 σ) ∧ (l0 = 1 → Q (i16 l1) σ))) ∧ (l0 = 0 → Q (i8 l1) σ))
set_option maxHeartbeats 1000000 in
theorem kX10_entryOf {l0 : Int} {l1 : Int} {σ : Mem} {Q : Int → Mem → Prop} (h : wX10_entryOf l0 l1 σ Q) (l : Launch) (D : va_G) (cy : Nat → ClassId) (ad : Nat → Nat) : MI l yX10_entryOf cX10_entryOf 2 (some .int) 0 0 D cy ad [vI l0, vI l1] σ Q := by
  refine m_I (own := RX10) (lv := [(0, vI l0), (1, vI l1)]) (by decide +kernel) rfl (Nat.le_of_ble_eq_true rfl) rfl (fun E hR => ?_) l D cy ad
  unfold wX10_entryOf at h
  refine g_iload_n dX10_entryOf_0 rfl ?_
  obtain ⟨hA, hB⟩ := h
  refine g_if_ne (tgt := 7) dX10_entryOf_1 (by decide) (fun hc => ?_) (fun hc => ?_)
  · replace h := hA hc
    refine g_iload_n dX10_entryOf_7 rfl ?_
    refine g_iconst dX10_entryOf_8 1 rfl (by decide) ?_
    obtain ⟨hA, hB⟩ := h
    refine g_icmp_ne (tgt := 17) dX10_entryOf_9 (by decide) (fun hc => ?_) (fun hc => ?_)
    · replace h := hA hc
      refine g_iload_n dX10_entryOf_17 rfl ?_
      exact g_iret hR dX10_entryOf_18 h
    · replace h := hB hc
      refine g_iload_n dX10_entryOf_12 rfl ?_
      refine g_i2s dX10_entryOf_13 ?_
      refine g_goto (tgt := 18) dX10_entryOf_14 (by decide) ?_
      exact g_iret hR dX10_entryOf_18 h
  · replace h := hB hc
    refine g_iload_n dX10_entryOf_4 rfl ?_
    refine g_i2b dX10_entryOf_5 ?_
    exact g_iret hR dX10_entryOf_6 h
def wX10_memberOfEntry (l0 : Int) (l1 : Int) (σ : Mem) (Q : Int → Mem → Prop) : Prop := ((l0 ≤ l1 → Q (w32 (l1 + 1)) σ) ∧ (¬ l0 ≤ l1 → Q l1 σ))
set_option maxHeartbeats 1000000 in
theorem kX10_memberOfEntry {l0 : Int} {l1 : Int} {σ : Mem} {Q : Int → Mem → Prop} (h : wX10_memberOfEntry l0 l1 σ Q) (l : Launch) (D : va_G) (cy : Nat → ClassId) (ad : Nat → Nat) : MI l yX10_memberOfEntry cX10_memberOfEntry 2 (some .int) 0 0 D cy ad [vI l0, vI l1] σ Q := by
  refine m_I (own := RX10) (lv := [(0, vI l0), (1, vI l1)]) (by decide +kernel) rfl (Nat.le_of_ble_eq_true rfl) rfl (fun E hR => ?_) l D cy ad
  unfold wX10_memberOfEntry at h
  refine g_iload_n dX10_memberOfEntry_0 rfl ?_
  refine g_iload_n dX10_memberOfEntry_1 rfl ?_
  obtain ⟨hA, hB⟩ := h
  refine g_icmp_ge (tgt := 9) dX10_memberOfEntry_2 (by decide) (fun hc => ?_) (fun hc => ?_)
  · replace h := hA hc
    refine g_iload_n dX10_memberOfEntry_9 rfl ?_
    refine g_iconst dX10_memberOfEntry_10 1 rfl (by decide) ?_
    refine g_iadd dX10_memberOfEntry_11 ?_
    exact g_iret hR dX10_memberOfEntry_12 h
  · replace h := hB hc
    refine g_iload_n dX10_memberOfEntry_5 rfl ?_
    refine g_goto (tgt := 12) dX10_memberOfEntry_6 (by decide) ?_
    exact g_iret hR dX10_memberOfEntry_12 h
def wX10_entryFault (l1 : Int) (l2 : Int) (l3 : Int) (σ : Mem) (Q : Int → Mem → Prop) : Prop := (wX10_memberOfEntry l1 l2 σ (fun y2 m1 => (wX1_has 40 y2 m1 (fun y4 m3 => ((¬ y4 = 0 → ((l3 < 0 → Q 2 m3) ∧ (¬ l3 < 0 → ((l3 ≤ 999 → (wX1_owed 40 y2 l1 m3 (fun y6 m5 => ((y6 ≤ l3 → Q 0 m5) ∧ (¬ y6 ≤ l3 → Q 3 m5))))) ∧ (¬ l3 ≤ 999 → Q 2 m3))))) ∧ (y4 = 0 → Q 1 m3))))))
set_option maxHeartbeats 1000000 in
theorem kX10_entryFault {l1 : Int} {l2 : Int} {l3 : Int} {σ : Mem} {Q : Int → Mem → Prop} (h : wX10_entryFault l1 l2 l3 σ Q) (l : Launch) (D : va_G) (cy : Nat → ClassId) (ad : Nat → Nat) : MI l yX10_entryFault cX10_entryFault 5 (some .int) 2 46 D cy ad [vR 0, vI l1, vI l2, vI l3] σ Q := by
  refine m_I (own := RX10) (lv := [(0, vR 0), (1, vI l1), (2, vI l2), (3, vI l3)]) (by decide +kernel) rfl (Nat.le_of_ble_eq_true rfl) rfl (fun E hR => ?_) l D cy ad
  unfold wX10_entryFault at h
  refine g_iload_n dX10_entryFault_0 rfl ?_
  refine g_iload_n dX10_entryFault_1 rfl ?_
  refine g_cSi (st := []) (av := [vI l1, vI l2]) (kX10_memberOfEntry h) cw_RX10_130 (by decide) (by decide) (Nat.le_of_ble_eq_true rfl) rfl dX10_entryFault_2 (fun y2 m1 h => ?_)
  refine g_istore (lv' := [(4, vI y2), (0, vR 0), (1, vI l1), (2, vI l2), (3, vI l3)]) dX10_entryFault_5 (by decide) rfl ?_
  refine g_aload_n dX10_entryFault_7 rfl ?_
  refine g_getR (r := 40) fl_10_12 kd_0 rfl dX10_entryFault_8 ?_
  refine g_iload dX10_entryFault_11 rfl ?_
  refine g_cVi (st := []) (av := [vI y2]) (kX1_has bk_40 h) (kd_bk0 bk_40) rfl cw_RX10_111 (by decide) (by decide) (Nat.le_of_ble_eq_true rfl) rfl dX10_entryFault_13 (fun y4 m3 h => ?_)
  obtain ⟨hA, hB⟩ := h
  refine g_if_ne (tgt := 21) dX10_entryFault_16 (by decide) (fun hc => ?_) (fun hc => ?_)
  · replace h := hA hc
    refine g_iload_n dX10_entryFault_21 rfl ?_
    obtain ⟨hA, hB⟩ := h
    refine g_if_lt (tgt := 32) dX10_entryFault_22 (by decide) (fun hc => ?_) (fun hc => ?_)
    · replace h := hA hc
      refine g_iconst dX10_entryFault_32 2 rfl (by decide) ?_
      exact g_iret hR dX10_entryFault_33 h
    · replace h := hB hc
      refine g_iload_n dX10_entryFault_25 rfl ?_
      refine g_sipush dX10_entryFault_26 999 rfl (by decide) ?_
      obtain ⟨hA, hB⟩ := h
      refine g_icmp_le (tgt := 34) dX10_entryFault_29 (by decide) (fun hc => ?_) (fun hc => ?_)
      · replace h := hA hc
        refine g_iload_n dX10_entryFault_34 rfl ?_
        refine g_aload_n dX10_entryFault_35 rfl ?_
        refine g_getR (r := 40) fl_10_12 kd_0 rfl dX10_entryFault_36 ?_
        refine g_iload dX10_entryFault_39 rfl ?_
        refine g_iload_n dX10_entryFault_41 rfl ?_
        refine g_cVi (st := [vI l3]) (av := [vI y2, vI l1]) (kX1_owed bk_40 h) (kd_bk0 bk_40) rfl cw_RX10_140 (by decide) (by decide) (Nat.le_of_ble_eq_true rfl) rfl dX10_entryFault_42 (fun y6 m5 h => ?_)
        obtain ⟨hA, hB⟩ := h
        refine g_icmp_ge (tgt := 52) dX10_entryFault_45 (by decide) (fun hc => ?_) (fun hc => ?_)
        · replace h := hA hc
          refine g_iconst dX10_entryFault_52 0 rfl (by decide) ?_
          exact g_iret hR dX10_entryFault_53 h
        · replace h := hB hc
          refine g_iconst dX10_entryFault_48 3 rfl (by decide) ?_
          refine g_goto (tgt := 53) dX10_entryFault_49 (by decide) ?_
          exact g_iret hR dX10_entryFault_53 h
      · replace h := hB hc
        refine g_iconst dX10_entryFault_32 2 rfl (by decide) ?_
        exact g_iret hR dX10_entryFault_33 h
  · replace h := hB hc
    refine g_iconst dX10_entryFault_19 1 rfl (by decide) ?_
    exact g_iret hR dX10_entryFault_20 h
def wX10_sheet_119 (K119 : (Int × Int × Int × Int × Int × Int × Int) → Mem → Prop) (Q : Int → Mem → Prop) (l1 : Int) (l2 : Int) (l3 : Int) (l4 : Int) (l5 : Int) (l6 : Int) (l7 : Int) (σ : Mem) : Prop := ((l3 ≤ l7 → Q l6 σ) ∧ (¬ l3 ≤ l7 → (wX10_memberOfEntry l1 l7 σ (fun y2 m1 => (wX10_at l1 y2 m1 (fun y4 m3 => (wX10_entryOf l2 (w32 (l4 + (w32 (l7 * l5)))) m3 (fun y6 m5 => ((0 ≤ y4 ∧ y4 < 64) ∧ ((m5 (40 + 1) y4.toNat = y6 → (∀ x7 : Int, x7 = w32 (l7 + 1) → K119 (l1, l2, l3, l4, l5, l6, x7) m5)) ∧ (¬ m5 (40 + 1) y4.toNat = y6 → ((0 ≤ y4 ∧ y4 < 64) ∧ (∀ m8 : Mem, m8 = up2 m5 (40 + 1) y4.toNat y6 → (∀ x9 : Int, x9 = w32 (l6 + 1) → (∀ x10 : Int, x10 = w32 (l7 + 1) → K119 (l1, l2, l3, l4, l5, x9, x10) m8)))))))))))))))
def wLX10_sheet_119 (Q : Int → Mem → Prop) (l1 : Int) (l2 : Int) (l3 : Int) (l4 : Int) (l5 : Int) (l6 : Int) (l7 : Int) (σ : Mem) : Prop := ∃ n, lp (fun (K119 : (Int × Int × Int × Int × Int × Int × Int) → Mem → Prop) (x : Int × Int × Int × Int × Int × Int × Int) (σ : Mem) => wX10_sheet_119 K119 Q x.1 x.2.1 x.2.2.1 x.2.2.2.1 x.2.2.2.2.1 x.2.2.2.2.2.1 x.2.2.2.2.2.2 σ) n (l1, l2, l3, l4, l5, l6, l7) σ
def wX10_sheet_59 (K59 : (Int × Int × Int × Int × Int × Int) → Mem → Prop) (Q : Int → Mem → Prop) (l1 : Int) (l2 : Int) (l3 : Int) (l4 : Int) (l5 : Int) (l6 : Int) (σ : Mem) : Prop := ((l3 ≤ l6 → wLX10_sheet_119 Q l1 l2 l3 l4 l5 0 0 σ) ∧ (¬ l3 ≤ l6 → (wX10_entryOf l2 (w32 (l4 + (w32 (l6 * l5)))) σ (fun y2 m1 => (wX10_entryFault l1 l6 y2 m1 (fun y4 m3 => ((y4 = 0 → (∀ x5 : Int, x5 = w32 (l6 + 1) → K59 (l1, l2, l3, l4, l5, x5) m3)) ∧ (¬ y4 = 0 → (wX5_tellTwo l6 y4 m3 (fun m6 => Q ((-4)) m6))))))))))
def wLX10_sheet_59 (Q : Int → Mem → Prop) (l1 : Int) (l2 : Int) (l3 : Int) (l4 : Int) (l5 : Int) (l6 : Int) (σ : Mem) : Prop := ∃ n, lp (fun (K59 : (Int × Int × Int × Int × Int × Int) → Mem → Prop) (x : Int × Int × Int × Int × Int × Int) (σ : Mem) => wX10_sheet_59 K59 Q x.1 x.2.1 x.2.2.1 x.2.2.2.1 x.2.2.2.2.1 x.2.2.2.2.2 σ) n (l1, l2, l3, l4, l5, l6) σ
def wX10_sheet (l1 : Int) (l2 : Int) (l3 : Int) (l4 : Int) (l5 : Int) (σ : Mem) (Q : Int → Mem → Prop) : Prop := (wX1_has 40 l1 σ (fun y2 m1 => ((y2 = 0 → Q ((-1)) m1) ∧ (¬ y2 = 0 → ((l2 < 0 → Q ((-1)) m1) ∧ (¬ l2 < 0 → ((3 < l2 → Q ((-1)) m1) ∧ (¬ 3 < l2 → ((l3 ≤ 20 → (wX1_holdsAny 40 m1 (fun y4 m3 => ((y4 = 0 → ((¬ l2 = 3 → ((0 ≤ l3 → wLX10_sheet_59 Q l1 l2 l3 l4 l5 0 m3) ∧ (¬ 0 ≤ l3 → Q ((-2)) m3))) ∧ (l2 = 3 → Q ((-3)) m3))) ∧ (¬ y4 = 0 → Q ((-5)) m3))))) ∧ (¬ l3 ≤ 20 → Q ((-1)) m1))))))))))
set_option maxHeartbeats 1000000 in
theorem bX10_sheet_119 {E : TE} {K119 : (Int × Int × Int × Int × Int × Int × Int) → Mem → Prop} (hK119 : ∀ (x : Int × Int × Int × Int × Int × Int × Int) (σ : Mem), K119 x σ → GW E cX10_sheet 10 RX10 3 70 σ 119 [(0, vR 0), (1, vI x.1), (2, vI x.2.1), (3, vI x.2.2.1), (4, vI x.2.2.2.1), (5, vI x.2.2.2.2.1), (6, vI x.2.2.2.2.2.1), (7, vI x.2.2.2.2.2.2)] []) {Q : Int → Mem → Prop} (hR : RI E (some .int) Q) {l1 : Int} {l2 : Int} {l3 : Int} {l4 : Int} {l5 : Int} {l6 : Int} {l7 : Int} {σ : Mem} (h : wX10_sheet_119 K119 Q l1 l2 l3 l4 l5 l6 l7 σ) : GW E cX10_sheet 10 RX10 3 70 σ 119 [(0, vR 0), (1, vI l1), (2, vI l2), (3, vI l3), (4, vI l4), (5, vI l5), (6, vI l6), (7, vI l7)] [] := by
  unfold wX10_sheet_119 at h
  refine g_iload dX10_sheet_119 rfl ?_
  refine g_iload_n dX10_sheet_121 rfl ?_
  obtain ⟨hA, hB⟩ := h
  refine g_icmp_ge (tgt := 187) dX10_sheet_122 (by decide) (fun hc => ?_) (fun hc => ?_)
  · replace h := hA hc
    refine g_iload dX10_sheet_187 rfl ?_
    exact g_iret hR dX10_sheet_189 h
  · replace h := hB hc
    refine g_iload_n dX10_sheet_125 rfl ?_
    refine g_iload_n dX10_sheet_126 rfl ?_
    refine g_iload dX10_sheet_127 rfl ?_
    refine g_cSi (st := [vI l1]) (av := [vI l1, vI l7]) (kX10_memberOfEntry h) cw_RX10_130 (by decide) (by decide) (Nat.le_of_ble_eq_true rfl) rfl dX10_sheet_129 (fun y2 m1 h => ?_)
    refine g_cSi (st := []) (av := [vI l1, vI y2]) (kX10_at h) cw_RX10_133 (by decide) (by decide) (Nat.le_of_ble_eq_true rfl) rfl dX10_sheet_132 (fun y4 m3 h => ?_)
    refine g_istore (lv' := [(8, vI y4), (0, vR 0), (1, vI l1), (2, vI l2), (3, vI l3), (4, vI l4), (5, vI l5), (6, vI l6), (7, vI l7)]) dX10_sheet_135 (by decide) rfl ?_
    refine g_iload_n dX10_sheet_137 rfl ?_
    refine g_iload dX10_sheet_138 rfl ?_
    refine g_iload dX10_sheet_140 rfl ?_
    refine g_iload dX10_sheet_142 rfl ?_
    refine g_imul dX10_sheet_144 ?_
    refine g_iadd dX10_sheet_145 ?_
    refine g_cSi (st := []) (av := [vI l2, vI (w32 (l4 + (w32 (l7 * l5))))]) (kX10_entryOf h) cw_RX10_118 (by decide) (by decide) (Nat.le_of_ble_eq_true rfl) rfl dX10_sheet_146 (fun y6 m5 h => ?_)
    refine g_istore (lv' := [(9, vI y6), (8, vI y4), (0, vR 0), (1, vI l1), (2, vI l2), (3, vI l3), (4, vI l4), (5, vI l5), (6, vI l6), (7, vI l7)]) dX10_sheet_149 (by decide) rfl ?_
    refine g_aload_n dX10_sheet_151 rfl ?_
    refine g_getR (r := 40) fl_10_12 kd_0 rfl dX10_sheet_152 ?_
    refine g_getR (r := 40 + 1) fl_10_136 (kd_bk0 bk_40) rfl dX10_sheet_155 ?_
    refine g_iload dX10_sheet_158 rfl ?_
    obtain ⟨hin, h⟩ := h
    refine g_iald (kd_bk1 bk_40) hin dX10_sheet_160 ?_
    refine g_iload dX10_sheet_161 rfl ?_
    obtain ⟨hA, hB⟩ := h
    refine g_icmp_eq (tgt := 181) dX10_sheet_163 (by decide) (fun hc => ?_) (fun hc => ?_)
    · replace h := hA hc
      refine g_iinc (lv' := [(7, vI (w32 (l7 + 1))), (9, vI y6), (8, vI y4), (0, vR 0), (1, vI l1), (2, vI l2), (3, vI l3), (4, vI l4), (5, vI l5), (6, vI l6)]) dX10_sheet_181 rfl (by decide) rfl ?_
      refine g_loc (a := w32 (l7 + 1)) (i := 7) (lv := [(9, vI y6), (8, vI y4), (0, vR 0), (1, vI l1), (2, vI l2), (3, vI l3), (4, vI l4), (5, vI l5), (6, vI l6)]) (fun x7 ex7 => ?_)
      replace h := h x7 ex7
      refine g_goto (tgt := 119) dX10_sheet_184 (by decide) ?_
      refine g_lv (lv' := [(0, vR 0), (1, vI l1), (2, vI l2), (3, vI l3), (4, vI l4), (5, vI l5), (6, vI l6), (7, vI x7)]) [3, 4, 5, 6, 7, 8, 9, 0] rfl ?_
      exact hK119 ((l1, l2, l3, l4, l5, l6, x7)) m5 h
    · replace h := hB hc
      refine g_aload_n dX10_sheet_166 rfl ?_
      refine g_getR (r := 40) fl_10_12 kd_0 rfl dX10_sheet_167 ?_
      refine g_getR (r := 40 + 1) fl_10_136 (kd_bk0 bk_40) rfl dX10_sheet_170 ?_
      refine g_iload dX10_sheet_173 rfl ?_
      refine g_iload dX10_sheet_175 rfl ?_
      obtain ⟨hin, h⟩ := h
      refine g_iast (kd_bk1 bk_40) hin dX10_sheet_177 ?_
      refine g_nm (fun m8 em8 => ?_)
      replace h := h m8 em8
      refine g_iinc (lv' := [(6, vI (w32 (l6 + 1))), (9, vI y6), (8, vI y4), (0, vR 0), (1, vI l1), (2, vI l2), (3, vI l3), (4, vI l4), (5, vI l5), (7, vI l7)]) dX10_sheet_178 rfl (by decide) rfl ?_
      refine g_loc (a := w32 (l6 + 1)) (i := 6) (lv := [(9, vI y6), (8, vI y4), (0, vR 0), (1, vI l1), (2, vI l2), (3, vI l3), (4, vI l4), (5, vI l5), (7, vI l7)]) (fun x9 ex9 => ?_)
      replace h := h x9 ex9
      refine g_iinc (lv' := [(7, vI (w32 (l7 + 1))), (6, vI x9), (9, vI y6), (8, vI y4), (0, vR 0), (1, vI l1), (2, vI l2), (3, vI l3), (4, vI l4), (5, vI l5)]) dX10_sheet_181 rfl (by decide) rfl ?_
      refine g_loc (a := w32 (l7 + 1)) (i := 7) (lv := [(6, vI x9), (9, vI y6), (8, vI y4), (0, vR 0), (1, vI l1), (2, vI l2), (3, vI l3), (4, vI l4), (5, vI l5)]) (fun x10 ex10 => ?_)
      replace h := h x10 ex10
      refine g_goto (tgt := 119) dX10_sheet_184 (by decide) ?_
      refine g_lv (lv' := [(0, vR 0), (1, vI l1), (2, vI l2), (3, vI l3), (4, vI l4), (5, vI l5), (6, vI x9), (7, vI x10)]) [4, 5, 6, 7, 8, 9, 1, 0] rfl ?_
      exact hK119 ((l1, l2, l3, l4, l5, x9, x10)) m8 h
theorem eX10_sheet_119 {E : TE} {Q : Int → Mem → Prop} (hR : RI E (some .int) Q) {l1 : Int} {l2 : Int} {l3 : Int} {l4 : Int} {l5 : Int} {l6 : Int} {l7 : Int} {σ : Mem} (h : wLX10_sheet_119 Q l1 l2 l3 l4 l5 l6 l7 σ) : GW E cX10_sheet 10 RX10 3 70 σ 119 [(0, vR 0), (1, vI l1), (2, vI l2), (3, vI l3), (4, vI l4), (5, vI l5), (6, vI l6), (7, vI l7)] [] := by
  obtain ⟨n, h⟩ := h
  exact lp_GW (P := fun (x : Int × Int × Int × Int × Int × Int × Int) (σ : Mem) => GW E cX10_sheet 10 RX10 3 70 σ 119 [(0, vR 0), (1, vI x.1), (2, vI x.2.1), (3, vI x.2.2.1), (4, vI x.2.2.2.1), (5, vI x.2.2.2.2.1), (6, vI x.2.2.2.2.2.1), (7, vI x.2.2.2.2.2.2)] []) (fun K hK x σ h  => bX10_sheet_119 hK hR h) n _ σ h 
set_option maxHeartbeats 1000000 in
theorem bX10_sheet_59 {E : TE} {K59 : (Int × Int × Int × Int × Int × Int) → Mem → Prop} (hK59 : ∀ (x : Int × Int × Int × Int × Int × Int) (σ : Mem), K59 x σ → GW E cX10_sheet 10 RX10 3 70 σ 59 [(0, vR 0), (1, vI x.1), (2, vI x.2.1), (3, vI x.2.2.1), (4, vI x.2.2.2.1), (5, vI x.2.2.2.2.1), (6, vI x.2.2.2.2.2)] []) {Q : Int → Mem → Prop} (hR : RI E (some .int) Q) {l1 : Int} {l2 : Int} {l3 : Int} {l4 : Int} {l5 : Int} {l6 : Int} {σ : Mem} (h : wX10_sheet_59 K59 Q l1 l2 l3 l4 l5 l6 σ) : GW E cX10_sheet 10 RX10 3 70 σ 59 [(0, vR 0), (1, vI l1), (2, vI l2), (3, vI l3), (4, vI l4), (5, vI l5), (6, vI l6)] [] := by
  unfold wX10_sheet_59 at h
  refine g_iload dX10_sheet_59 rfl ?_
  refine g_iload_n dX10_sheet_61 rfl ?_
  obtain ⟨hA, hB⟩ := h
  refine g_icmp_ge (tgt := 113) dX10_sheet_62 (by decide) (fun hc => ?_) (fun hc => ?_)
  · replace h := hA hc
    refine g_iconst dX10_sheet_113 0 rfl (by decide) ?_
    refine g_istore (lv' := [(6, vI 0), (0, vR 0), (1, vI l1), (2, vI l2), (3, vI l3), (4, vI l4), (5, vI l5)]) dX10_sheet_114 (by decide) rfl ?_
    refine g_iconst dX10_sheet_116 0 rfl (by decide) ?_
    refine g_istore (lv' := [(7, vI 0), (6, vI 0), (0, vR 0), (1, vI l1), (2, vI l2), (3, vI l3), (4, vI l4), (5, vI l5)]) dX10_sheet_117 (by decide) rfl ?_
    refine g_lv (lv' := [(0, vR 0), (1, vI l1), (2, vI l2), (3, vI l3), (4, vI l4), (5, vI l5), (6, vI 0), (7, vI 0)]) [2, 3, 4, 5, 6, 7, 1, 0] rfl ?_
    exact eX10_sheet_119 hR h
  · replace h := hB hc
    refine g_aload_n dX10_sheet_65 rfl ?_
    refine g_iload_n dX10_sheet_66 rfl ?_
    refine g_iload dX10_sheet_67 rfl ?_
    refine g_iload_n dX10_sheet_69 rfl ?_
    refine g_iload dX10_sheet_70 rfl ?_
    refine g_iload dX10_sheet_72 rfl ?_
    refine g_iload dX10_sheet_74 rfl ?_
    refine g_imul dX10_sheet_76 ?_
    refine g_iadd dX10_sheet_77 ?_
    refine g_cSi (st := [vI l6, vI l1, vR 0]) (av := [vI l2, vI (w32 (l4 + (w32 (l6 * l5))))]) (kX10_entryOf h) cw_RX10_118 (by decide) (by decide) (Nat.le_of_ble_eq_true rfl) rfl dX10_sheet_78 (fun y2 m1 h => ?_)
    refine g_cVi (st := []) (av := [vI l1, vI l6, vI y2]) (kX10_entryFault h) kd_0 rfl cw_RX10_122 (by decide) (by decide) (Nat.le_of_ble_eq_true rfl) rfl dX10_sheet_81 (fun y4 m3 h => ?_)
    refine g_istore (lv' := [(7, vI y4), (0, vR 0), (1, vI l1), (2, vI l2), (3, vI l3), (4, vI l4), (5, vI l5), (6, vI l6)]) dX10_sheet_84 (by decide) rfl ?_
    refine g_iload dX10_sheet_86 rfl ?_
    obtain ⟨hA, hB⟩ := h
    refine g_if_eq (tgt := 107) dX10_sheet_88 (by decide) (fun hc => ?_) (fun hc => ?_)
    · replace h := hA hc
      refine g_iinc (lv' := [(6, vI (w32 (l6 + 1))), (7, vI y4), (0, vR 0), (1, vI l1), (2, vI l2), (3, vI l3), (4, vI l4), (5, vI l5)]) dX10_sheet_107 rfl (by decide) rfl ?_
      refine g_loc (a := w32 (l6 + 1)) (i := 6) (lv := [(7, vI y4), (0, vR 0), (1, vI l1), (2, vI l2), (3, vI l3), (4, vI l4), (5, vI l5)]) (fun x5 ex5 => ?_)
      replace h := h x5 ex5
      refine g_goto (tgt := 59) dX10_sheet_110 (by decide) ?_
      refine g_lv (lv' := [(0, vR 0), (1, vI l1), (2, vI l2), (3, vI l3), (4, vI l4), (5, vI l5), (6, vI x5)]) [2, 3, 4, 5, 6, 7, 0] rfl ?_
      exact hK59 ((l1, l2, l3, l4, l5, x5)) m3 h
    · replace h := hB hc
      refine g_aload_n dX10_sheet_91 rfl ?_
      refine g_getR (r := 12) fl_10_54 kd_0 rfl dX10_sheet_92 ?_
      refine g_iload dX10_sheet_95 rfl ?_
      refine g_i2l dX10_sheet_97 ?_
      refine g_iload dX10_sheet_98 rfl ?_
      refine g_i2l dX10_sheet_100 ?_
      refine g_cVv (st := []) (av := [vL l6, vL y4]) (kX5_tellTwo h) kd_12 rfl cw_RX10_126 (by decide) (by decide) (Nat.le_of_ble_eq_true rfl) rfl dX10_sheet_101 (fun m6 h => ?_)
      refine g_bipush dX10_sheet_104 (-4) rfl (by decide) ?_
      exact g_iret hR dX10_sheet_106 h
theorem eX10_sheet_59 {E : TE} {Q : Int → Mem → Prop} (hR : RI E (some .int) Q) {l1 : Int} {l2 : Int} {l3 : Int} {l4 : Int} {l5 : Int} {l6 : Int} {σ : Mem} (h : wLX10_sheet_59 Q l1 l2 l3 l4 l5 l6 σ) : GW E cX10_sheet 10 RX10 3 70 σ 59 [(0, vR 0), (1, vI l1), (2, vI l2), (3, vI l3), (4, vI l4), (5, vI l5), (6, vI l6)] [] := by
  obtain ⟨n, h⟩ := h
  exact lp_GW (P := fun (x : Int × Int × Int × Int × Int × Int) (σ : Mem) => GW E cX10_sheet 10 RX10 3 70 σ 59 [(0, vR 0), (1, vI x.1), (2, vI x.2.1), (3, vI x.2.2.1), (4, vI x.2.2.2.1), (5, vI x.2.2.2.2.1), (6, vI x.2.2.2.2.2)] []) (fun K hK x σ h  => bX10_sheet_59 hK hR h) n _ σ h 
set_option maxHeartbeats 1000000 in
theorem kX10_sheet {l1 : Int} {l2 : Int} {l3 : Int} {l4 : Int} {l5 : Int} {σ : Mem} {Q : Int → Mem → Prop} (h : wX10_sheet l1 l2 l3 l4 l5 σ Q) (l : Launch) (D : va_G) (cy : Nat → ClassId) (ad : Nat → Nat) : MI l yX10_sheet cX10_sheet 10 (some .int) 3 70 D cy ad [vR 0, vI l1, vI l2, vI l3, vI l4, vI l5] σ Q := by
  refine m_I (own := RX10) (lv := [(0, vR 0), (1, vI l1), (2, vI l2), (3, vI l3), (4, vI l4), (5, vI l5)]) (by decide +kernel) rfl (Nat.le_of_ble_eq_true rfl) rfl (fun E hR => ?_) l D cy ad
  unfold wX10_sheet at h
  refine g_aload_n dX10_sheet_0 rfl ?_
  refine g_getR (r := 40) fl_10_12 kd_0 rfl dX10_sheet_1 ?_
  refine g_iload_n dX10_sheet_4 rfl ?_
  refine g_cVi (st := []) (av := [vI l1]) (kX1_has bk_40 h) (kd_bk0 bk_40) rfl cw_RX10_111 (by decide) (by decide) (Nat.le_of_ble_eq_true rfl) rfl dX10_sheet_5 (fun y2 m1 h => ?_)
  obtain ⟨hA, hB⟩ := h
  refine g_if_eq (tgt := 26) dX10_sheet_8 (by decide) (fun hc => ?_) (fun hc => ?_)
  · replace h := hA hc
    refine g_iconst dX10_sheet_26 (-1) rfl (by decide) ?_
    exact g_iret hR dX10_sheet_27 h
  · replace h := hB hc
    refine g_iload_n dX10_sheet_11 rfl ?_
    obtain ⟨hA, hB⟩ := h
    refine g_if_lt (tgt := 26) dX10_sheet_12 (by decide) (fun hc => ?_) (fun hc => ?_)
    · replace h := hA hc
      refine g_iconst dX10_sheet_26 (-1) rfl (by decide) ?_
      exact g_iret hR dX10_sheet_27 h
    · replace h := hB hc
      refine g_iload_n dX10_sheet_15 rfl ?_
      refine g_iconst dX10_sheet_16 3 rfl (by decide) ?_
      obtain ⟨hA, hB⟩ := h
      refine g_icmp_gt (tgt := 26) dX10_sheet_17 (by decide) (fun hc => ?_) (fun hc => ?_)
      · replace h := hA hc
        refine g_iconst dX10_sheet_26 (-1) rfl (by decide) ?_
        exact g_iret hR dX10_sheet_27 h
      · replace h := hB hc
        refine g_iload_n dX10_sheet_20 rfl ?_
        refine g_bipush dX10_sheet_21 20 rfl (by decide) ?_
        obtain ⟨hA, hB⟩ := h
        refine g_icmp_le (tgt := 28) dX10_sheet_23 (by decide) (fun hc => ?_) (fun hc => ?_)
        · replace h := hA hc
          refine g_aload_n dX10_sheet_28 rfl ?_
          refine g_getR (r := 40) fl_10_12 kd_0 rfl dX10_sheet_29 ?_
          refine g_cVi (st := []) (av := []) (kX1_holdsAny bk_40 h) (kd_bk0 bk_40) rfl cw_RX10_114 (by decide) (by decide) (Nat.le_of_ble_eq_true rfl) rfl dX10_sheet_32 (fun y4 m3 h => ?_)
          obtain ⟨hA, hB⟩ := h
          refine g_if_eq (tgt := 41) dX10_sheet_35 (by decide) (fun hc => ?_) (fun hc => ?_)
          · replace h := hA hc
            refine g_iload_n dX10_sheet_41 rfl ?_
            refine g_iconst dX10_sheet_42 3 rfl (by decide) ?_
            obtain ⟨hA, hB⟩ := h
            refine g_icmp_ne (tgt := 49) dX10_sheet_43 (by decide) (fun hc => ?_) (fun hc => ?_)
            · replace h := hA hc
              refine g_iload_n dX10_sheet_49 rfl ?_
              obtain ⟨hA, hB⟩ := h
              refine g_if_ge (tgt := 56) dX10_sheet_50 (by decide) (fun hc => ?_) (fun hc => ?_)
              · replace h := hA hc
                refine g_iconst dX10_sheet_56 0 rfl (by decide) ?_
                refine g_istore (lv' := [(6, vI 0), (0, vR 0), (1, vI l1), (2, vI l2), (3, vI l3), (4, vI l4), (5, vI l5)]) dX10_sheet_57 (by decide) rfl ?_
                refine g_lv (lv' := [(0, vR 0), (1, vI l1), (2, vI l2), (3, vI l3), (4, vI l4), (5, vI l5), (6, vI 0)]) [1, 2, 3, 4, 5, 6, 0] rfl ?_
                exact eX10_sheet_59 hR h
              · replace h := hB hc
                refine g_bipush dX10_sheet_53 (-2) rfl (by decide) ?_
                exact g_iret hR dX10_sheet_55 h
            · replace h := hB hc
              refine g_bipush dX10_sheet_46 (-3) rfl (by decide) ?_
              exact g_iret hR dX10_sheet_48 h
          · replace h := hB hc
            refine g_bipush dX10_sheet_38 (-5) rfl (by decide) ?_
            exact g_iret hR dX10_sheet_40 h
        · replace h := hB hc
          refine g_iconst dX10_sheet_26 (-1) rfl (by decide) ?_
          exact g_iret hR dX10_sheet_27 h
def wX10_line (l1 : Int) (l2 : Int) (σ : Mem) (Q : Int → Mem → Prop) : Prop := (wX1_hasBoth 40 l1 l2 σ (fun y2 m1 => ((¬ y2 = 0 → (wX1_owed 40 l2 l1 m1 (fun y4 m3 => (wX1_room 40 l2 l1 m3 (fun y6 m5 => (wX1_heldBetween 40 l2 l1 m5 (fun y8 m7 => (wX5_tellThree y4 y6 y8 m7 (fun m9 => (wX10_at l1 l2 m9 (fun y11 m10 => ((0 ≤ y11 ∧ y11 < 64) ∧ Q (m10 (40 + 1) y11.toNat) m10)))))))))))) ∧ (y2 = 0 → Q ((-1)) m1))))
set_option maxHeartbeats 1000000 in
theorem kX10_line {l1 : Int} {l2 : Int} {σ : Mem} {Q : Int → Mem → Prop} (h : wX10_line l1 l2 σ Q) (l : Launch) (D : va_G) (cy : Nat → ClassId) (ad : Nat → Nat) : MI l yX10_line cX10_line 3 (some .int) 4 94 D cy ad [vR 0, vI l1, vI l2] σ Q := by
  refine m_I (own := RX10) (lv := [(0, vR 0), (1, vI l1), (2, vI l2)]) (by decide +kernel) rfl (Nat.le_of_ble_eq_true rfl) rfl (fun E hR => ?_) l D cy ad
  unfold wX10_line at h
  refine g_aload_n dX10_line_0 rfl ?_
  refine g_getR (r := 40) fl_10_12 kd_0 rfl dX10_line_1 ?_
  refine g_iload_n dX10_line_4 rfl ?_
  refine g_iload_n dX10_line_5 rfl ?_
  refine g_cVi (st := []) (av := [vI l1, vI l2]) (kX1_hasBoth bk_40 h) (kd_bk0 bk_40) rfl cw_RX10_143 (by decide) (by decide) (Nat.le_of_ble_eq_true rfl) rfl dX10_line_6 (fun y2 m1 h => ?_)
  obtain ⟨hA, hB⟩ := h
  refine g_if_ne (tgt := 14) dX10_line_9 (by decide) (fun hc => ?_) (fun hc => ?_)
  · replace h := hA hc
    refine g_aload_n dX10_line_14 rfl ?_
    refine g_getR (r := 12) fl_10_54 kd_0 rfl dX10_line_15 ?_
    refine g_aload_n dX10_line_18 rfl ?_
    refine g_getR (r := 40) fl_10_12 kd_0 rfl dX10_line_19 ?_
    refine g_iload_n dX10_line_22 rfl ?_
    refine g_iload_n dX10_line_23 rfl ?_
    refine g_cVi (st := [vR 12]) (av := [vI l2, vI l1]) (kX1_owed bk_40 h) (kd_bk0 bk_40) rfl cw_RX10_140 (by decide) (by decide) (Nat.le_of_ble_eq_true rfl) rfl dX10_line_24 (fun y4 m3 h => ?_)
    refine g_i2l dX10_line_27 ?_
    refine g_aload_n dX10_line_28 rfl ?_
    refine g_getR (r := 40) fl_10_12 kd_0 rfl dX10_line_29 ?_
    refine g_iload_n dX10_line_32 rfl ?_
    refine g_iload_n dX10_line_33 rfl ?_
    refine g_cVi (st := [vL y4, vR 12]) (av := [vI l2, vI l1]) (kX1_room bk_40 h) (kd_bk0 bk_40) rfl cw_RX10_147 (by decide) (by decide) (Nat.le_of_ble_eq_true rfl) rfl dX10_line_34 (fun y6 m5 h => ?_)
    refine g_i2l dX10_line_37 ?_
    refine g_aload_n dX10_line_38 rfl ?_
    refine g_getR (r := 40) fl_10_12 kd_0 rfl dX10_line_39 ?_
    refine g_iload_n dX10_line_42 rfl ?_
    refine g_iload_n dX10_line_43 rfl ?_
    refine g_cVi (st := [vL y6, vL y4, vR 12]) (av := [vI l2, vI l1]) (kX1_heldBetween bk_40 h) (kd_bk0 bk_40) rfl cw_RX10_150 (by decide) (by decide) (Nat.le_of_ble_eq_true rfl) rfl dX10_line_44 (fun y8 m7 h => ?_)
    refine g_i2l dX10_line_47 ?_
    refine g_cVv (st := []) (av := [vL y4, vL y6, vL y8]) (kX5_tellThree h) kd_12 rfl cw_RX10_153 (by decide) (by decide) (Nat.le_of_ble_eq_true rfl) rfl dX10_line_48 (fun m9 h => ?_)
    refine g_aload_n dX10_line_51 rfl ?_
    refine g_getR (r := 40) fl_10_12 kd_0 rfl dX10_line_52 ?_
    refine g_getR (r := 40 + 1) fl_10_136 (kd_bk0 bk_40) rfl dX10_line_55 ?_
    refine g_iload_n dX10_line_58 rfl ?_
    refine g_iload_n dX10_line_59 rfl ?_
    refine g_cSi (st := [vR (40 + 1)]) (av := [vI l1, vI l2]) (kX10_at h) cw_RX10_133 (by decide) (by decide) (Nat.le_of_ble_eq_true rfl) rfl dX10_line_60 (fun y11 m10 h => ?_)
    obtain ⟨hin, h⟩ := h
    refine g_iald (kd_bk1 bk_40) hin dX10_line_63 ?_
    exact g_iret hR dX10_line_64 h
  · replace h := hB hc
    refine g_iconst dX10_line_12 (-1) rfl (by decide) ?_
    exact g_iret hR dX10_line_13 h
def wX10_debts_70 (K9 : (Int × Int × Int × Int) → Mem → Prop) (K27 : (Int × Int × Int × Int × Int × Int) → Mem → Prop) (Q : Int → Mem → Prop) (l2 : Int) (l3 : Int) (l4 : Int) (l5 : Int) (l6 : Int) (s0 : Int) (s1 : Int) (σ : Mem) : Prop := (∀ x1 : Int, x1 = w32 (s1 + s0) → (∀ x2 : Int, x2 = w32 (l6 + 1) → K27 (x1, l2, l3, l4, l5, x2) σ))
def wX10_debts_27 (K9 : (Int × Int × Int × Int) → Mem → Prop) (K27 : (Int × Int × Int × Int × Int × Int) → Mem → Prop) (Q : Int → Mem → Prop) (l1 : Int) (l2 : Int) (l3 : Int) (l4 : Int) (l5 : Int) (l6 : Int) (σ : Mem) : Prop := ((σ 40 0 ≤ l6 → ((l5 ≤ l2 → (∀ x1 : Int, x1 = w32 (l4 + 1) → K9 (l1, l2, l3, x1) σ)) ∧ (¬ l5 ≤ l2 → (∀ x2 : Int, x2 = w32 (l4 + 1) → K9 (l1, l5, l4, x2) σ)))) ∧ (¬ σ 40 0 ≤ l6 → (wX1_owed 40 l4 l6 σ (fun y4 m3 => (∀ x5 : Int, x5 = w32 (l5 + y4) → ((y4 ≤ 0 → wX10_debts_70 K9 K27 Q l2 l3 l4 x5 l6 0 l1 m3) ∧ (¬ y4 ≤ 0 → wX10_debts_70 K9 K27 Q l2 l3 l4 x5 l6 1 l1 m3)))))))
def wLX10_debts_27 (K9 : (Int × Int × Int × Int) → Mem → Prop) (Q : Int → Mem → Prop) (l1 : Int) (l2 : Int) (l3 : Int) (l4 : Int) (l5 : Int) (l6 : Int) (σ : Mem) : Prop := ∃ n, lp (fun (K27 : (Int × Int × Int × Int × Int × Int) → Mem → Prop) (x : Int × Int × Int × Int × Int × Int) (σ : Mem) => wX10_debts_27 K9 K27 Q x.1 x.2.1 x.2.2.1 x.2.2.2.1 x.2.2.2.2.1 x.2.2.2.2.2 σ) n (l1, l2, l3, l4, l5, l6) σ
def wX10_debts_9 (K9 : (Int × Int × Int × Int) → Mem → Prop) (Q : Int → Mem → Prop) (l1 : Int) (l2 : Int) (l3 : Int) (l4 : Int) (σ : Mem) : Prop := ((σ 40 0 ≤ l4 → (wX5_tellThree l1 l3 l2 σ (fun m1 => (wX1_owedInAll 40 m1 (fun y3 m2 => Q y3 m2))))) ∧ (¬ σ 40 0 ≤ l4 → wLX10_debts_27 K9 Q l1 l2 l3 l4 0 0 σ))
def wLX10_debts_9 (Q : Int → Mem → Prop) (l1 : Int) (l2 : Int) (l3 : Int) (l4 : Int) (σ : Mem) : Prop := ∃ n, lp (fun (K9 : (Int × Int × Int × Int) → Mem → Prop) (x : Int × Int × Int × Int) (σ : Mem) => wX10_debts_9 K9 Q x.1 x.2.1 x.2.2.1 x.2.2.2 σ) n (l1, l2, l3, l4) σ
def wX10_debts (σ : Mem) (Q : Int → Mem → Prop) : Prop := wLX10_debts_9 Q 0 0 ((-1)) 0 σ
set_option maxHeartbeats 1000000 in
theorem bX10_debts_70 {E : TE} {K9 : (Int × Int × Int × Int) → Mem → Prop} {K27 : (Int × Int × Int × Int × Int × Int) → Mem → Prop} (hK9 : ∀ (x : Int × Int × Int × Int) (σ : Mem), K9 x σ → GW E cX10_debts 8 RX10 4 94 σ 9 [(0, vR 0), (1, vI x.1), (2, vI x.2.1), (3, vI x.2.2.1), (4, vI x.2.2.2)] []) (hK27 : ∀ (x : Int × Int × Int × Int × Int × Int) (σ : Mem), K27 x σ → GW E cX10_debts 8 RX10 4 94 σ 27 [(0, vR 0), (1, vI x.1), (2, vI x.2.1), (3, vI x.2.2.1), (4, vI x.2.2.2.1), (5, vI x.2.2.2.2.1), (6, vI x.2.2.2.2.2)] []) {Q : Int → Mem → Prop} (hR : RI E (some .int) Q) {l2 : Int} {l3 : Int} {l4 : Int} {l5 : Int} {l6 : Int} {s0 : Int} {s1 : Int} {σ : Mem} (h : wX10_debts_70 K9 K27 Q l2 l3 l4 l5 l6 s0 s1 σ) : GW E cX10_debts 8 RX10 4 94 σ 70 [(0, vR 0), (2, vI l2), (3, vI l3), (4, vI l4), (5, vI l5), (6, vI l6)] [vI s0, vI s1] := by
  unfold wX10_debts_70 at h
  refine g_iadd dX10_debts_70 ?_
  refine g_topI (fun x1 ex1 => ?_)
  replace h := h x1 ex1
  refine g_istore_n (lv' := [(1, vI x1), (0, vR 0), (2, vI l2), (3, vI l3), (4, vI l4), (5, vI l5), (6, vI l6)]) dX10_debts_71 (by decide) rfl ?_
  refine g_iinc (lv' := [(6, vI (w32 (l6 + 1))), (1, vI x1), (0, vR 0), (2, vI l2), (3, vI l3), (4, vI l4), (5, vI l5)]) dX10_debts_72 rfl (by decide) rfl ?_
  refine g_loc (a := w32 (l6 + 1)) (i := 6) (lv := [(1, vI x1), (0, vR 0), (2, vI l2), (3, vI l3), (4, vI l4), (5, vI l5)]) (fun x2 ex2 => ?_)
  replace h := h x2 ex2
  refine g_goto (tgt := 27) dX10_debts_75 (by decide) ?_
  refine g_lv (lv' := [(0, vR 0), (1, vI x1), (2, vI l2), (3, vI l3), (4, vI l4), (5, vI l5), (6, vI x2)]) [2, 1, 3, 4, 5, 6, 0] rfl ?_
  exact hK27 ((x1, l2, l3, l4, l5, x2)) σ h
set_option maxHeartbeats 1000000 in
theorem bX10_debts_27 {E : TE} {K9 : (Int × Int × Int × Int) → Mem → Prop} {K27 : (Int × Int × Int × Int × Int × Int) → Mem → Prop} (hK9 : ∀ (x : Int × Int × Int × Int) (σ : Mem), K9 x σ → GW E cX10_debts 8 RX10 4 94 σ 9 [(0, vR 0), (1, vI x.1), (2, vI x.2.1), (3, vI x.2.2.1), (4, vI x.2.2.2)] []) (hK27 : ∀ (x : Int × Int × Int × Int × Int × Int) (σ : Mem), K27 x σ → GW E cX10_debts 8 RX10 4 94 σ 27 [(0, vR 0), (1, vI x.1), (2, vI x.2.1), (3, vI x.2.2.1), (4, vI x.2.2.2.1), (5, vI x.2.2.2.2.1), (6, vI x.2.2.2.2.2)] []) {Q : Int → Mem → Prop} (hR : RI E (some .int) Q) {l1 : Int} {l2 : Int} {l3 : Int} {l4 : Int} {l5 : Int} {l6 : Int} {σ : Mem} (h : wX10_debts_27 K9 K27 Q l1 l2 l3 l4 l5 l6 σ) : GW E cX10_debts 8 RX10 4 94 σ 27 [(0, vR 0), (1, vI l1), (2, vI l2), (3, vI l3), (4, vI l4), (5, vI l5), (6, vI l6)] [] := by
  unfold wX10_debts_27 at h
  refine g_iload dX10_debts_27 rfl ?_
  refine g_aload_n dX10_debts_29 rfl ?_
  refine g_getR (r := 40) fl_10_12 kd_0 rfl dX10_debts_30 ?_
  refine g_getI fl_10_164 (kd_bk0 bk_40) rfl dX10_debts_33 ?_
  obtain ⟨hA, hB⟩ := h
  refine g_icmp_ge (tgt := 78) dX10_debts_36 (by decide) (fun hc => ?_) (fun hc => ?_)
  · replace h := hA hc
    refine g_iload dX10_debts_78 rfl ?_
    refine g_iload_n dX10_debts_80 rfl ?_
    obtain ⟨hA, hB⟩ := h
    refine g_icmp_le (tgt := 90) dX10_debts_81 (by decide) (fun hc => ?_) (fun hc => ?_)
    · replace h := hA hc
      refine g_iinc (lv' := [(4, vI (w32 (l4 + 1))), (0, vR 0), (1, vI l1), (2, vI l2), (3, vI l3), (5, vI l5), (6, vI l6)]) dX10_debts_90 rfl (by decide) rfl ?_
      refine g_loc (a := w32 (l4 + 1)) (i := 4) (lv := [(0, vR 0), (1, vI l1), (2, vI l2), (3, vI l3), (5, vI l5), (6, vI l6)]) (fun x1 ex1 => ?_)
      replace h := h x1 ex1
      refine g_goto (tgt := 9) dX10_debts_93 (by decide) ?_
      refine g_lv (lv' := [(0, vR 0), (1, vI l1), (2, vI l2), (3, vI l3), (4, vI x1)]) [1, 2, 3, 4, 0] rfl ?_
      exact hK9 ((l1, l2, l3, x1)) σ h
    · replace h := hB hc
      refine g_iload dX10_debts_84 rfl ?_
      refine g_istore_n (lv' := [(2, vI l5), (0, vR 0), (1, vI l1), (3, vI l3), (4, vI l4), (5, vI l5), (6, vI l6)]) dX10_debts_86 (by decide) rfl ?_
      refine g_iload dX10_debts_87 rfl ?_
      refine g_istore_n (lv' := [(3, vI l4), (2, vI l5), (0, vR 0), (1, vI l1), (4, vI l4), (5, vI l5), (6, vI l6)]) dX10_debts_89 (by decide) rfl ?_
      refine g_iinc (lv' := [(4, vI (w32 (l4 + 1))), (3, vI l4), (2, vI l5), (0, vR 0), (1, vI l1), (5, vI l5), (6, vI l6)]) dX10_debts_90 rfl (by decide) rfl ?_
      refine g_loc (a := w32 (l4 + 1)) (i := 4) (lv := [(3, vI l4), (2, vI l5), (0, vR 0), (1, vI l1), (5, vI l5), (6, vI l6)]) (fun x2 ex2 => ?_)
      replace h := h x2 ex2
      refine g_goto (tgt := 9) dX10_debts_93 (by decide) ?_
      refine g_lv (lv' := [(0, vR 0), (1, vI l1), (2, vI l5), (3, vI l4), (4, vI x2)]) [3, 4, 2, 1, 0] rfl ?_
      exact hK9 ((l1, l5, l4, x2)) σ h
  · replace h := hB hc
    refine g_aload_n dX10_debts_39 rfl ?_
    refine g_getR (r := 40) fl_10_12 kd_0 rfl dX10_debts_40 ?_
    refine g_iload dX10_debts_43 rfl ?_
    refine g_iload dX10_debts_45 rfl ?_
    refine g_cVi (st := []) (av := [vI l4, vI l6]) (kX1_owed bk_40 h) (kd_bk0 bk_40) rfl cw_RX10_140 (by decide) (by decide) (Nat.le_of_ble_eq_true rfl) rfl dX10_debts_47 (fun y4 m3 h => ?_)
    refine g_istore (lv' := [(7, vI y4), (0, vR 0), (1, vI l1), (2, vI l2), (3, vI l3), (4, vI l4), (5, vI l5), (6, vI l6)]) dX10_debts_50 (by decide) rfl ?_
    refine g_iload dX10_debts_52 rfl ?_
    refine g_iload dX10_debts_54 rfl ?_
    refine g_iadd dX10_debts_56 ?_
    refine g_topI (fun x5 ex5 => ?_)
    replace h := h x5 ex5
    refine g_istore (lv' := [(5, vI x5), (7, vI y4), (0, vR 0), (1, vI l1), (2, vI l2), (3, vI l3), (4, vI l4), (6, vI l6)]) dX10_debts_57 (by decide) rfl ?_
    refine g_iload_n dX10_debts_59 rfl ?_
    refine g_iload dX10_debts_60 rfl ?_
    obtain ⟨hA, hB⟩ := h
    refine g_if_le (tgt := 69) dX10_debts_62 (by decide) (fun hc => ?_) (fun hc => ?_)
    · replace h := hA hc
      refine g_iconst dX10_debts_69 0 rfl (by decide) ?_
      refine g_lv (lv' := [(0, vR 0), (2, vI l2), (3, vI l3), (4, vI l4), (5, vI x5), (6, vI l6)]) [2, 4, 5, 6, 0, 7] rfl ?_
      exact bX10_debts_70 hK9 hK27 hR h
    · replace h := hB hc
      refine g_iconst dX10_debts_65 1 rfl (by decide) ?_
      refine g_goto (tgt := 70) dX10_debts_66 (by decide) ?_
      refine g_lv (lv' := [(0, vR 0), (2, vI l2), (3, vI l3), (4, vI l4), (5, vI x5), (6, vI l6)]) [2, 4, 5, 6, 0, 7] rfl ?_
      exact bX10_debts_70 hK9 hK27 hR h
theorem eX10_debts_27 {E : TE} {K9 : (Int × Int × Int × Int) → Mem → Prop} (hK9 : ∀ (x : Int × Int × Int × Int) (σ : Mem), K9 x σ → GW E cX10_debts 8 RX10 4 94 σ 9 [(0, vR 0), (1, vI x.1), (2, vI x.2.1), (3, vI x.2.2.1), (4, vI x.2.2.2)] []) {Q : Int → Mem → Prop} (hR : RI E (some .int) Q) {l1 : Int} {l2 : Int} {l3 : Int} {l4 : Int} {l5 : Int} {l6 : Int} {σ : Mem} (h : wLX10_debts_27 K9 Q l1 l2 l3 l4 l5 l6 σ) : GW E cX10_debts 8 RX10 4 94 σ 27 [(0, vR 0), (1, vI l1), (2, vI l2), (3, vI l3), (4, vI l4), (5, vI l5), (6, vI l6)] [] := by
  obtain ⟨n, h⟩ := h
  exact lp_GW (P := fun (x : Int × Int × Int × Int × Int × Int) (σ : Mem) => GW E cX10_debts 8 RX10 4 94 σ 27 [(0, vR 0), (1, vI x.1), (2, vI x.2.1), (3, vI x.2.2.1), (4, vI x.2.2.2.1), (5, vI x.2.2.2.2.1), (6, vI x.2.2.2.2.2)] []) (fun K hK x σ h  => bX10_debts_27 hK9 hK hR h) n _ σ h 
set_option maxHeartbeats 1000000 in
theorem bX10_debts_9 {E : TE} {K9 : (Int × Int × Int × Int) → Mem → Prop} (hK9 : ∀ (x : Int × Int × Int × Int) (σ : Mem), K9 x σ → GW E cX10_debts 8 RX10 4 94 σ 9 [(0, vR 0), (1, vI x.1), (2, vI x.2.1), (3, vI x.2.2.1), (4, vI x.2.2.2)] []) {Q : Int → Mem → Prop} (hR : RI E (some .int) Q) {l1 : Int} {l2 : Int} {l3 : Int} {l4 : Int} {σ : Mem} (h : wX10_debts_9 K9 Q l1 l2 l3 l4 σ) : GW E cX10_debts 8 RX10 4 94 σ 9 [(0, vR 0), (1, vI l1), (2, vI l2), (3, vI l3), (4, vI l4)] [] := by
  unfold wX10_debts_9 at h
  refine g_iload dX10_debts_9 rfl ?_
  refine g_aload_n dX10_debts_11 rfl ?_
  refine g_getR (r := 40) fl_10_12 kd_0 rfl dX10_debts_12 ?_
  refine g_getI fl_10_164 (kd_bk0 bk_40) rfl dX10_debts_15 ?_
  obtain ⟨hA, hB⟩ := h
  refine g_icmp_ge (tgt := 96) dX10_debts_18 (by decide) (fun hc => ?_) (fun hc => ?_)
  · replace h := hA hc
    refine g_aload_n dX10_debts_96 rfl ?_
    refine g_getR (r := 12) fl_10_54 kd_0 rfl dX10_debts_97 ?_
    refine g_iload_n dX10_debts_100 rfl ?_
    refine g_i2l dX10_debts_101 ?_
    refine g_iload_n dX10_debts_102 rfl ?_
    refine g_i2l dX10_debts_103 ?_
    refine g_iload_n dX10_debts_104 rfl ?_
    refine g_i2l dX10_debts_105 ?_
    refine g_cVv (st := []) (av := [vL l1, vL l3, vL l2]) (kX5_tellThree h) kd_12 rfl cw_RX10_153 (by decide) (by decide) (Nat.le_of_ble_eq_true rfl) rfl dX10_debts_106 (fun m1 h => ?_)
    refine g_aload_n dX10_debts_109 rfl ?_
    refine g_getR (r := 40) fl_10_12 kd_0 rfl dX10_debts_110 ?_
    refine g_cVi (st := []) (av := []) (kX1_owedInAll bk_40 h) (kd_bk0 bk_40) rfl cw_RX10_170 (by decide) (by decide) (Nat.le_of_ble_eq_true rfl) rfl dX10_debts_113 (fun y3 m2 h => ?_)
    exact g_iret hR dX10_debts_116 h
  · replace h := hB hc
    refine g_iconst dX10_debts_21 0 rfl (by decide) ?_
    refine g_istore (lv' := [(5, vI 0), (0, vR 0), (1, vI l1), (2, vI l2), (3, vI l3), (4, vI l4)]) dX10_debts_22 (by decide) rfl ?_
    refine g_iconst dX10_debts_24 0 rfl (by decide) ?_
    refine g_istore (lv' := [(6, vI 0), (5, vI 0), (0, vR 0), (1, vI l1), (2, vI l2), (3, vI l3), (4, vI l4)]) dX10_debts_25 (by decide) rfl ?_
    refine g_lv (lv' := [(0, vR 0), (1, vI l1), (2, vI l2), (3, vI l3), (4, vI l4), (5, vI 0), (6, vI 0)]) [2, 3, 4, 5, 6, 1, 0] rfl ?_
    exact eX10_debts_27 hK9 hR h
theorem eX10_debts_9 {E : TE} {Q : Int → Mem → Prop} (hR : RI E (some .int) Q) {l1 : Int} {l2 : Int} {l3 : Int} {l4 : Int} {σ : Mem} (h : wLX10_debts_9 Q l1 l2 l3 l4 σ) : GW E cX10_debts 8 RX10 4 94 σ 9 [(0, vR 0), (1, vI l1), (2, vI l2), (3, vI l3), (4, vI l4)] [] := by
  obtain ⟨n, h⟩ := h
  exact lp_GW (P := fun (x : Int × Int × Int × Int) (σ : Mem) => GW E cX10_debts 8 RX10 4 94 σ 9 [(0, vR 0), (1, vI x.1), (2, vI x.2.1), (3, vI x.2.2.1), (4, vI x.2.2.2)] []) (fun K hK x σ h  => bX10_debts_9 hK hR h) n _ σ h 
set_option maxHeartbeats 1000000 in
theorem kX10_debts {σ : Mem} {Q : Int → Mem → Prop} (h : wX10_debts σ Q) (l : Launch) (D : va_G) (cy : Nat → ClassId) (ad : Nat → Nat) : MI l yX10_debts cX10_debts 8 (some .int) 4 94 D cy ad [vR 0] σ Q := by
  refine m_I (own := RX10) (lv := [(0, vR 0)]) (by decide +kernel) rfl (Nat.le_of_ble_eq_true rfl) rfl (fun E hR => ?_) l D cy ad
  unfold wX10_debts at h
  refine g_iconst dX10_debts_0 0 rfl (by decide) ?_
  refine g_istore_n (lv' := [(1, vI 0), (0, vR 0)]) dX10_debts_1 (by decide) rfl ?_
  refine g_iconst dX10_debts_2 0 rfl (by decide) ?_
  refine g_istore_n (lv' := [(2, vI 0), (1, vI 0), (0, vR 0)]) dX10_debts_3 (by decide) rfl ?_
  refine g_iconst dX10_debts_4 (-1) rfl (by decide) ?_
  refine g_istore_n (lv' := [(3, vI ((-1))), (2, vI 0), (1, vI 0), (0, vR 0)]) dX10_debts_5 (by decide) rfl ?_
  refine g_iconst dX10_debts_6 0 rfl (by decide) ?_
  refine g_istore (lv' := [(4, vI 0), (3, vI ((-1))), (2, vI 0), (1, vI 0), (0, vR 0)]) dX10_debts_7 (by decide) rfl ?_
  refine g_lv (lv' := [(0, vR 0), (1, vI 0), (2, vI 0), (3, vI ((-1))), (4, vI 0)]) [4, 3, 2, 1, 0] rfl ?_
  exact eX10_debts_9 hR h
def wX10_isSum (l0 : Int) (σ : Mem) (Q : Int → Mem → Prop) : Prop := ((l0 < 1 → Q 0 σ) ∧ (¬ l0 < 1 → ((9999 < l0 → Q 0 σ) ∧ (¬ 9999 < l0 → Q 1 σ))))
set_option maxHeartbeats 1000000 in
theorem kX10_isSum {l0 : Int} {σ : Mem} {Q : Int → Mem → Prop} (h : wX10_isSum l0 σ Q) (l : Launch) (D : va_G) (cy : Nat → ClassId) (ad : Nat → Nat) : MI l yX10_isSum cX10_isSum 1 (some .boolean) 0 0 D cy ad [vI l0] σ Q := by
  refine m_I (own := RX10) (lv := [(0, vI l0)]) (by decide +kernel) rfl (Nat.le_of_ble_eq_true rfl) rfl (fun E hR => ?_) l D cy ad
  unfold wX10_isSum at h
  refine g_iload_n dX10_isSum_0 rfl ?_
  refine g_iconst dX10_isSum_1 1 rfl (by decide) ?_
  obtain ⟨hA, hB⟩ := h
  refine g_icmp_lt (tgt := 16) dX10_isSum_2 (by decide) (fun hc => ?_) (fun hc => ?_)
  · replace h := hA hc
    refine g_iconst dX10_isSum_16 0 rfl (by decide) ?_
    exact g_zret hR dX10_isSum_17 (by decide) h
  · replace h := hB hc
    refine g_iload_n dX10_isSum_5 rfl ?_
    refine g_sipush dX10_isSum_6 9999 rfl (by decide) ?_
    obtain ⟨hA, hB⟩ := h
    refine g_icmp_gt (tgt := 16) dX10_isSum_9 (by decide) (fun hc => ?_) (fun hc => ?_)
    · replace h := hA hc
      refine g_iconst dX10_isSum_16 0 rfl (by decide) ?_
      exact g_zret hR dX10_isSum_17 (by decide) h
    · replace h := hB hc
      refine g_iconst dX10_isSum_12 1 rfl (by decide) ?_
      refine g_goto (tgt := 17) dX10_isSum_13 (by decide) ?_
      exact g_zret hR dX10_isSum_17 (by decide) h
def wX10_isPayment (l1 : Int) (l2 : Int) (l3 : Int) (σ : Mem) (Q : Int → Mem → Prop) : Prop := (wX1_hasBoth 40 l1 l2 σ (fun y2 m1 => ((y2 = 0 → Q 0 m1) ∧ (¬ y2 = 0 → (wX10_isSum l3 m1 (fun y4 m3 => ((y4 = 0 → Q 0 m3) ∧ (¬ y4 = 0 → Q 1 m3))))))))
set_option maxHeartbeats 1000000 in
theorem kX10_isPayment {l1 : Int} {l2 : Int} {l3 : Int} {σ : Mem} {Q : Int → Mem → Prop} (h : wX10_isPayment l1 l2 l3 σ Q) (l : Launch) (D : va_G) (cy : Nat → ClassId) (ad : Nat → Nat) : MI l yX10_isPayment cX10_isPayment 4 (some .boolean) 2 43 D cy ad [vR 0, vI l1, vI l2, vI l3] σ Q := by
  refine m_I (own := RX10) (lv := [(0, vR 0), (1, vI l1), (2, vI l2), (3, vI l3)]) (by decide +kernel) rfl (Nat.le_of_ble_eq_true rfl) rfl (fun E hR => ?_) l D cy ad
  unfold wX10_isPayment at h
  refine g_aload_n dX10_isPayment_0 rfl ?_
  refine g_getR (r := 40) fl_10_12 kd_0 rfl dX10_isPayment_1 ?_
  refine g_iload_n dX10_isPayment_4 rfl ?_
  refine g_iload_n dX10_isPayment_5 rfl ?_
  refine g_cVi (st := []) (av := [vI l1, vI l2]) (kX1_hasBoth bk_40 h) (kd_bk0 bk_40) rfl cw_RX10_143 (by decide) (by decide) (Nat.le_of_ble_eq_true rfl) rfl dX10_isPayment_6 (fun y2 m1 h => ?_)
  obtain ⟨hA, hB⟩ := h
  refine g_if_eq (tgt := 23) dX10_isPayment_9 (by decide) (fun hc => ?_) (fun hc => ?_)
  · replace h := hA hc
    refine g_iconst dX10_isPayment_23 0 rfl (by decide) ?_
    exact g_zret hR dX10_isPayment_24 (by decide) h
  · replace h := hB hc
    refine g_iload_n dX10_isPayment_12 rfl ?_
    refine g_cSi (st := []) (av := [vI l3]) (kX10_isSum h) cw_RX10_190 (by decide) (by decide) (Nat.le_of_ble_eq_true rfl) rfl dX10_isPayment_13 (fun y4 m3 h => ?_)
    obtain ⟨hA, hB⟩ := h
    refine g_if_eq (tgt := 23) dX10_isPayment_16 (by decide) (fun hc => ?_) (fun hc => ?_)
    · replace h := hA hc
      refine g_iconst dX10_isPayment_23 0 rfl (by decide) ?_
      exact g_zret hR dX10_isPayment_24 (by decide) h
    · replace h := hB hc
      refine g_iconst dX10_isPayment_19 1 rfl (by decide) ?_
      refine g_goto (tgt := 24) dX10_isPayment_20 (by decide) ?_
      exact g_zret hR dX10_isPayment_24 (by decide) h
def wX10_tellWay_9 (K9 : Int → Mem → Prop) (Q : Mem → Prop) (l1 : Int) (σ : Mem) : Prop := ((σ 14 7 ≤ l1 → Q σ) ∧ (¬ σ 14 7 ≤ l1 → (wX4_wayMember l1 σ (fun y2 m1 => (wX5_add y2 m1 (fun m3 => (∀ x4 : Int, x4 = w32 (l1 + 1) → K9 x4 m3)))))))
def wLX10_tellWay_9 (Q : Mem → Prop) (l1 : Int) (σ : Mem) : Prop := ∃ n, lp (fun (K9 : Int → Mem → Prop) (x : Int) (σ : Mem) => wX10_tellWay_9 K9 Q x σ) n l1 σ
def wX10_tellWay (σ : Mem) (Q : Mem → Prop) : Prop := (wX5_begin  σ (fun m1 => wLX10_tellWay_9 Q 0 m1))
set_option maxHeartbeats 1000000 in
theorem bX10_tellWay_9 {E : TE} {K9 : Int → Mem → Prop} (hK9 : ∀ (x : Int) (σ : Mem), K9 x σ → GW E cX10_tellWay 2 RX10 1 22 σ 9 [(0, vR 0), (1, vI x)] []) {Q : Mem → Prop} (hR : RV E none Q) {l1 : Int} {σ : Mem} (h : wX10_tellWay_9 K9 Q l1 σ) : GW E cX10_tellWay 2 RX10 1 22 σ 9 [(0, vR 0), (1, vI l1)] [] := by
  unfold wX10_tellWay_9 at h
  refine g_iload_n dX10_tellWay_9 rfl ?_
  refine g_aload_n dX10_tellWay_10 rfl ?_
  refine g_getR (r := 14) fl_10_61 kd_0 rfl dX10_tellWay_11 ?_
  refine g_getI fl_10_187 kd_14 rfl dX10_tellWay_14 ?_
  obtain ⟨hA, hB⟩ := h
  refine g_icmp_ge (tgt := 42) dX10_tellWay_17 (by decide) (fun hc => ?_) (fun hc => ?_)
  · replace h := hA hc
    exact g_vret hR dX10_tellWay_42 h
  · replace h := hB hc
    refine g_aload_n dX10_tellWay_20 rfl ?_
    refine g_getR (r := 12) fl_10_54 kd_0 rfl dX10_tellWay_21 ?_
    refine g_aload_n dX10_tellWay_24 rfl ?_
    refine g_getR (r := 14) fl_10_61 kd_0 rfl dX10_tellWay_25 ?_
    refine g_iload_n dX10_tellWay_28 rfl ?_
    refine g_cVi (st := [vR 12]) (av := [vI l1]) (kX4_wayMember h) kd_14 rfl cw_RX10_441 (by decide) (by decide) (Nat.le_of_ble_eq_true rfl) rfl dX10_tellWay_29 (fun y2 m1 h => ?_)
    refine g_i2l dX10_tellWay_32 ?_
    refine g_cVv (st := []) (av := [vL y2]) (kX5_add h) kd_12 rfl cw_RX10_229 (by decide) (by decide) (Nat.le_of_ble_eq_true rfl) rfl dX10_tellWay_33 (fun m3 h => ?_)
    refine g_iinc (lv' := [(1, vI (w32 (l1 + 1))), (0, vR 0)]) dX10_tellWay_36 rfl (by decide) rfl ?_
    refine g_loc (a := w32 (l1 + 1)) (i := 1) (lv := [(0, vR 0)]) (fun x4 ex4 => ?_)
    replace h := h x4 ex4
    refine g_goto (tgt := 9) dX10_tellWay_39 (by decide) ?_
    refine g_lv (lv' := [(0, vR 0), (1, vI x4)]) [1, 0] rfl ?_
    exact hK9 x4 m3 h
theorem eX10_tellWay_9 {E : TE} {Q : Mem → Prop} (hR : RV E none Q) {l1 : Int} {σ : Mem} (h : wLX10_tellWay_9 Q l1 σ) : GW E cX10_tellWay 2 RX10 1 22 σ 9 [(0, vR 0), (1, vI l1)] [] := by
  obtain ⟨n, h⟩ := h
  exact lp_GW (P := fun (x : Int) (σ : Mem) => GW E cX10_tellWay 2 RX10 1 22 σ 9 [(0, vR 0), (1, vI x)] []) (fun K hK x σ h  => bX10_tellWay_9 hK hR h) n _ σ h 
set_option maxHeartbeats 1000000 in
theorem kX10_tellWay {σ : Mem} {Q : Mem → Prop} (h : wX10_tellWay σ Q) (l : Launch) (D : va_G) (cy : Nat → ClassId) (ad : Nat → Nat) : MV l yX10_tellWay cX10_tellWay 2 none 1 22 D cy ad [vR 0] σ Q := by
  refine m_V (own := RX10) (lv := [(0, vR 0)]) (by decide +kernel) rfl (Nat.le_of_ble_eq_true rfl) rfl (fun E hR => ?_) l D cy ad
  unfold wX10_tellWay at h
  refine g_aload_n dX10_tellWay_0 rfl ?_
  refine g_getR (r := 12) fl_10_54 kd_0 rfl dX10_tellWay_1 ?_
  refine g_cVv (st := []) (av := []) (kX5_begin h) kd_12 rfl cw_RX10_220 (by decide) (by decide) (Nat.le_of_ble_eq_true rfl) rfl dX10_tellWay_4 (fun m1 h => ?_)
  refine g_iconst dX10_tellWay_7 0 rfl (by decide) ?_
  refine g_istore_n (lv' := [(1, vI 0), (0, vR 0)]) dX10_tellWay_8 (by decide) rfl ?_
  refine g_lv (lv' := [(0, vR 0), (1, vI 0)]) [1, 0] rfl ?_
  exact eX10_tellWay_9 hR h
def wX10_way (l1 : Int) (l2 : Int) (l3 : Int) (σ : Mem) (Q : Int → Mem → Prop) : Prop := (wX10_isPayment l1 l2 l3 σ (fun y2 m1 => ((¬ y2 = 0 → (wX4_load 40 m1 (fun m3 => (wX4_findWay l1 l2 l3 m3 (fun y5 m4 => ((¬ y5 = 0 → (wX10_tellWay  m4 (fun m6 => Q (m6 14 7) m6))) ∧ (y5 = 0 → Q ((-2)) m4))))))) ∧ (y2 = 0 → Q ((-1)) m1))))
set_option maxHeartbeats 1000000 in
theorem kX10_way {l1 : Int} {l2 : Int} {l3 : Int} {σ : Mem} {Q : Int → Mem → Prop} (h : wX10_way l1 l2 l3 σ Q) (l : Launch) (D : va_G) (cy : Nat → ClassId) (ad : Nat → Nat) : MI l yX10_way cX10_way 4 (some .int) 4 92 D cy ad [vR 0, vI l1, vI l2, vI l3] σ Q := by
  refine m_I (own := RX10) (lv := [(0, vR 0), (1, vI l1), (2, vI l2), (3, vI l3)]) (by decide +kernel) rfl (Nat.le_of_ble_eq_true rfl) rfl (fun E hR => ?_) l D cy ad
  unfold wX10_way at h
  refine g_aload_n dX10_way_0 rfl ?_
  refine g_iload_n dX10_way_1 rfl ?_
  refine g_iload_n dX10_way_2 rfl ?_
  refine g_iload_n dX10_way_3 rfl ?_
  refine g_cVi (st := []) (av := [vI l1, vI l2, vI l3]) (kX10_isPayment h) kd_0 rfl cw_RX10_174 (by decide) (by decide) (Nat.le_of_ble_eq_true rfl) rfl dX10_way_4 (fun y2 m1 h => ?_)
  obtain ⟨hA, hB⟩ := h
  refine g_if_ne (tgt := 12) dX10_way_7 (by decide) (fun hc => ?_) (fun hc => ?_)
  · replace h := hA hc
    refine g_aload_n dX10_way_12 rfl ?_
    refine g_getR (r := 14) fl_10_61 kd_0 rfl dX10_way_13 ?_
    refine g_aload_n dX10_way_16 rfl ?_
    refine g_getR (r := 40) fl_10_12 kd_0 rfl dX10_way_17 ?_
    refine g_cVv (st := []) (av := [vR 40]) (kX4_load bk_40 h) kd_14 rfl cw_RX10_178 (by decide) (by decide) (Nat.le_of_ble_eq_true rfl) rfl dX10_way_20 (fun m3 h => ?_)
    refine g_aload_n dX10_way_23 rfl ?_
    refine g_getR (r := 14) fl_10_61 kd_0 rfl dX10_way_24 ?_
    refine g_iload_n dX10_way_27 rfl ?_
    refine g_iload_n dX10_way_28 rfl ?_
    refine g_iload_n dX10_way_29 rfl ?_
    refine g_cVi (st := []) (av := [vI l1, vI l2, vI l3]) (kX4_findWay h) kd_14 rfl cw_RX10_181 (by decide) (by decide) (Nat.le_of_ble_eq_true rfl) rfl dX10_way_30 (fun y5 m4 h => ?_)
    obtain ⟨hA, hB⟩ := h
    refine g_if_ne (tgt := 39) dX10_way_33 (by decide) (fun hc => ?_) (fun hc => ?_)
    · replace h := hA hc
      refine g_aload_n dX10_way_39 rfl ?_
      refine g_cVv (st := []) (av := []) (kX10_tellWay h) kd_0 rfl cw_RX10_184 (by decide) (by decide) (Nat.le_of_ble_eq_true rfl) rfl dX10_way_40 (fun m6 h => ?_)
      refine g_aload_n dX10_way_43 rfl ?_
      refine g_getR (r := 14) fl_10_61 kd_0 rfl dX10_way_44 ?_
      refine g_getI fl_10_187 kd_14 rfl dX10_way_47 ?_
      exact g_iret hR dX10_way_50 h
    · replace h := hB hc
      refine g_bipush dX10_way_36 (-2) rfl (by decide) ?_
      exact g_iret hR dX10_way_38 h
  · replace h := hB hc
    refine g_iconst dX10_way_10 (-1) rfl (by decide) ?_
    exact g_iret hR dX10_way_11 h
def wJ6_bitCount_0f7a4 (l0 : Int) (σ : Mem) (Q : Int → Mem → Prop) : Prop := (∀ x1 : Int, x1 = w32 (l0 - (band (bushr l0 1) 1431655765)) → (∀ x2 : Int, x2 = w32 ((band x1 858993459) + (band (bushr x1 2) 858993459)) → (∀ x3 : Int, x3 = band (w32 (x2 + (bushr x2 4))) 252645135 → (∀ x4 : Int, x4 = w32 (x3 + (bushr x3 8)) → (∀ x5 : Int, x5 = w32 (x4 + (bushr x4 16)) → Q (band x5 63) σ)))))
set_option maxHeartbeats 1000000 in
theorem kJ6_bitCount_0f7a4 {l0 : Int} {σ : Mem} {Q : Int → Mem → Prop} (h : wJ6_bitCount_0f7a4 l0 σ Q) (l : Launch) (D : va_G) (cy : Nat → ClassId) (ad : Nat → Nat) : MI l yJ6_bitCount_0f7a4 cJ6_bitCount_0f7a4 1 (some .int) 0 0 D cy ad [vI l0] σ Q := by
  refine m_I (own := RJ6) (lv := [(0, vI l0)]) (by decide +kernel) rfl (Nat.le_of_ble_eq_true rfl) rfl (fun E hR => ?_) l D cy ad
  unfold wJ6_bitCount_0f7a4 at h
  refine g_iload_n dJ6_bitCount_0f7a4_0 rfl ?_
  refine g_iload_n dJ6_bitCount_0f7a4_1 rfl ?_
  refine g_iconst dJ6_bitCount_0f7a4_2 1 rfl (by decide) ?_
  refine g_iushr dJ6_bitCount_0f7a4_3 ?_
  refine g_ldc_w dJ6_bitCount_0f7a4_4 1431655765 q_620 (by decide) ?_
  refine g_iand dJ6_bitCount_0f7a4_7 ?_
  refine g_isub dJ6_bitCount_0f7a4_8 ?_
  refine g_topI (fun x1 ex1 => ?_)
  replace h := h x1 ex1
  refine g_istore_n (lv' := [(0, vI x1)]) dJ6_bitCount_0f7a4_9 (by decide) rfl ?_
  refine g_iload_n dJ6_bitCount_0f7a4_10 rfl ?_
  refine g_ldc_w dJ6_bitCount_0f7a4_11 858993459 q_621 (by decide) ?_
  refine g_iand dJ6_bitCount_0f7a4_14 ?_
  refine g_iload_n dJ6_bitCount_0f7a4_15 rfl ?_
  refine g_iconst dJ6_bitCount_0f7a4_16 2 rfl (by decide) ?_
  refine g_iushr dJ6_bitCount_0f7a4_17 ?_
  refine g_ldc_w dJ6_bitCount_0f7a4_18 858993459 q_621 (by decide) ?_
  refine g_iand dJ6_bitCount_0f7a4_21 ?_
  refine g_iadd dJ6_bitCount_0f7a4_22 ?_
  refine g_topI (fun x2 ex2 => ?_)
  replace h := h x2 ex2
  refine g_istore_n (lv' := [(0, vI x2)]) dJ6_bitCount_0f7a4_23 (by decide) rfl ?_
  refine g_iload_n dJ6_bitCount_0f7a4_24 rfl ?_
  refine g_iload_n dJ6_bitCount_0f7a4_25 rfl ?_
  refine g_iconst dJ6_bitCount_0f7a4_26 4 rfl (by decide) ?_
  refine g_iushr dJ6_bitCount_0f7a4_27 ?_
  refine g_iadd dJ6_bitCount_0f7a4_28 ?_
  refine g_ldc_w dJ6_bitCount_0f7a4_29 252645135 q_622 (by decide) ?_
  refine g_iand dJ6_bitCount_0f7a4_32 ?_
  refine g_topI (fun x3 ex3 => ?_)
  replace h := h x3 ex3
  refine g_istore_n (lv' := [(0, vI x3)]) dJ6_bitCount_0f7a4_33 (by decide) rfl ?_
  refine g_iload_n dJ6_bitCount_0f7a4_34 rfl ?_
  refine g_iload_n dJ6_bitCount_0f7a4_35 rfl ?_
  refine g_bipush dJ6_bitCount_0f7a4_36 8 rfl (by decide) ?_
  refine g_iushr dJ6_bitCount_0f7a4_38 ?_
  refine g_iadd dJ6_bitCount_0f7a4_39 ?_
  refine g_topI (fun x4 ex4 => ?_)
  replace h := h x4 ex4
  refine g_istore_n (lv' := [(0, vI x4)]) dJ6_bitCount_0f7a4_40 (by decide) rfl ?_
  refine g_iload_n dJ6_bitCount_0f7a4_41 rfl ?_
  refine g_iload_n dJ6_bitCount_0f7a4_42 rfl ?_
  refine g_bipush dJ6_bitCount_0f7a4_43 16 rfl (by decide) ?_
  refine g_iushr dJ6_bitCount_0f7a4_45 ?_
  refine g_iadd dJ6_bitCount_0f7a4_46 ?_
  refine g_topI (fun x5 ex5 => ?_)
  replace h := h x5 ex5
  refine g_istore_n (lv' := [(0, vI x5)]) dJ6_bitCount_0f7a4_47 (by decide) rfl ?_
  refine g_iload_n dJ6_bitCount_0f7a4_48 rfl ?_
  refine g_bipush dJ6_bitCount_0f7a4_49 63 rfl (by decide) ?_
  refine g_iand dJ6_bitCount_0f7a4_51 ?_
  exact g_iret hR dJ6_bitCount_0f7a4_52 h
def wX10_reach (l1 : Int) (l2 : Int) (σ : Mem) (Q : Int → Mem → Prop) : Prop := (wX1_has 40 l1 σ (fun y2 m1 => ((y2 = 0 → Q ((-1)) m1) ∧ (¬ y2 = 0 → (wX10_isSum l2 m1 (fun y4 m3 => ((¬ y4 = 0 → (wX4_load 40 m3 (fun m5 => (wX4_reached l1 l2 m5 (fun y7 m6 => (∀ x8 : Int, x8 = band y7 (bxor (bshl 1 l1) ((-1))) → (wJ6_bitCount_0f7a4 x8 m6 (fun y10 m9 => (wX5_tellOne y10 m9 (fun m11 => Q x8 m11)))))))))) ∧ (y4 = 0 → Q ((-1)) m3))))))))
set_option maxHeartbeats 1000000 in
theorem kX10_reach {l1 : Int} {l2 : Int} {σ : Mem} {Q : Int → Mem → Prop} (h : wX10_reach l1 l2 σ Q) (l : Launch) (D : va_G) (cy : Nat → ClassId) (ad : Nat → Nat) : MI l yX10_reach cX10_reach 4 (some .int) 4 92 D cy ad [vR 0, vI l1, vI l2] σ Q := by
  refine m_I (own := RX10) (lv := [(0, vR 0), (1, vI l1), (2, vI l2)]) (by decide +kernel) rfl (Nat.le_of_ble_eq_true rfl) rfl (fun E hR => ?_) l D cy ad
  unfold wX10_reach at h
  refine g_aload_n dX10_reach_0 rfl ?_
  refine g_getR (r := 40) fl_10_12 kd_0 rfl dX10_reach_1 ?_
  refine g_iload_n dX10_reach_4 rfl ?_
  refine g_cVi (st := []) (av := [vI l1]) (kX1_has bk_40 h) (kd_bk0 bk_40) rfl cw_RX10_111 (by decide) (by decide) (Nat.le_of_ble_eq_true rfl) rfl dX10_reach_5 (fun y2 m1 h => ?_)
  obtain ⟨hA, hB⟩ := h
  refine g_if_eq (tgt := 18) dX10_reach_8 (by decide) (fun hc => ?_) (fun hc => ?_)
  · replace h := hA hc
    refine g_iconst dX10_reach_18 (-1) rfl (by decide) ?_
    exact g_iret hR dX10_reach_19 h
  · replace h := hB hc
    refine g_iload_n dX10_reach_11 rfl ?_
    refine g_cSi (st := []) (av := [vI l2]) (kX10_isSum h) cw_RX10_190 (by decide) (by decide) (Nat.le_of_ble_eq_true rfl) rfl dX10_reach_12 (fun y4 m3 h => ?_)
    obtain ⟨hA, hB⟩ := h
    refine g_if_ne (tgt := 20) dX10_reach_15 (by decide) (fun hc => ?_) (fun hc => ?_)
    · replace h := hA hc
      refine g_aload_n dX10_reach_20 rfl ?_
      refine g_getR (r := 14) fl_10_61 kd_0 rfl dX10_reach_21 ?_
      refine g_aload_n dX10_reach_24 rfl ?_
      refine g_getR (r := 40) fl_10_12 kd_0 rfl dX10_reach_25 ?_
      refine g_cVv (st := []) (av := [vR 40]) (kX4_load bk_40 h) kd_14 rfl cw_RX10_178 (by decide) (by decide) (Nat.le_of_ble_eq_true rfl) rfl dX10_reach_28 (fun m5 h => ?_)
      refine g_aload_n dX10_reach_31 rfl ?_
      refine g_getR (r := 14) fl_10_61 kd_0 rfl dX10_reach_32 ?_
      refine g_iload_n dX10_reach_35 rfl ?_
      refine g_iload_n dX10_reach_36 rfl ?_
      refine g_cVi (st := []) (av := [vI l1, vI l2]) (kX4_reached h) kd_14 rfl cw_RX10_193 (by decide) (by decide) (Nat.le_of_ble_eq_true rfl) rfl dX10_reach_37 (fun y7 m6 h => ?_)
      refine g_iconst dX10_reach_40 1 rfl (by decide) ?_
      refine g_iload_n dX10_reach_41 rfl ?_
      refine g_ishl dX10_reach_42 ?_
      refine g_iconst dX10_reach_43 (-1) rfl (by decide) ?_
      refine g_ixor dX10_reach_44 ?_
      refine g_iand dX10_reach_45 ?_
      refine g_topI (fun x8 ex8 => ?_)
      replace h := h x8 ex8
      refine g_istore_n (lv' := [(3, vI x8), (0, vR 0), (1, vI l1), (2, vI l2)]) dX10_reach_46 (by decide) rfl ?_
      refine g_aload_n dX10_reach_47 rfl ?_
      refine g_getR (r := 12) fl_10_54 kd_0 rfl dX10_reach_48 ?_
      refine g_iload_n dX10_reach_51 rfl ?_
      refine g_cJi (st := [vR 12]) (av := [vI x8]) (kJ6_bitCount_0f7a4 h) cw_RX10_196 (by decide) (by decide) (Nat.le_of_ble_eq_true rfl) rfl dX10_reach_52 (fun y10 m9 h => ?_)
      refine g_i2l dX10_reach_55 ?_
      refine g_cVv (st := []) (av := [vL y10]) (kX5_tellOne h) kd_12 rfl cw_RX10_202 (by decide) (by decide) (Nat.le_of_ble_eq_true rfl) rfl dX10_reach_56 (fun m11 h => ?_)
      refine g_iload_n dX10_reach_59 rfl ?_
      exact g_iret hR dX10_reach_60 h
    · replace h := hB hc
      refine g_iconst dX10_reach_18 (-1) rfl (by decide) ?_
      exact g_iret hR dX10_reach_19 h
def wX10_most (l1 : Int) (l2 : Int) (σ : Mem) (Q : Int → Mem → Prop) : Prop := (wX1_hasBoth 40 l1 l2 σ (fun y2 m1 => ((¬ y2 = 0 → (wX4_load 40 m1 (fun m3 => (wX4_send l1 l2 1000000 m3 (fun y5 m4 => (wX4_reached l1 1 m4 (fun y7 m6 => (wX4_longestPart  m6 (fun y9 m8 => (wX5_tellThree y7 (m6 14 10) y9 m8 (fun m10 => Q y5 m10))))))))))) ∧ (y2 = 0 → Q ((-1)) m1))))
set_option maxHeartbeats 1000000 in
theorem kX10_most {l1 : Int} {l2 : Int} {σ : Mem} {Q : Int → Mem → Prop} (h : wX10_most l1 l2 σ Q) (l : Launch) (D : va_G) (cy : Nat → ClassId) (ad : Nat → Nat) : MI l yX10_most cX10_most 4 (some .int) 4 99 D cy ad [vR 0, vI l1, vI l2] σ Q := by
  refine m_I (own := RX10) (lv := [(0, vR 0), (1, vI l1), (2, vI l2)]) (by decide +kernel) rfl (Nat.le_of_ble_eq_true rfl) rfl (fun E hR => ?_) l D cy ad
  unfold wX10_most at h
  refine g_aload_n dX10_most_0 rfl ?_
  refine g_getR (r := 40) fl_10_12 kd_0 rfl dX10_most_1 ?_
  refine g_iload_n dX10_most_4 rfl ?_
  refine g_iload_n dX10_most_5 rfl ?_
  refine g_cVi (st := []) (av := [vI l1, vI l2]) (kX1_hasBoth bk_40 h) (kd_bk0 bk_40) rfl cw_RX10_143 (by decide) (by decide) (Nat.le_of_ble_eq_true rfl) rfl dX10_most_6 (fun y2 m1 h => ?_)
  obtain ⟨hA, hB⟩ := h
  refine g_if_ne (tgt := 14) dX10_most_9 (by decide) (fun hc => ?_) (fun hc => ?_)
  · replace h := hA hc
    refine g_aload_n dX10_most_14 rfl ?_
    refine g_getR (r := 14) fl_10_61 kd_0 rfl dX10_most_15 ?_
    refine g_aload_n dX10_most_18 rfl ?_
    refine g_getR (r := 40) fl_10_12 kd_0 rfl dX10_most_19 ?_
    refine g_cVv (st := []) (av := [vR 40]) (kX4_load bk_40 h) kd_14 rfl cw_RX10_178 (by decide) (by decide) (Nat.le_of_ble_eq_true rfl) rfl dX10_most_22 (fun m3 h => ?_)
    refine g_aload_n dX10_most_25 rfl ?_
    refine g_getR (r := 14) fl_10_61 kd_0 rfl dX10_most_26 ?_
    refine g_iload_n dX10_most_29 rfl ?_
    refine g_iload_n dX10_most_30 rfl ?_
    refine g_ldc dX10_most_31 1000000 q_628 (by decide) ?_
    refine g_cVi (st := []) (av := [vI l1, vI l2, vI 1000000]) (kX4_send h) kd_14 rfl cw_RX10_207 (by decide) (by decide) (Nat.le_of_ble_eq_true rfl) rfl dX10_most_33 (fun y5 m4 h => ?_)
    refine g_istore_n (lv' := [(3, vI y5), (0, vR 0), (1, vI l1), (2, vI l2)]) dX10_most_36 (by decide) rfl ?_
    refine g_aload_n dX10_most_37 rfl ?_
    refine g_getR (r := 12) fl_10_54 kd_0 rfl dX10_most_38 ?_
    refine g_aload_n dX10_most_41 rfl ?_
    refine g_getR (r := 14) fl_10_61 kd_0 rfl dX10_most_42 ?_
    refine g_iload_n dX10_most_45 rfl ?_
    refine g_iconst dX10_most_46 1 rfl (by decide) ?_
    refine g_cVi (st := [vR 12]) (av := [vI l1, vI 1]) (kX4_reached h) kd_14 rfl cw_RX10_193 (by decide) (by decide) (Nat.le_of_ble_eq_true rfl) rfl dX10_most_47 (fun y7 m6 h => ?_)
    refine g_i2l dX10_most_50 ?_
    refine g_aload_n dX10_most_51 rfl ?_
    refine g_getR (r := 14) fl_10_61 kd_0 rfl dX10_most_52 ?_
    refine g_getI fl_10_210 kd_14 rfl dX10_most_55 ?_
    refine g_i2l dX10_most_58 ?_
    refine g_aload_n dX10_most_59 rfl ?_
    refine g_getR (r := 14) fl_10_61 kd_0 rfl dX10_most_60 ?_
    refine g_cVi (st := [vL (m6 14 10), vL y7, vR 12]) (av := []) (kX4_longestPart h) kd_14 rfl cw_RX10_213 (by decide) (by decide) (Nat.le_of_ble_eq_true rfl) rfl dX10_most_63 (fun y9 m8 h => ?_)
    refine g_i2l dX10_most_66 ?_
    refine g_cVv (st := []) (av := [vL y7, vL (m6 14 10), vL y9]) (kX5_tellThree h) kd_12 rfl cw_RX10_153 (by decide) (by decide) (Nat.le_of_ble_eq_true rfl) rfl dX10_most_67 (fun m10 h => ?_)
    refine g_iload_n dX10_most_70 rfl ?_
    exact g_iret hR dX10_most_71 h
  · replace h := hB hc
    refine g_iconst dX10_most_12 (-1) rfl (by decide) ?_
    exact g_iret hR dX10_most_13 h
def wX10_ring_26 (K26 : Int → Mem → Prop) (Q : Int → Mem → Prop) (l1 : Int) (σ : Mem) : Prop := ((σ 32 3 ≤ l1 → (wX5_add (σ 32 4) σ (fun m1 => Q (m1 32 3) m1))) ∧ (¬ σ 32 3 ≤ l1 → (wX7_memberAt l1 σ (fun y3 m2 => (wX5_add y3 m2 (fun m4 => (∀ x5 : Int, x5 = w32 (l1 + 1) → K26 x5 m4)))))))
def wLX10_ring_26 (Q : Int → Mem → Prop) (l1 : Int) (σ : Mem) : Prop := ∃ n, lp (fun (K26 : Int → Mem → Prop) (x : Int) (σ : Mem) => wX10_ring_26 K26 Q x σ) n l1 σ
def wX10_ring (σ : Mem) (Q : Int → Mem → Prop) : Prop := (wX7_find 40 σ (fun y2 m1 => ((¬ y2 = 0 → (wX5_begin  m1 (fun m3 => wLX10_ring_26 Q 0 m3))) ∧ (y2 = 0 → Q ((-2)) m1))))
set_option maxHeartbeats 1000000 in
theorem bX10_ring_26 {E : TE} {K26 : Int → Mem → Prop} (hK26 : ∀ (x : Int) (σ : Mem), K26 x σ → GW E cX10_ring 2 RX10 4 97 σ 26 [(0, vR 0), (1, vI x)] []) {Q : Int → Mem → Prop} (hR : RI E (some .int) Q) {l1 : Int} {σ : Mem} (h : wX10_ring_26 K26 Q l1 σ) : GW E cX10_ring 2 RX10 4 97 σ 26 [(0, vR 0), (1, vI l1)] [] := by
  unfold wX10_ring_26 at h
  refine g_iload_n dX10_ring_26 rfl ?_
  refine g_aload_n dX10_ring_27 rfl ?_
  refine g_getR (r := 32) fl_10_75 kd_0 rfl dX10_ring_28 ?_
  refine g_getI fl_10_223 kd_32 rfl dX10_ring_31 ?_
  obtain ⟨hA, hB⟩ := h
  refine g_icmp_ge (tgt := 59) dX10_ring_34 (by decide) (fun hc => ?_) (fun hc => ?_)
  · replace h := hA hc
    refine g_aload_n dX10_ring_59 rfl ?_
    refine g_getR (r := 12) fl_10_54 kd_0 rfl dX10_ring_60 ?_
    refine g_aload_n dX10_ring_63 rfl ?_
    refine g_getR (r := 32) fl_10_75 kd_0 rfl dX10_ring_64 ?_
    refine g_getI fl_10_231 kd_32 rfl dX10_ring_67 ?_
    refine g_i2l dX10_ring_70 ?_
    refine g_cVv (st := []) (av := [vL (σ 32 4)]) (kX5_add h) kd_12 rfl cw_RX10_229 (by decide) (by decide) (Nat.le_of_ble_eq_true rfl) rfl dX10_ring_71 (fun m1 h => ?_)
    refine g_aload_n dX10_ring_74 rfl ?_
    refine g_getR (r := 32) fl_10_75 kd_0 rfl dX10_ring_75 ?_
    refine g_getI fl_10_223 kd_32 rfl dX10_ring_78 ?_
    exact g_iret hR dX10_ring_81 h
  · replace h := hB hc
    refine g_aload_n dX10_ring_37 rfl ?_
    refine g_getR (r := 12) fl_10_54 kd_0 rfl dX10_ring_38 ?_
    refine g_aload_n dX10_ring_41 rfl ?_
    refine g_getR (r := 32) fl_10_75 kd_0 rfl dX10_ring_42 ?_
    refine g_iload_n dX10_ring_45 rfl ?_
    refine g_cVi (st := [vR 12]) (av := [vI l1]) (kX7_memberAt h) kd_32 rfl cw_RX10_226 (by decide) (by decide) (Nat.le_of_ble_eq_true rfl) rfl dX10_ring_46 (fun y3 m2 h => ?_)
    refine g_i2l dX10_ring_49 ?_
    refine g_cVv (st := []) (av := [vL y3]) (kX5_add h) kd_12 rfl cw_RX10_229 (by decide) (by decide) (Nat.le_of_ble_eq_true rfl) rfl dX10_ring_50 (fun m4 h => ?_)
    refine g_iinc (lv' := [(1, vI (w32 (l1 + 1))), (0, vR 0)]) dX10_ring_53 rfl (by decide) rfl ?_
    refine g_loc (a := w32 (l1 + 1)) (i := 1) (lv := [(0, vR 0)]) (fun x5 ex5 => ?_)
    replace h := h x5 ex5
    refine g_goto (tgt := 26) dX10_ring_56 (by decide) ?_
    refine g_lv (lv' := [(0, vR 0), (1, vI x5)]) [1, 0] rfl ?_
    exact hK26 x5 m4 h
theorem eX10_ring_26 {E : TE} {Q : Int → Mem → Prop} (hR : RI E (some .int) Q) {l1 : Int} {σ : Mem} (h : wLX10_ring_26 Q l1 σ) : GW E cX10_ring 2 RX10 4 97 σ 26 [(0, vR 0), (1, vI l1)] [] := by
  obtain ⟨n, h⟩ := h
  exact lp_GW (P := fun (x : Int) (σ : Mem) => GW E cX10_ring 2 RX10 4 97 σ 26 [(0, vR 0), (1, vI x)] []) (fun K hK x σ h  => bX10_ring_26 hK hR h) n _ σ h 
set_option maxHeartbeats 1000000 in
theorem kX10_ring {σ : Mem} {Q : Int → Mem → Prop} (h : wX10_ring σ Q) (l : Launch) (D : va_G) (cy : Nat → ClassId) (ad : Nat → Nat) : MI l yX10_ring cX10_ring 2 (some .int) 4 97 D cy ad [vR 0] σ Q := by
  refine m_I (own := RX10) (lv := [(0, vR 0)]) (by decide +kernel) rfl (Nat.le_of_ble_eq_true rfl) rfl (fun E hR => ?_) l D cy ad
  unfold wX10_ring at h
  refine g_aload_n dX10_ring_0 rfl ?_
  refine g_getR (r := 32) fl_10_75 kd_0 rfl dX10_ring_1 ?_
  refine g_aload_n dX10_ring_4 rfl ?_
  refine g_getR (r := 40) fl_10_12 kd_0 rfl dX10_ring_5 ?_
  refine g_cVi (st := []) (av := [vR 40]) (kX7_find bk_40 h) kd_32 rfl cw_RX10_216 (by decide) (by decide) (Nat.le_of_ble_eq_true rfl) rfl dX10_ring_8 (fun y2 m1 h => ?_)
  obtain ⟨hA, hB⟩ := h
  refine g_if_ne (tgt := 17) dX10_ring_11 (by decide) (fun hc => ?_) (fun hc => ?_)
  · replace h := hA hc
    refine g_aload_n dX10_ring_17 rfl ?_
    refine g_getR (r := 12) fl_10_54 kd_0 rfl dX10_ring_18 ?_
    refine g_cVv (st := []) (av := []) (kX5_begin h) kd_12 rfl cw_RX10_220 (by decide) (by decide) (Nat.le_of_ble_eq_true rfl) rfl dX10_ring_21 (fun m3 h => ?_)
    refine g_iconst dX10_ring_24 0 rfl (by decide) ?_
    refine g_istore_n (lv' := [(1, vI 0), (0, vR 0)]) dX10_ring_25 (by decide) rfl ?_
    refine g_lv (lv' := [(0, vR 0), (1, vI 0)]) [1, 0] rfl ?_
    exact eX10_ring_26 hR h
  · replace h := hB hc
    refine g_bipush dX10_ring_14 (-2) rfl (by decide) ?_
    exact g_iret hR dX10_ring_16 h
def wX10_rings (σ : Mem) (Q : Int → Mem → Prop) : Prop := (wX1_copyFrom 72 40 σ (fun m1 => (wX7_settleAll 72 m1 (fun y3 m2 => (wX1_owedInAll 72 m2 (fun y5 m4 => (wX5_tellOne y5 m4 (fun m6 => Q y3 m6))))))))
set_option maxHeartbeats 1000000 in
theorem kX10_rings {σ : Mem} {Q : Int → Mem → Prop} (h : wX10_rings σ Q) (l : Launch) (D : va_G) (cy : Nat → ClassId) (ad : Nat → Nat) : MI l yX10_rings cX10_rings 2 (some .int) 5 120 D cy ad [vR 0] σ Q := by
  refine m_I (own := RX10) (lv := [(0, vR 0)]) (by decide +kernel) rfl (Nat.le_of_ble_eq_true rfl) rfl (fun E hR => ?_) l D cy ad
  unfold wX10_rings at h
  refine g_aload_n dX10_rings_0 rfl ?_
  refine g_getR (r := 72) fl_10_19 kd_0 rfl dX10_rings_1 ?_
  refine g_aload_n dX10_rings_4 rfl ?_
  refine g_getR (r := 40) fl_10_12 kd_0 rfl dX10_rings_5 ?_
  refine g_cVv (st := []) (av := [vR 40]) (kX1_copyFrom bk_72 bk_40 h) (kd_bk0 bk_72) rfl cw_RX10_108 (by decide) (by decide) (Nat.le_of_ble_eq_true rfl) rfl dX10_rings_8 (fun m1 h => ?_)
  refine g_aload_n dX10_rings_11 rfl ?_
  refine g_getR (r := 32) fl_10_75 kd_0 rfl dX10_rings_12 ?_
  refine g_aload_n dX10_rings_15 rfl ?_
  refine g_getR (r := 72) fl_10_19 kd_0 rfl dX10_rings_16 ?_
  refine g_cVi (st := []) (av := [vR 72]) (kX7_settleAll bk_72 h) kd_32 rfl cw_RX10_234 (by decide) (by decide) (Nat.le_of_ble_eq_true rfl) rfl dX10_rings_19 (fun y3 m2 h => ?_)
  refine g_istore_n (lv' := [(1, vI y3), (0, vR 0)]) dX10_rings_22 (by decide) rfl ?_
  refine g_aload_n dX10_rings_23 rfl ?_
  refine g_getR (r := 12) fl_10_54 kd_0 rfl dX10_rings_24 ?_
  refine g_aload_n dX10_rings_27 rfl ?_
  refine g_getR (r := 72) fl_10_19 kd_0 rfl dX10_rings_28 ?_
  refine g_cVi (st := [vR 12]) (av := []) (kX1_owedInAll bk_72 h) (kd_bk0 bk_72) rfl cw_RX10_170 (by decide) (by decide) (Nat.le_of_ble_eq_true rfl) rfl dX10_rings_31 (fun y5 m4 h => ?_)
  refine g_i2l dX10_rings_34 ?_
  refine g_cVv (st := []) (av := [vL y5]) (kX5_tellOne h) kd_12 rfl cw_RX10_202 (by decide) (by decide) (Nat.le_of_ble_eq_true rfl) rfl dX10_rings_35 (fun m6 h => ?_)
  refine g_iload_n dX10_rings_38 rfl ?_
  exact g_iret hR dX10_rings_39 h
def wX10_paySplit_75 (K75 : Int → Mem → Prop) (Q : Int → Mem → Prop) (l5 : Int) (σ : Mem) : Prop := ((σ 14 10 ≤ l5 → Q (σ 14 10) σ) ∧ (¬ σ 14 10 ≤ l5 → ((0 ≤ l5 ∧ l5 < 256) ∧ (wX5_add (σ 21 l5.toNat) σ (fun m1 => ((0 ≤ l5 ∧ l5 < 256) ∧ (wX5_add (m1 22 l5.toNat) m1 (fun m2 => (∀ x3 : Int, x3 = w32 (l5 + 1) → K75 x3 m2)))))))))
def wLX10_paySplit_75 (Q : Int → Mem → Prop) (l5 : Int) (σ : Mem) : Prop := ∃ n, lp (fun (K75 : Int → Mem → Prop) (x : Int) (σ : Mem) => wX10_paySplit_75 K75 Q x σ) n l5 σ
def wX10_paySplit (l1 : Int) (l2 : Int) (l3 : Int) (σ : Mem) (Q : Int → Mem → Prop) : Prop := (wX10_isPayment l1 l2 l3 σ (fun y2 m1 => ((¬ y2 = 0 → (wX4_load 40 m1 (fun m3 => (wX4_send l1 l2 l3 m3 (fun y5 m4 => ((l3 ≤ y5 → (wX4_bookIn 40 m4 (fun m6 => (wX5_begin  m6 (fun m7 => wLX10_paySplit_75 Q 0 m7))))) ∧ (¬ l3 ≤ y5 → (wX5_tellOne y5 m4 (fun m8 => Q ((-4)) m8))))))))) ∧ (y2 = 0 → Q ((-1)) m1))))
set_option maxHeartbeats 1000000 in
theorem bX10_paySplit_75 {E : TE} {K75 : Int → Mem → Prop} (hK75 : ∀ (x : Int) (σ : Mem), K75 x σ → GW E cX10_paySplit 6 RX10 4 99 σ 75 [(0, vR 0), (5, vI x)] []) {Q : Int → Mem → Prop} (hR : RI E (some .int) Q) {l5 : Int} {σ : Mem} (h : wX10_paySplit_75 K75 Q l5 σ) : GW E cX10_paySplit 6 RX10 4 99 σ 75 [(0, vR 0), (5, vI l5)] [] := by
  unfold wX10_paySplit_75 at h
  refine g_iload dX10_paySplit_75 rfl ?_
  refine g_aload_n dX10_paySplit_77 rfl ?_
  refine g_getR (r := 14) fl_10_61 kd_0 rfl dX10_paySplit_78 ?_
  refine g_getI fl_10_210 kd_14 rfl dX10_paySplit_81 ?_
  obtain ⟨hA, hB⟩ := h
  refine g_icmp_ge (tgt := 129) dX10_paySplit_84 (by decide) (fun hc => ?_) (fun hc => ?_)
  · replace h := hA hc
    refine g_aload_n dX10_paySplit_129 rfl ?_
    refine g_getR (r := 14) fl_10_61 kd_0 rfl dX10_paySplit_130 ?_
    refine g_getI fl_10_210 kd_14 rfl dX10_paySplit_133 ?_
    exact g_iret hR dX10_paySplit_136 h
  · replace h := hB hc
    refine g_aload_n dX10_paySplit_87 rfl ?_
    refine g_getR (r := 12) fl_10_54 kd_0 rfl dX10_paySplit_88 ?_
    refine g_aload_n dX10_paySplit_91 rfl ?_
    refine g_getR (r := 14) fl_10_61 kd_0 rfl dX10_paySplit_92 ?_
    refine g_getR (r := 21) fl_10_419 kd_14 rfl dX10_paySplit_95 ?_
    refine g_iload dX10_paySplit_98 rfl ?_
    obtain ⟨hin, h⟩ := h
    refine g_iald kd_21 hin dX10_paySplit_100 ?_
    refine g_i2l dX10_paySplit_101 ?_
    refine g_cVv (st := []) (av := [vL (σ 21 l5.toNat)]) (kX5_add h) kd_12 rfl cw_RX10_229 (by decide) (by decide) (Nat.le_of_ble_eq_true rfl) rfl dX10_paySplit_102 (fun m1 h => ?_)
    refine g_aload_n dX10_paySplit_105 rfl ?_
    refine g_getR (r := 12) fl_10_54 kd_0 rfl dX10_paySplit_106 ?_
    refine g_aload_n dX10_paySplit_109 rfl ?_
    refine g_getR (r := 14) fl_10_61 kd_0 rfl dX10_paySplit_110 ?_
    refine g_getR (r := 22) fl_10_422 kd_14 rfl dX10_paySplit_113 ?_
    refine g_iload dX10_paySplit_116 rfl ?_
    obtain ⟨hin, h⟩ := h
    refine g_iald kd_22 hin dX10_paySplit_118 ?_
    refine g_i2l dX10_paySplit_119 ?_
    refine g_cVv (st := []) (av := [vL (m1 22 l5.toNat)]) (kX5_add h) kd_12 rfl cw_RX10_229 (by decide) (by decide) (Nat.le_of_ble_eq_true rfl) rfl dX10_paySplit_120 (fun m2 h => ?_)
    refine g_iinc (lv' := [(5, vI (w32 (l5 + 1))), (0, vR 0)]) dX10_paySplit_123 rfl (by decide) rfl ?_
    refine g_loc (a := w32 (l5 + 1)) (i := 5) (lv := [(0, vR 0)]) (fun x3 ex3 => ?_)
    replace h := h x3 ex3
    refine g_goto (tgt := 75) dX10_paySplit_126 (by decide) ?_
    refine g_lv (lv' := [(0, vR 0), (5, vI x3)]) [1, 0] rfl ?_
    exact hK75 x3 m2 h
theorem eX10_paySplit_75 {E : TE} {Q : Int → Mem → Prop} (hR : RI E (some .int) Q) {l5 : Int} {σ : Mem} (h : wLX10_paySplit_75 Q l5 σ) : GW E cX10_paySplit 6 RX10 4 99 σ 75 [(0, vR 0), (5, vI l5)] [] := by
  obtain ⟨n, h⟩ := h
  exact lp_GW (P := fun (x : Int) (σ : Mem) => GW E cX10_paySplit 6 RX10 4 99 σ 75 [(0, vR 0), (5, vI x)] []) (fun K hK x σ h  => bX10_paySplit_75 hK hR h) n _ σ h 
set_option maxHeartbeats 1000000 in
theorem kX10_paySplit {l1 : Int} {l2 : Int} {l3 : Int} {σ : Mem} {Q : Int → Mem → Prop} (h : wX10_paySplit l1 l2 l3 σ Q) (l : Launch) (D : va_G) (cy : Nat → ClassId) (ad : Nat → Nat) : MI l yX10_paySplit cX10_paySplit 6 (some .int) 4 99 D cy ad [vR 0, vI l1, vI l2, vI l3] σ Q := by
  refine m_I (own := RX10) (lv := [(0, vR 0), (1, vI l1), (2, vI l2), (3, vI l3)]) (by decide +kernel) rfl (Nat.le_of_ble_eq_true rfl) rfl (fun E hR => ?_) l D cy ad
  unfold wX10_paySplit at h
  refine g_aload_n dX10_paySplit_0 rfl ?_
  refine g_iload_n dX10_paySplit_1 rfl ?_
  refine g_iload_n dX10_paySplit_2 rfl ?_
  refine g_iload_n dX10_paySplit_3 rfl ?_
  refine g_cVi (st := []) (av := [vI l1, vI l2, vI l3]) (kX10_isPayment h) kd_0 rfl cw_RX10_174 (by decide) (by decide) (Nat.le_of_ble_eq_true rfl) rfl dX10_paySplit_4 (fun y2 m1 h => ?_)
  obtain ⟨hA, hB⟩ := h
  refine g_if_ne (tgt := 12) dX10_paySplit_7 (by decide) (fun hc => ?_) (fun hc => ?_)
  · replace h := hA hc
    refine g_aload_n dX10_paySplit_12 rfl ?_
    refine g_getR (r := 14) fl_10_61 kd_0 rfl dX10_paySplit_13 ?_
    refine g_aload_n dX10_paySplit_16 rfl ?_
    refine g_getR (r := 40) fl_10_12 kd_0 rfl dX10_paySplit_17 ?_
    refine g_cVv (st := []) (av := [vR 40]) (kX4_load bk_40 h) kd_14 rfl cw_RX10_178 (by decide) (by decide) (Nat.le_of_ble_eq_true rfl) rfl dX10_paySplit_20 (fun m3 h => ?_)
    refine g_aload_n dX10_paySplit_23 rfl ?_
    refine g_getR (r := 14) fl_10_61 kd_0 rfl dX10_paySplit_24 ?_
    refine g_iload_n dX10_paySplit_27 rfl ?_
    refine g_iload_n dX10_paySplit_28 rfl ?_
    refine g_iload_n dX10_paySplit_29 rfl ?_
    refine g_cVi (st := []) (av := [vI l1, vI l2, vI l3]) (kX4_send h) kd_14 rfl cw_RX10_207 (by decide) (by decide) (Nat.le_of_ble_eq_true rfl) rfl dX10_paySplit_30 (fun y5 m4 h => ?_)
    refine g_istore (lv' := [(4, vI y5), (0, vR 0), (1, vI l1), (2, vI l2), (3, vI l3)]) dX10_paySplit_33 (by decide) rfl ?_
    refine g_iload dX10_paySplit_35 rfl ?_
    refine g_iload_n dX10_paySplit_37 rfl ?_
    obtain ⟨hA, hB⟩ := h
    refine g_icmp_ge (tgt := 54) dX10_paySplit_38 (by decide) (fun hc => ?_) (fun hc => ?_)
    · replace h := hA hc
      refine g_aload_n dX10_paySplit_54 rfl ?_
      refine g_getR (r := 14) fl_10_61 kd_0 rfl dX10_paySplit_55 ?_
      refine g_aload_n dX10_paySplit_58 rfl ?_
      refine g_getR (r := 40) fl_10_12 kd_0 rfl dX10_paySplit_59 ?_
      refine g_cVv (st := []) (av := [vR 40]) (kX4_bookIn bk_40 h) kd_14 rfl cw_RX10_297 (by decide) (by decide) (Nat.le_of_ble_eq_true rfl) rfl dX10_paySplit_62 (fun m6 h => ?_)
      refine g_aload_n dX10_paySplit_65 rfl ?_
      refine g_getR (r := 12) fl_10_54 kd_0 rfl dX10_paySplit_66 ?_
      refine g_cVv (st := []) (av := []) (kX5_begin h) kd_12 rfl cw_RX10_220 (by decide) (by decide) (Nat.le_of_ble_eq_true rfl) rfl dX10_paySplit_69 (fun m7 h => ?_)
      refine g_iconst dX10_paySplit_72 0 rfl (by decide) ?_
      refine g_istore (lv' := [(5, vI 0), (4, vI y5), (0, vR 0), (1, vI l1), (2, vI l2), (3, vI l3)]) dX10_paySplit_73 (by decide) rfl ?_
      refine g_lv (lv' := [(0, vR 0), (5, vI 0)]) [2, 0] rfl ?_
      exact eX10_paySplit_75 hR h
    · replace h := hB hc
      refine g_aload_n dX10_paySplit_41 rfl ?_
      refine g_getR (r := 12) fl_10_54 kd_0 rfl dX10_paySplit_42 ?_
      refine g_iload dX10_paySplit_45 rfl ?_
      refine g_i2l dX10_paySplit_47 ?_
      refine g_cVv (st := []) (av := [vL y5]) (kX5_tellOne h) kd_12 rfl cw_RX10_202 (by decide) (by decide) (Nat.le_of_ble_eq_true rfl) rfl dX10_paySplit_48 (fun m8 h => ?_)
      refine g_bipush dX10_paySplit_51 (-4) rfl (by decide) ?_
      exact g_iret hR dX10_paySplit_53 h
  · replace h := hB hc
    refine g_iconst dX10_paySplit_10 (-1) rfl (by decide) ?_
    exact g_iret hR dX10_paySplit_11 h
def wX10_remembered (l1 : Int) (σ : Mem) (Q : Int → Mem → Prop) : Prop := ((l1 < 0 → Q l1 σ) ∧ (¬ l1 < 0 → (wX6_add 56 σ (fun m1 => Q l1 m1))))
set_option maxHeartbeats 1000000 in
theorem kX10_remembered {l1 : Int} {σ : Mem} {Q : Int → Mem → Prop} (h : wX10_remembered l1 σ Q) (l : Launch) (D : va_G) (cy : Nat → ClassId) (ad : Nat → Nat) : MI l yX10_remembered cX10_remembered 2 (some .int) 4 130 D cy ad [vR 0, vI l1] σ Q := by
  refine m_I (own := RX10) (lv := [(0, vR 0), (1, vI l1)]) (by decide +kernel) rfl (Nat.le_of_ble_eq_true rfl) rfl (fun E hR => ?_) l D cy ad
  unfold wX10_remembered at h
  refine g_iload_n dX10_remembered_0 rfl ?_
  obtain ⟨hA, hB⟩ := h
  refine g_if_lt (tgt := 15) dX10_remembered_1 (by decide) (fun hc => ?_) (fun hc => ?_)
  · replace h := hA hc
    refine g_iload_n dX10_remembered_15 rfl ?_
    exact g_iret hR dX10_remembered_16 h
  · replace h := hB hc
    refine g_aload_n dX10_remembered_4 rfl ?_
    refine g_getR (r := 3) fl_10_33 kd_0 rfl dX10_remembered_5 ?_
    refine g_aload_n dX10_remembered_8 rfl ?_
    refine g_getR (r := 56) fl_10_16 kd_0 rfl dX10_remembered_9 ?_
    refine g_cVv (st := []) (av := [vR 56]) (kX6_add bk_56 h) kd_3 rfl cw_RX10_104 (by decide) (by decide) (Nat.le_of_ble_eq_true rfl) rfl dX10_remembered_12 (fun m1 h => ?_)
    refine g_iload_n dX10_remembered_15 rfl ?_
    exact g_iret hR dX10_remembered_16 h
def wX10_pays (l1 : Int) (l2 : Int) (l3 : Int) (σ : Mem) (Q : Int → Mem → Prop) : Prop := (wX1_copyFrom 56 40 σ (fun m1 => (wX10_paySplit l1 l2 l3 m1 (fun y3 m2 => (wX10_remembered y3 m2 (fun y5 m4 => Q y5 m4))))))
set_option maxHeartbeats 1000000 in
theorem kX10_pays {l1 : Int} {l2 : Int} {l3 : Int} {σ : Mem} {Q : Int → Mem → Prop} (h : wX10_pays l1 l2 l3 σ Q) (l : Launch) (D : va_G) (cy : Nat → ClassId) (ad : Nat → Nat) : MI l yX10_pays cX10_pays 4 (some .int) 5 151 D cy ad [vR 0, vI l1, vI l2, vI l3] σ Q := by
  refine m_I (own := RX10) (lv := [(0, vR 0), (1, vI l1), (2, vI l2), (3, vI l3)]) (by decide +kernel) rfl (Nat.le_of_ble_eq_true rfl) rfl (fun E hR => ?_) l D cy ad
  unfold wX10_pays at h
  refine g_aload_n dX10_pays_0 rfl ?_
  refine g_getR (r := 56) fl_10_16 kd_0 rfl dX10_pays_1 ?_
  refine g_aload_n dX10_pays_4 rfl ?_
  refine g_getR (r := 40) fl_10_12 kd_0 rfl dX10_pays_5 ?_
  refine g_cVv (st := []) (av := [vR 40]) (kX1_copyFrom bk_56 bk_40 h) (kd_bk0 bk_56) rfl cw_RX10_108 (by decide) (by decide) (Nat.le_of_ble_eq_true rfl) rfl dX10_pays_8 (fun m1 h => ?_)
  refine g_aload_n dX10_pays_11 rfl ?_
  refine g_aload_n dX10_pays_12 rfl ?_
  refine g_iload_n dX10_pays_13 rfl ?_
  refine g_iload_n dX10_pays_14 rfl ?_
  refine g_iload_n dX10_pays_15 rfl ?_
  refine g_cVi (st := [vR 0]) (av := [vI l1, vI l2, vI l3]) (kX10_paySplit h) kd_0 rfl cw_RX10_237 (by decide) (by decide) (Nat.le_of_ble_eq_true rfl) rfl dX10_pays_16 (fun y3 m2 h => ?_)
  refine g_cVi (st := []) (av := [vI y3]) (kX10_remembered h) kd_0 rfl cw_RX10_240 (by decide) (by decide) (Nat.le_of_ble_eq_true rfl) rfl dX10_pays_19 (fun y5 m4 h => ?_)
  exact g_iret hR dX10_pays_22 h
def wX10_payWhole (l1 : Int) (l2 : Int) (l3 : Int) (σ : Mem) (Q : Int → Mem → Prop) : Prop := (wX10_isPayment l1 l2 l3 σ (fun y2 m1 => ((¬ y2 = 0 → (wX4_load 40 m1 (fun m3 => (wX4_findWay l1 l2 l3 m3 (fun y5 m4 => ((¬ y5 = 0 → (wX4_pushAlong l3 m4 (fun m6 => (wX4_bookIn 40 m6 (fun m7 => (wX10_tellWay  m7 (fun m8 => Q (m8 14 7) m8))))))) ∧ (y5 = 0 → (wX4_widest l1 l2 m4 (fun y10 m9 => (wX5_tellOne y10 m9 (fun m11 => Q ((-4)) m11))))))))))) ∧ (y2 = 0 → Q ((-1)) m1))))
set_option maxHeartbeats 1000000 in
theorem kX10_payWhole {l1 : Int} {l2 : Int} {l3 : Int} {σ : Mem} {Q : Int → Mem → Prop} (h : wX10_payWhole l1 l2 l3 σ Q) (l : Launch) (D : va_G) (cy : Nat → ClassId) (ad : Nat → Nat) : MI l yX10_payWhole cX10_payWhole 4 (some .int) 4 92 D cy ad [vR 0, vI l1, vI l2, vI l3] σ Q := by
  refine m_I (own := RX10) (lv := [(0, vR 0), (1, vI l1), (2, vI l2), (3, vI l3)]) (by decide +kernel) rfl (Nat.le_of_ble_eq_true rfl) rfl (fun E hR => ?_) l D cy ad
  unfold wX10_payWhole at h
  refine g_aload_n dX10_payWhole_0 rfl ?_
  refine g_iload_n dX10_payWhole_1 rfl ?_
  refine g_iload_n dX10_payWhole_2 rfl ?_
  refine g_iload_n dX10_payWhole_3 rfl ?_
  refine g_cVi (st := []) (av := [vI l1, vI l2, vI l3]) (kX10_isPayment h) kd_0 rfl cw_RX10_174 (by decide) (by decide) (Nat.le_of_ble_eq_true rfl) rfl dX10_payWhole_4 (fun y2 m1 h => ?_)
  obtain ⟨hA, hB⟩ := h
  refine g_if_ne (tgt := 12) dX10_payWhole_7 (by decide) (fun hc => ?_) (fun hc => ?_)
  · replace h := hA hc
    refine g_aload_n dX10_payWhole_12 rfl ?_
    refine g_getR (r := 14) fl_10_61 kd_0 rfl dX10_payWhole_13 ?_
    refine g_aload_n dX10_payWhole_16 rfl ?_
    refine g_getR (r := 40) fl_10_12 kd_0 rfl dX10_payWhole_17 ?_
    refine g_cVv (st := []) (av := [vR 40]) (kX4_load bk_40 h) kd_14 rfl cw_RX10_178 (by decide) (by decide) (Nat.le_of_ble_eq_true rfl) rfl dX10_payWhole_20 (fun m3 h => ?_)
    refine g_aload_n dX10_payWhole_23 rfl ?_
    refine g_getR (r := 14) fl_10_61 kd_0 rfl dX10_payWhole_24 ?_
    refine g_iload_n dX10_payWhole_27 rfl ?_
    refine g_iload_n dX10_payWhole_28 rfl ?_
    refine g_iload_n dX10_payWhole_29 rfl ?_
    refine g_cVi (st := []) (av := [vI l1, vI l2, vI l3]) (kX4_findWay h) kd_14 rfl cw_RX10_181 (by decide) (by decide) (Nat.le_of_ble_eq_true rfl) rfl dX10_payWhole_30 (fun y5 m4 h => ?_)
    obtain ⟨hA, hB⟩ := h
    refine g_if_ne (tgt := 56) dX10_payWhole_33 (by decide) (fun hc => ?_) (fun hc => ?_)
    · replace h := hA hc
      refine g_aload_n dX10_payWhole_56 rfl ?_
      refine g_getR (r := 14) fl_10_61 kd_0 rfl dX10_payWhole_57 ?_
      refine g_iload_n dX10_payWhole_60 rfl ?_
      refine g_cVv (st := []) (av := [vI l3]) (kX4_pushAlong h) kd_14 rfl cw_RX10_428 (by decide) (by decide) (Nat.le_of_ble_eq_true rfl) rfl dX10_payWhole_61 (fun m6 h => ?_)
      refine g_aload_n dX10_payWhole_64 rfl ?_
      refine g_getR (r := 14) fl_10_61 kd_0 rfl dX10_payWhole_65 ?_
      refine g_aload_n dX10_payWhole_68 rfl ?_
      refine g_getR (r := 40) fl_10_12 kd_0 rfl dX10_payWhole_69 ?_
      refine g_cVv (st := []) (av := [vR 40]) (kX4_bookIn bk_40 h) kd_14 rfl cw_RX10_297 (by decide) (by decide) (Nat.le_of_ble_eq_true rfl) rfl dX10_payWhole_72 (fun m7 h => ?_)
      refine g_aload_n dX10_payWhole_75 rfl ?_
      refine g_cVv (st := []) (av := []) (kX10_tellWay h) kd_0 rfl cw_RX10_184 (by decide) (by decide) (Nat.le_of_ble_eq_true rfl) rfl dX10_payWhole_76 (fun m8 h => ?_)
      refine g_aload_n dX10_payWhole_79 rfl ?_
      refine g_getR (r := 14) fl_10_61 kd_0 rfl dX10_payWhole_80 ?_
      refine g_getI fl_10_187 kd_14 rfl dX10_payWhole_83 ?_
      exact g_iret hR dX10_payWhole_86 h
    · replace h := hB hc
      refine g_aload_n dX10_payWhole_36 rfl ?_
      refine g_getR (r := 12) fl_10_54 kd_0 rfl dX10_payWhole_37 ?_
      refine g_aload_n dX10_payWhole_40 rfl ?_
      refine g_getR (r := 14) fl_10_61 kd_0 rfl dX10_payWhole_41 ?_
      refine g_iload_n dX10_payWhole_44 rfl ?_
      refine g_iload_n dX10_payWhole_45 rfl ?_
      refine g_cVi (st := [vR 12]) (av := [vI l1, vI l2]) (kX4_widest h) kd_14 rfl cw_RX10_425 (by decide) (by decide) (Nat.le_of_ble_eq_true rfl) rfl dX10_payWhole_46 (fun y10 m9 h => ?_)
      refine g_i2l dX10_payWhole_49 ?_
      refine g_cVv (st := []) (av := [vL y10]) (kX5_tellOne h) kd_12 rfl cw_RX10_202 (by decide) (by decide) (Nat.le_of_ble_eq_true rfl) rfl dX10_payWhole_50 (fun m11 h => ?_)
      refine g_bipush dX10_payWhole_53 (-4) rfl (by decide) ?_
      exact g_iret hR dX10_payWhole_55 h
  · replace h := hB hc
    refine g_iconst dX10_payWhole_10 (-1) rfl (by decide) ?_
    exact g_iret hR dX10_payWhole_11 h
def wX10_whole (l1 : Int) (l2 : Int) (l3 : Int) (σ : Mem) (Q : Int → Mem → Prop) : Prop := (wX1_copyFrom 56 40 σ (fun m1 => (wX10_payWhole l1 l2 l3 m1 (fun y3 m2 => (wX10_remembered y3 m2 (fun y5 m4 => Q y5 m4))))))
set_option maxHeartbeats 1000000 in
theorem kX10_whole {l1 : Int} {l2 : Int} {l3 : Int} {σ : Mem} {Q : Int → Mem → Prop} (h : wX10_whole l1 l2 l3 σ Q) (l : Launch) (D : va_G) (cy : Nat → ClassId) (ad : Nat → Nat) : MI l yX10_whole cX10_whole 4 (some .int) 5 151 D cy ad [vR 0, vI l1, vI l2, vI l3] σ Q := by
  refine m_I (own := RX10) (lv := [(0, vR 0), (1, vI l1), (2, vI l2), (3, vI l3)]) (by decide +kernel) rfl (Nat.le_of_ble_eq_true rfl) rfl (fun E hR => ?_) l D cy ad
  unfold wX10_whole at h
  refine g_aload_n dX10_whole_0 rfl ?_
  refine g_getR (r := 56) fl_10_16 kd_0 rfl dX10_whole_1 ?_
  refine g_aload_n dX10_whole_4 rfl ?_
  refine g_getR (r := 40) fl_10_12 kd_0 rfl dX10_whole_5 ?_
  refine g_cVv (st := []) (av := [vR 40]) (kX1_copyFrom bk_56 bk_40 h) (kd_bk0 bk_56) rfl cw_RX10_108 (by decide) (by decide) (Nat.le_of_ble_eq_true rfl) rfl dX10_whole_8 (fun m1 h => ?_)
  refine g_aload_n dX10_whole_11 rfl ?_
  refine g_aload_n dX10_whole_12 rfl ?_
  refine g_iload_n dX10_whole_13 rfl ?_
  refine g_iload_n dX10_whole_14 rfl ?_
  refine g_iload_n dX10_whole_15 rfl ?_
  refine g_cVi (st := [vR 0]) (av := [vI l1, vI l2, vI l3]) (kX10_payWhole h) kd_0 rfl cw_RX10_243 (by decide) (by decide) (Nat.le_of_ble_eq_true rfl) rfl dX10_whole_16 (fun y3 m2 h => ?_)
  refine g_cVi (st := []) (av := [vI y3]) (kX10_remembered h) kd_0 rfl cw_RX10_240 (by decide) (by decide) (Nat.le_of_ble_eq_true rfl) rfl dX10_whole_19 (fun y5 m4 h => ?_)
  exact g_iret hR dX10_whole_22 h
def wX10_holdPayment (l1 : Int) (l2 : Int) (l3 : Int) (σ : Mem) (Q : Int → Mem → Prop) : Prop := (wX10_isPayment l1 l2 l3 σ (fun y2 m1 => ((¬ y2 = 0 → (wX1_freePlace 40 m1 (fun y4 m3 => ((0 ≤ y4 → (wX4_load 40 m3 (fun m5 => (wX4_send l1 l2 l3 m5 (fun y7 m6 => ((l3 ≤ y7 → ((0 ≤ y4 ∧ y4 < 4) ∧ (wX3_take (40 + 5 + y4.toNat) l1 l2 l3 m6 (fun m9 => (wX5_tellOne (m9 14 10) m9 (fun m10 => Q y4 m10)))))) ∧ (¬ l3 ≤ y7 → (wX5_tellOne y7 m6 (fun m11 => Q ((-4)) m11))))))))) ∧ (¬ 0 ≤ y4 → Q ((-3)) m3))))) ∧ (y2 = 0 → Q ((-1)) m1))))
set_option maxHeartbeats 1000000 in
theorem kX10_holdPayment {l1 : Int} {l2 : Int} {l3 : Int} {σ : Mem} {Q : Int → Mem → Prop} (h : wX10_holdPayment l1 l2 l3 σ Q) (l : Launch) (D : va_G) (cy : Nat → ClassId) (ad : Nat → Nat) : MI l yX10_holdPayment cX10_holdPayment 6 (some .int) 4 99 D cy ad [vR 0, vI l1, vI l2, vI l3] σ Q := by
  refine m_I (own := RX10) (lv := [(0, vR 0), (1, vI l1), (2, vI l2), (3, vI l3)]) (by decide +kernel) rfl (Nat.le_of_ble_eq_true rfl) rfl (fun E hR => ?_) l D cy ad
  unfold wX10_holdPayment at h
  refine g_aload_n dX10_holdPayment_0 rfl ?_
  refine g_iload_n dX10_holdPayment_1 rfl ?_
  refine g_iload_n dX10_holdPayment_2 rfl ?_
  refine g_iload_n dX10_holdPayment_3 rfl ?_
  refine g_cVi (st := []) (av := [vI l1, vI l2, vI l3]) (kX10_isPayment h) kd_0 rfl cw_RX10_174 (by decide) (by decide) (Nat.le_of_ble_eq_true rfl) rfl dX10_holdPayment_4 (fun y2 m1 h => ?_)
  obtain ⟨hA, hB⟩ := h
  refine g_if_ne (tgt := 12) dX10_holdPayment_7 (by decide) (fun hc => ?_) (fun hc => ?_)
  · replace h := hA hc
    refine g_aload_n dX10_holdPayment_12 rfl ?_
    refine g_getR (r := 40) fl_10_12 kd_0 rfl dX10_holdPayment_13 ?_
    refine g_cVi (st := []) (av := []) (kX1_freePlace bk_40 h) (kd_bk0 bk_40) rfl cw_RX10_431 (by decide) (by decide) (Nat.le_of_ble_eq_true rfl) rfl dX10_holdPayment_16 (fun y4 m3 h => ?_)
    refine g_istore (lv' := [(4, vI y4), (0, vR 0), (1, vI l1), (2, vI l2), (3, vI l3)]) dX10_holdPayment_19 (by decide) rfl ?_
    refine g_iload dX10_holdPayment_21 rfl ?_
    obtain ⟨hA, hB⟩ := h
    refine g_if_ge (tgt := 29) dX10_holdPayment_23 (by decide) (fun hc => ?_) (fun hc => ?_)
    · replace h := hA hc
      refine g_aload_n dX10_holdPayment_29 rfl ?_
      refine g_getR (r := 14) fl_10_61 kd_0 rfl dX10_holdPayment_30 ?_
      refine g_aload_n dX10_holdPayment_33 rfl ?_
      refine g_getR (r := 40) fl_10_12 kd_0 rfl dX10_holdPayment_34 ?_
      refine g_cVv (st := []) (av := [vR 40]) (kX4_load bk_40 h) kd_14 rfl cw_RX10_178 (by decide) (by decide) (Nat.le_of_ble_eq_true rfl) rfl dX10_holdPayment_37 (fun m5 h => ?_)
      refine g_aload_n dX10_holdPayment_40 rfl ?_
      refine g_getR (r := 14) fl_10_61 kd_0 rfl dX10_holdPayment_41 ?_
      refine g_iload_n dX10_holdPayment_44 rfl ?_
      refine g_iload_n dX10_holdPayment_45 rfl ?_
      refine g_iload_n dX10_holdPayment_46 rfl ?_
      refine g_cVi (st := []) (av := [vI l1, vI l2, vI l3]) (kX4_send h) kd_14 rfl cw_RX10_207 (by decide) (by decide) (Nat.le_of_ble_eq_true rfl) rfl dX10_holdPayment_47 (fun y7 m6 h => ?_)
      refine g_istore (lv' := [(5, vI y7), (4, vI y4), (0, vR 0), (1, vI l1), (2, vI l2), (3, vI l3)]) dX10_holdPayment_50 (by decide) rfl ?_
      refine g_iload dX10_holdPayment_52 rfl ?_
      refine g_iload_n dX10_holdPayment_54 rfl ?_
      obtain ⟨hA, hB⟩ := h
      refine g_icmp_ge (tgt := 71) dX10_holdPayment_55 (by decide) (fun hc => ?_) (fun hc => ?_)
      · replace h := hA hc
        refine g_aload_n dX10_holdPayment_71 rfl ?_
        refine g_getR (r := 40) fl_10_12 kd_0 rfl dX10_holdPayment_72 ?_
        refine g_getR (r := 40 + 4) fl_10_260 (kd_bk0 bk_40) rfl dX10_holdPayment_75 ?_
        refine g_iload dX10_holdPayment_78 rfl ?_
        obtain ⟨hin, h⟩ := h
        have hi8 := hin
        refine g_aald (kd_bk4 bk_40) (Or.inr rfl) hin (ho_r hi8) dX10_holdPayment_80 ?_
        refine g_iload_n dX10_holdPayment_81 rfl ?_
        refine g_iload_n dX10_holdPayment_82 rfl ?_
        refine g_iload_n dX10_holdPayment_83 rfl ?_
        refine g_aload_n dX10_holdPayment_84 rfl ?_
        refine g_getR (r := 14) fl_10_61 kd_0 rfl dX10_holdPayment_85 ?_
        refine g_cVv (st := []) (av := [vI l1, vI l2, vI l3, vR 14]) (kX3_take (ho_of bk_40 hi8) h) (kd_ho (ho_of bk_40 hi8)) rfl cw_RX10_434 (by decide) (by decide) (Nat.le_of_ble_eq_true rfl) rfl dX10_holdPayment_88 (fun m9 h => ?_)
        refine g_aload_n dX10_holdPayment_91 rfl ?_
        refine g_getR (r := 12) fl_10_54 kd_0 rfl dX10_holdPayment_92 ?_
        refine g_aload_n dX10_holdPayment_95 rfl ?_
        refine g_getR (r := 14) fl_10_61 kd_0 rfl dX10_holdPayment_96 ?_
        refine g_getI fl_10_210 kd_14 rfl dX10_holdPayment_99 ?_
        refine g_i2l dX10_holdPayment_102 ?_
        refine g_cVv (st := []) (av := [vL (m9 14 10)]) (kX5_tellOne h) kd_12 rfl cw_RX10_202 (by decide) (by decide) (Nat.le_of_ble_eq_true rfl) rfl dX10_holdPayment_103 (fun m10 h => ?_)
        refine g_iload dX10_holdPayment_106 rfl ?_
        exact g_iret hR dX10_holdPayment_108 h
      · replace h := hB hc
        refine g_aload_n dX10_holdPayment_58 rfl ?_
        refine g_getR (r := 12) fl_10_54 kd_0 rfl dX10_holdPayment_59 ?_
        refine g_iload dX10_holdPayment_62 rfl ?_
        refine g_i2l dX10_holdPayment_64 ?_
        refine g_cVv (st := []) (av := [vL y7]) (kX5_tellOne h) kd_12 rfl cw_RX10_202 (by decide) (by decide) (Nat.le_of_ble_eq_true rfl) rfl dX10_holdPayment_65 (fun m11 h => ?_)
        refine g_bipush dX10_holdPayment_68 (-4) rfl (by decide) ?_
        exact g_iret hR dX10_holdPayment_70 h
    · replace h := hB hc
      refine g_bipush dX10_holdPayment_26 (-3) rfl (by decide) ?_
      exact g_iret hR dX10_holdPayment_28 h
  · replace h := hB hc
    refine g_iconst dX10_holdPayment_10 (-1) rfl (by decide) ?_
    exact g_iret hR dX10_holdPayment_11 h
def wX10_holds (l1 : Int) (l2 : Int) (l3 : Int) (σ : Mem) (Q : Int → Mem → Prop) : Prop := (wX1_copyFrom 56 40 σ (fun m1 => (wX10_holdPayment l1 l2 l3 m1 (fun y3 m2 => (wX10_remembered y3 m2 (fun y5 m4 => Q y5 m4))))))
set_option maxHeartbeats 1000000 in
theorem kX10_holds {l1 : Int} {l2 : Int} {l3 : Int} {σ : Mem} {Q : Int → Mem → Prop} (h : wX10_holds l1 l2 l3 σ Q) (l : Launch) (D : va_G) (cy : Nat → ClassId) (ad : Nat → Nat) : MI l yX10_holds cX10_holds 4 (some .int) 5 151 D cy ad [vR 0, vI l1, vI l2, vI l3] σ Q := by
  refine m_I (own := RX10) (lv := [(0, vR 0), (1, vI l1), (2, vI l2), (3, vI l3)]) (by decide +kernel) rfl (Nat.le_of_ble_eq_true rfl) rfl (fun E hR => ?_) l D cy ad
  unfold wX10_holds at h
  refine g_aload_n dX10_holds_0 rfl ?_
  refine g_getR (r := 56) fl_10_16 kd_0 rfl dX10_holds_1 ?_
  refine g_aload_n dX10_holds_4 rfl ?_
  refine g_getR (r := 40) fl_10_12 kd_0 rfl dX10_holds_5 ?_
  refine g_cVv (st := []) (av := [vR 40]) (kX1_copyFrom bk_56 bk_40 h) (kd_bk0 bk_56) rfl cw_RX10_108 (by decide) (by decide) (Nat.le_of_ble_eq_true rfl) rfl dX10_holds_8 (fun m1 h => ?_)
  refine g_aload_n dX10_holds_11 rfl ?_
  refine g_aload_n dX10_holds_12 rfl ?_
  refine g_iload_n dX10_holds_13 rfl ?_
  refine g_iload_n dX10_holds_14 rfl ?_
  refine g_iload_n dX10_holds_15 rfl ?_
  refine g_cVi (st := [vR 0]) (av := [vI l1, vI l2, vI l3]) (kX10_holdPayment h) kd_0 rfl cw_RX10_246 (by decide) (by decide) (Nat.le_of_ble_eq_true rfl) rfl dX10_holds_16 (fun y3 m2 h => ?_)
  refine g_cVi (st := []) (av := [vI y3]) (kX10_remembered h) kd_0 rfl cw_RX10_240 (by decide) (by decide) (Nat.le_of_ble_eq_true rfl) rfl dX10_holds_19 (fun y5 m4 h => ?_)
  exact g_iret hR dX10_holds_22 h
def wX10_makeHeld (l1 : Int) (σ : Mem) (Q : Int → Mem → Prop) : Prop := (wX1_isHeldAt 40 l1 σ (fun y2 m1 => ((y2 = 0 → Q ((-1)) m1) ∧ (¬ y2 = 0 → (wX1_makeAt 40 l1 m1 (fun y4 m3 => Q y4 m3))))))
set_option maxHeartbeats 1000000 in
theorem kX10_makeHeld {l1 : Int} {σ : Mem} {Q : Int → Mem → Prop} (h : wX10_makeHeld l1 σ Q) (l : Launch) (D : va_G) (cy : Nat → ClassId) (ad : Nat → Nat) : MI l yX10_makeHeld cX10_makeHeld 2 (some .int) 3 68 D cy ad [vR 0, vI l1] σ Q := by
  refine m_I (own := RX10) (lv := [(0, vR 0), (1, vI l1)]) (by decide +kernel) rfl (Nat.le_of_ble_eq_true rfl) rfl (fun E hR => ?_) l D cy ad
  unfold wX10_makeHeld at h
  refine g_aload_n dX10_makeHeld_0 rfl ?_
  refine g_getR (r := 40) fl_10_12 kd_0 rfl dX10_makeHeld_1 ?_
  refine g_iload_n dX10_makeHeld_4 rfl ?_
  refine g_cVi (st := []) (av := [vI l1]) (kX1_isHeldAt bk_40 h) (kd_bk0 bk_40) rfl cw_RX10_255 (by decide) (by decide) (Nat.le_of_ble_eq_true rfl) rfl dX10_makeHeld_5 (fun y2 m1 h => ?_)
  obtain ⟨hA, hB⟩ := h
  refine g_if_eq (tgt := 22) dX10_makeHeld_8 (by decide) (fun hc => ?_) (fun hc => ?_)
  · replace h := hA hc
    refine g_iconst dX10_makeHeld_22 (-1) rfl (by decide) ?_
    exact g_iret hR dX10_makeHeld_23 h
  · replace h := hB hc
    refine g_aload_n dX10_makeHeld_11 rfl ?_
    refine g_getR (r := 40) fl_10_12 kd_0 rfl dX10_makeHeld_12 ?_
    refine g_iload_n dX10_makeHeld_15 rfl ?_
    refine g_cVi (st := []) (av := [vI l1]) (kX1_makeAt bk_40 h) (kd_bk0 bk_40) rfl cw_RX10_278 (by decide) (by decide) (Nat.le_of_ble_eq_true rfl) rfl dX10_makeHeld_16 (fun y4 m3 h => ?_)
    refine g_goto (tgt := 23) dX10_makeHeld_19 (by decide) ?_
    exact g_iret hR dX10_makeHeld_23 h
def wX10_makes (l1 : Int) (σ : Mem) (Q : Int → Mem → Prop) : Prop := (wX1_copyFrom 56 40 σ (fun m1 => (wX10_makeHeld l1 m1 (fun y3 m2 => (wX10_remembered y3 m2 (fun y5 m4 => Q y5 m4))))))
set_option maxHeartbeats 1000000 in
theorem kX10_makes {l1 : Int} {σ : Mem} {Q : Int → Mem → Prop} (h : wX10_makes l1 σ Q) (l : Launch) (D : va_G) (cy : Nat → ClassId) (ad : Nat → Nat) : MI l yX10_makes cX10_makes 2 (some .int) 5 151 D cy ad [vR 0, vI l1] σ Q := by
  refine m_I (own := RX10) (lv := [(0, vR 0), (1, vI l1)]) (by decide +kernel) rfl (Nat.le_of_ble_eq_true rfl) rfl (fun E hR => ?_) l D cy ad
  unfold wX10_makes at h
  refine g_aload_n dX10_makes_0 rfl ?_
  refine g_getR (r := 56) fl_10_16 kd_0 rfl dX10_makes_1 ?_
  refine g_aload_n dX10_makes_4 rfl ?_
  refine g_getR (r := 40) fl_10_12 kd_0 rfl dX10_makes_5 ?_
  refine g_cVv (st := []) (av := [vR 40]) (kX1_copyFrom bk_56 bk_40 h) (kd_bk0 bk_56) rfl cw_RX10_108 (by decide) (by decide) (Nat.le_of_ble_eq_true rfl) rfl dX10_makes_8 (fun m1 h => ?_)
  refine g_aload_n dX10_makes_11 rfl ?_
  refine g_aload_n dX10_makes_12 rfl ?_
  refine g_iload_n dX10_makes_13 rfl ?_
  refine g_cVi (st := [vR 0]) (av := [vI l1]) (kX10_makeHeld h) kd_0 rfl cw_RX10_249 (by decide) (by decide) (Nat.le_of_ble_eq_true rfl) rfl dX10_makes_14 (fun y3 m2 h => ?_)
  refine g_cVi (st := []) (av := [vI y3]) (kX10_remembered h) kd_0 rfl cw_RX10_240 (by decide) (by decide) (Nat.le_of_ble_eq_true rfl) rfl dX10_makes_17 (fun y5 m4 h => ?_)
  exact g_iret hR dX10_makes_20 h
def wX10_dropHeld (l1 : Int) (σ : Mem) (Q : Int → Mem → Prop) : Prop := (wX1_isHeldAt 40 l1 σ (fun y2 m1 => ((y2 = 0 → Q ((-1)) m1) ∧ (¬ y2 = 0 → (wX1_dropAt 40 l1 m1 (fun y4 m3 => Q y4 m3))))))
set_option maxHeartbeats 1000000 in
theorem kX10_dropHeld {l1 : Int} {σ : Mem} {Q : Int → Mem → Prop} (h : wX10_dropHeld l1 σ Q) (l : Launch) (D : va_G) (cy : Nat → ClassId) (ad : Nat → Nat) : MI l yX10_dropHeld cX10_dropHeld 2 (some .int) 2 43 D cy ad [vR 0, vI l1] σ Q := by
  refine m_I (own := RX10) (lv := [(0, vR 0), (1, vI l1)]) (by decide +kernel) rfl (Nat.le_of_ble_eq_true rfl) rfl (fun E hR => ?_) l D cy ad
  unfold wX10_dropHeld at h
  refine g_aload_n dX10_dropHeld_0 rfl ?_
  refine g_getR (r := 40) fl_10_12 kd_0 rfl dX10_dropHeld_1 ?_
  refine g_iload_n dX10_dropHeld_4 rfl ?_
  refine g_cVi (st := []) (av := [vI l1]) (kX1_isHeldAt bk_40 h) (kd_bk0 bk_40) rfl cw_RX10_255 (by decide) (by decide) (Nat.le_of_ble_eq_true rfl) rfl dX10_dropHeld_5 (fun y2 m1 h => ?_)
  obtain ⟨hA, hB⟩ := h
  refine g_if_eq (tgt := 22) dX10_dropHeld_8 (by decide) (fun hc => ?_) (fun hc => ?_)
  · replace h := hA hc
    refine g_iconst dX10_dropHeld_22 (-1) rfl (by decide) ?_
    exact g_iret hR dX10_dropHeld_23 h
  · replace h := hB hc
    refine g_aload_n dX10_dropHeld_11 rfl ?_
    refine g_getR (r := 40) fl_10_12 kd_0 rfl dX10_dropHeld_12 ?_
    refine g_iload_n dX10_dropHeld_15 rfl ?_
    refine g_cVi (st := []) (av := [vI l1]) (kX1_dropAt bk_40 h) (kd_bk0 bk_40) rfl cw_RX10_281 (by decide) (by decide) (Nat.le_of_ble_eq_true rfl) rfl dX10_dropHeld_16 (fun y4 m3 h => ?_)
    refine g_goto (tgt := 23) dX10_dropHeld_19 (by decide) ?_
    exact g_iret hR dX10_dropHeld_23 h
def wX10_letsGo (l1 : Int) (σ : Mem) (Q : Int → Mem → Prop) : Prop := (wX1_copyFrom 56 40 σ (fun m1 => (wX10_dropHeld l1 m1 (fun y3 m2 => (wX10_remembered y3 m2 (fun y5 m4 => Q y5 m4))))))
set_option maxHeartbeats 1000000 in
theorem kX10_letsGo {l1 : Int} {σ : Mem} {Q : Int → Mem → Prop} (h : wX10_letsGo l1 σ Q) (l : Launch) (D : va_G) (cy : Nat → ClassId) (ad : Nat → Nat) : MI l yX10_letsGo cX10_letsGo 2 (some .int) 5 151 D cy ad [vR 0, vI l1] σ Q := by
  refine m_I (own := RX10) (lv := [(0, vR 0), (1, vI l1)]) (by decide +kernel) rfl (Nat.le_of_ble_eq_true rfl) rfl (fun E hR => ?_) l D cy ad
  unfold wX10_letsGo at h
  refine g_aload_n dX10_letsGo_0 rfl ?_
  refine g_getR (r := 56) fl_10_16 kd_0 rfl dX10_letsGo_1 ?_
  refine g_aload_n dX10_letsGo_4 rfl ?_
  refine g_getR (r := 40) fl_10_12 kd_0 rfl dX10_letsGo_5 ?_
  refine g_cVv (st := []) (av := [vR 40]) (kX1_copyFrom bk_56 bk_40 h) (kd_bk0 bk_56) rfl cw_RX10_108 (by decide) (by decide) (Nat.le_of_ble_eq_true rfl) rfl dX10_letsGo_8 (fun m1 h => ?_)
  refine g_aload_n dX10_letsGo_11 rfl ?_
  refine g_aload_n dX10_letsGo_12 rfl ?_
  refine g_iload_n dX10_letsGo_13 rfl ?_
  refine g_cVi (st := [vR 0]) (av := [vI l1]) (kX10_dropHeld h) kd_0 rfl cw_RX10_252 (by decide) (by decide) (Nat.le_of_ble_eq_true rfl) rfl dX10_letsGo_14 (fun y3 m2 h => ?_)
  refine g_cVi (st := []) (av := [vI y3]) (kX10_remembered h) kd_0 rfl cw_RX10_240 (by decide) (by decide) (Nat.le_of_ble_eq_true rfl) rfl dX10_letsGo_17 (fun y5 m4 h => ?_)
  exact g_iret hR dX10_letsGo_20 h
def wX10_mostThen_37 (K37 : (Int × Int × Int × Int) → Mem → Prop) (Q : Int → Mem → Prop) (l1 : Int) (l2 : Int) (l3 : Int) (l4 : Int) (σ : Mem) : Prop := ((4 ≤ l4 → (wX4_load 72 σ (fun m1 => (wX4_send l1 l2 1000000 m1 (fun y3 m2 => Q y3 m2))))) ∧ (¬ 4 ≤ l4 → ((¬ l3 = 0 → (wX1_dropAt 72 l4 σ (fun y5 m4 => (∀ x6 : Int, x6 = w32 (l4 + 1) → K37 (l1, l2, l3, x6) m4)))) ∧ (l3 = 0 → (wX1_makeAt 72 l4 σ (fun y8 m7 => (∀ x9 : Int, x9 = w32 (l4 + 1) → K37 (l1, l2, l3, x9) m7)))))))
def wLX10_mostThen_37 (Q : Int → Mem → Prop) (l1 : Int) (l2 : Int) (l3 : Int) (l4 : Int) (σ : Mem) : Prop := ∃ n, lp (fun (K37 : (Int × Int × Int × Int) → Mem → Prop) (x : Int × Int × Int × Int) (σ : Mem) => wX10_mostThen_37 K37 Q x.1 x.2.1 x.2.2.1 x.2.2.2 σ) n (l1, l2, l3, l4) σ
def wX10_mostThen (l1 : Int) (l2 : Int) (l3 : Int) (σ : Mem) (Q : Int → Mem → Prop) : Prop := (wX1_hasBoth 40 l1 l2 σ (fun y2 m1 => ((y2 = 0 → Q ((-1)) m1) ∧ (¬ y2 = 0 → ((l3 < 0 → Q ((-1)) m1) ∧ (¬ l3 < 0 → ((l3 ≤ 1 → (wX1_copyFrom 72 40 m1 (fun m3 => wLX10_mostThen_37 Q l1 l2 l3 0 m3))) ∧ (¬ l3 ≤ 1 → Q ((-1)) m1))))))))
set_option maxHeartbeats 1000000 in
theorem bX10_mostThen_37 {E : TE} {K37 : (Int × Int × Int × Int) → Mem → Prop} (hK37 : ∀ (x : Int × Int × Int × Int) (σ : Mem), K37 x σ → GW E cX10_mostThen 5 RX10 4 107 σ 37 [(0, vR 0), (1, vI x.1), (2, vI x.2.1), (3, vI x.2.2.1), (4, vI x.2.2.2)] []) {Q : Int → Mem → Prop} (hR : RI E (some .int) Q) {l1 : Int} {l2 : Int} {l3 : Int} {l4 : Int} {σ : Mem} (h : wX10_mostThen_37 K37 Q l1 l2 l3 l4 σ) : GW E cX10_mostThen 5 RX10 4 107 σ 37 [(0, vR 0), (1, vI l1), (2, vI l2), (3, vI l3), (4, vI l4)] [] := by
  unfold wX10_mostThen_37 at h
  refine g_iload dX10_mostThen_37 rfl ?_
  refine g_iconst dX10_mostThen_39 4 rfl (by decide) ?_
  obtain ⟨hA, hB⟩ := h
  refine g_icmp_ge (tgt := 76) dX10_mostThen_40 (by decide) (fun hc => ?_) (fun hc => ?_)
  · replace h := hA hc
    refine g_aload_n dX10_mostThen_76 rfl ?_
    refine g_getR (r := 14) fl_10_61 kd_0 rfl dX10_mostThen_77 ?_
    refine g_aload_n dX10_mostThen_80 rfl ?_
    refine g_getR (r := 72) fl_10_19 kd_0 rfl dX10_mostThen_81 ?_
    refine g_cVv (st := []) (av := [vR 72]) (kX4_load bk_72 h) kd_14 rfl cw_RX10_178 (by decide) (by decide) (Nat.le_of_ble_eq_true rfl) rfl dX10_mostThen_84 (fun m1 h => ?_)
    refine g_aload_n dX10_mostThen_87 rfl ?_
    refine g_getR (r := 14) fl_10_61 kd_0 rfl dX10_mostThen_88 ?_
    refine g_iload_n dX10_mostThen_91 rfl ?_
    refine g_iload_n dX10_mostThen_92 rfl ?_
    refine g_ldc dX10_mostThen_93 1000000 q_628 (by decide) ?_
    refine g_cVi (st := []) (av := [vI l1, vI l2, vI 1000000]) (kX4_send h) kd_14 rfl cw_RX10_207 (by decide) (by decide) (Nat.le_of_ble_eq_true rfl) rfl dX10_mostThen_95 (fun y3 m2 h => ?_)
    exact g_iret hR dX10_mostThen_98 h
  · replace h := hB hc
    refine g_iload_n dX10_mostThen_43 rfl ?_
    obtain ⟨hA, hB⟩ := h
    refine g_if_ne (tgt := 60) dX10_mostThen_44 (by decide) (fun hc => ?_) (fun hc => ?_)
    · replace h := hA hc
      refine g_aload_n dX10_mostThen_60 rfl ?_
      refine g_getR (r := 72) fl_10_19 kd_0 rfl dX10_mostThen_61 ?_
      refine g_iload dX10_mostThen_64 rfl ?_
      refine g_cVi (st := []) (av := [vI l4]) (kX1_dropAt bk_72 h) (kd_bk0 bk_72) rfl cw_RX10_281 (by decide) (by decide) (Nat.le_of_ble_eq_true rfl) rfl dX10_mostThen_66 (fun y5 m4 h => ?_)
      refine g_pop dX10_mostThen_69 rfl ?_
      refine g_iinc (lv' := [(4, vI (w32 (l4 + 1))), (0, vR 0), (1, vI l1), (2, vI l2), (3, vI l3)]) dX10_mostThen_70 rfl (by decide) rfl ?_
      refine g_loc (a := w32 (l4 + 1)) (i := 4) (lv := [(0, vR 0), (1, vI l1), (2, vI l2), (3, vI l3)]) (fun x6 ex6 => ?_)
      replace h := h x6 ex6
      refine g_goto (tgt := 37) dX10_mostThen_73 (by decide) ?_
      refine g_lv (lv' := [(0, vR 0), (1, vI l1), (2, vI l2), (3, vI l3), (4, vI x6)]) [1, 2, 3, 4, 0] rfl ?_
      exact hK37 ((l1, l2, l3, x6)) m4 h
    · replace h := hB hc
      refine g_aload_n dX10_mostThen_47 rfl ?_
      refine g_getR (r := 72) fl_10_19 kd_0 rfl dX10_mostThen_48 ?_
      refine g_iload dX10_mostThen_51 rfl ?_
      refine g_cVi (st := []) (av := [vI l4]) (kX1_makeAt bk_72 h) (kd_bk0 bk_72) rfl cw_RX10_278 (by decide) (by decide) (Nat.le_of_ble_eq_true rfl) rfl dX10_mostThen_53 (fun y8 m7 h => ?_)
      refine g_pop dX10_mostThen_56 rfl ?_
      refine g_goto (tgt := 70) dX10_mostThen_57 (by decide) ?_
      refine g_iinc (lv' := [(4, vI (w32 (l4 + 1))), (0, vR 0), (1, vI l1), (2, vI l2), (3, vI l3)]) dX10_mostThen_70 rfl (by decide) rfl ?_
      refine g_loc (a := w32 (l4 + 1)) (i := 4) (lv := [(0, vR 0), (1, vI l1), (2, vI l2), (3, vI l3)]) (fun x9 ex9 => ?_)
      replace h := h x9 ex9
      refine g_goto (tgt := 37) dX10_mostThen_73 (by decide) ?_
      refine g_lv (lv' := [(0, vR 0), (1, vI l1), (2, vI l2), (3, vI l3), (4, vI x9)]) [1, 2, 3, 4, 0] rfl ?_
      exact hK37 ((l1, l2, l3, x9)) m7 h
theorem eX10_mostThen_37 {E : TE} {Q : Int → Mem → Prop} (hR : RI E (some .int) Q) {l1 : Int} {l2 : Int} {l3 : Int} {l4 : Int} {σ : Mem} (h : wLX10_mostThen_37 Q l1 l2 l3 l4 σ) : GW E cX10_mostThen 5 RX10 4 107 σ 37 [(0, vR 0), (1, vI l1), (2, vI l2), (3, vI l3), (4, vI l4)] [] := by
  obtain ⟨n, h⟩ := h
  exact lp_GW (P := fun (x : Int × Int × Int × Int) (σ : Mem) => GW E cX10_mostThen 5 RX10 4 107 σ 37 [(0, vR 0), (1, vI x.1), (2, vI x.2.1), (3, vI x.2.2.1), (4, vI x.2.2.2)] []) (fun K hK x σ h  => bX10_mostThen_37 hK hR h) n _ σ h 
set_option maxHeartbeats 1000000 in
theorem kX10_mostThen {l1 : Int} {l2 : Int} {l3 : Int} {σ : Mem} {Q : Int → Mem → Prop} (h : wX10_mostThen l1 l2 l3 σ Q) (l : Launch) (D : va_G) (cy : Nat → ClassId) (ad : Nat → Nat) : MI l yX10_mostThen cX10_mostThen 5 (some .int) 4 107 D cy ad [vR 0, vI l1, vI l2, vI l3] σ Q := by
  refine m_I (own := RX10) (lv := [(0, vR 0), (1, vI l1), (2, vI l2), (3, vI l3)]) (by decide +kernel) rfl (Nat.le_of_ble_eq_true rfl) rfl (fun E hR => ?_) l D cy ad
  unfold wX10_mostThen at h
  refine g_aload_n dX10_mostThen_0 rfl ?_
  refine g_getR (r := 40) fl_10_12 kd_0 rfl dX10_mostThen_1 ?_
  refine g_iload_n dX10_mostThen_4 rfl ?_
  refine g_iload_n dX10_mostThen_5 rfl ?_
  refine g_cVi (st := []) (av := [vI l1, vI l2]) (kX1_hasBoth bk_40 h) (kd_bk0 bk_40) rfl cw_RX10_143 (by decide) (by decide) (Nat.le_of_ble_eq_true rfl) rfl dX10_mostThen_6 (fun y2 m1 h => ?_)
  obtain ⟨hA, hB⟩ := h
  refine g_if_eq (tgt := 21) dX10_mostThen_9 (by decide) (fun hc => ?_) (fun hc => ?_)
  · replace h := hA hc
    refine g_iconst dX10_mostThen_21 (-1) rfl (by decide) ?_
    exact g_iret hR dX10_mostThen_22 h
  · replace h := hB hc
    refine g_iload_n dX10_mostThen_12 rfl ?_
    obtain ⟨hA, hB⟩ := h
    refine g_if_lt (tgt := 21) dX10_mostThen_13 (by decide) (fun hc => ?_) (fun hc => ?_)
    · replace h := hA hc
      refine g_iconst dX10_mostThen_21 (-1) rfl (by decide) ?_
      exact g_iret hR dX10_mostThen_22 h
    · replace h := hB hc
      refine g_iload_n dX10_mostThen_16 rfl ?_
      refine g_iconst dX10_mostThen_17 1 rfl (by decide) ?_
      obtain ⟨hA, hB⟩ := h
      refine g_icmp_le (tgt := 23) dX10_mostThen_18 (by decide) (fun hc => ?_) (fun hc => ?_)
      · replace h := hA hc
        refine g_aload_n dX10_mostThen_23 rfl ?_
        refine g_getR (r := 72) fl_10_19 kd_0 rfl dX10_mostThen_24 ?_
        refine g_aload_n dX10_mostThen_27 rfl ?_
        refine g_getR (r := 40) fl_10_12 kd_0 rfl dX10_mostThen_28 ?_
        refine g_cVv (st := []) (av := [vR 40]) (kX1_copyFrom bk_72 bk_40 h) (kd_bk0 bk_72) rfl cw_RX10_108 (by decide) (by decide) (Nat.le_of_ble_eq_true rfl) rfl dX10_mostThen_31 (fun m3 h => ?_)
        refine g_iconst dX10_mostThen_34 0 rfl (by decide) ?_
        refine g_istore (lv' := [(4, vI 0), (0, vR 0), (1, vI l1), (2, vI l2), (3, vI l3)]) dX10_mostThen_35 (by decide) rfl ?_
        refine g_lv (lv' := [(0, vR 0), (1, vI l1), (2, vI l2), (3, vI l3), (4, vI 0)]) [1, 2, 3, 4, 0] rfl ?_
        exact eX10_mostThen_37 hR h
      · replace h := hB hc
        refine g_iconst dX10_mostThen_21 (-1) rfl (by decide) ?_
        exact g_iret hR dX10_mostThen_22 h
def wX10_batch_47 (K47 : (Int × Int) → Mem → Prop) (Q : Int → Mem → Prop) (l1 : Int) (l2 : Int) (σ : Mem) : Prop := ((l1 ≤ l2 → ((l1 ≤ 0 → Q l1 σ) ∧ (¬ l1 ≤ 0 → (wX6_add 40 σ (fun m1 => (wX4_bookIn 40 m1 (fun m2 => Q l1 m2))))))) ∧ (¬ l1 ≤ l2 → ((0 ≤ l2 ∧ l2 < 80) ∧ ((0 ≤ l2 ∧ l2 < 80) ∧ ((0 ≤ l2 ∧ l2 < 80) ∧ (wX4_send (σ 9 l2.toNat) (σ 10 l2.toNat) (σ 11 l2.toNat) σ (fun y4 m3 => ((0 ≤ l2 ∧ l2 < 80) ∧ ((m3 11 l2.toNat ≤ y4 → (∀ x5 : Int, x5 = w32 (l2 + 1) → K47 (l1, x5) m3)) ∧ (¬ m3 11 l2.toNat ≤ y4 → (wX5_tellOne y4 m3 (fun m6 => Q (w32 (((-100)) - l2)) m6))))))))))))
def wLX10_batch_47 (Q : Int → Mem → Prop) (l1 : Int) (l2 : Int) (σ : Mem) : Prop := ∃ n, lp (fun (K47 : (Int × Int) → Mem → Prop) (x : Int × Int) (σ : Mem) => wX10_batch_47 K47 Q x.1 x.2 σ) n (l1, l2) σ
def wX10_batch (σ : Mem) (Q : Int → Mem → Prop) : Prop := (wX0_readPayments (σ 40 0) 8 σ (fun y2 m1 => (wX9_empty  m1 (fun m3 => ((0 ≤ y2 → (wX4_load 40 m3 (fun m4 => wLX10_batch_47 Q y2 0 m4))) ∧ (¬ 0 ≤ y2 → Q y2 m3))))))
set_option maxHeartbeats 1000000 in
theorem bX10_batch_47 {E : TE} {K47 : (Int × Int) → Mem → Prop} (hK47 : ∀ (x : Int × Int) (σ : Mem), K47 x σ → GW E cX10_batch 4 RX10 4 130 σ 47 [(0, vR 0), (1, vI x.1), (2, vI x.2)] []) {Q : Int → Mem → Prop} (hR : RI E (some .int) Q) {l1 : Int} {l2 : Int} {σ : Mem} (h : wX10_batch_47 K47 Q l1 l2 σ) : GW E cX10_batch 4 RX10 4 130 σ 47 [(0, vR 0), (1, vI l1), (2, vI l2)] [] := by
  unfold wX10_batch_47 at h
  refine g_iload_n dX10_batch_47 rfl ?_
  refine g_iload_n dX10_batch_48 rfl ?_
  obtain ⟨hA, hB⟩ := h
  refine g_icmp_ge (tgt := 120) dX10_batch_49 (by decide) (fun hc => ?_) (fun hc => ?_)
  · replace h := hA hc
    refine g_iload_n dX10_batch_120 rfl ?_
    obtain ⟨hA, hB⟩ := h
    refine g_if_le (tgt := 146) dX10_batch_121 (by decide) (fun hc => ?_) (fun hc => ?_)
    · replace h := hA hc
      refine g_iload_n dX10_batch_146 rfl ?_
      exact g_iret hR dX10_batch_147 h
    · replace h := hB hc
      refine g_aload_n dX10_batch_124 rfl ?_
      refine g_getR (r := 3) fl_10_33 kd_0 rfl dX10_batch_125 ?_
      refine g_aload_n dX10_batch_128 rfl ?_
      refine g_getR (r := 40) fl_10_12 kd_0 rfl dX10_batch_129 ?_
      refine g_cVv (st := []) (av := [vR 40]) (kX6_add bk_40 h) kd_3 rfl cw_RX10_104 (by decide) (by decide) (Nat.le_of_ble_eq_true rfl) rfl dX10_batch_132 (fun m1 h => ?_)
      refine g_aload_n dX10_batch_135 rfl ?_
      refine g_getR (r := 14) fl_10_61 kd_0 rfl dX10_batch_136 ?_
      refine g_aload_n dX10_batch_139 rfl ?_
      refine g_getR (r := 40) fl_10_12 kd_0 rfl dX10_batch_140 ?_
      refine g_cVv (st := []) (av := [vR 40]) (kX4_bookIn bk_40 h) kd_14 rfl cw_RX10_297 (by decide) (by decide) (Nat.le_of_ble_eq_true rfl) rfl dX10_batch_143 (fun m2 h => ?_)
      refine g_iload_n dX10_batch_146 rfl ?_
      exact g_iret hR dX10_batch_147 h
  · replace h := hB hc
    refine g_aload_n dX10_batch_52 rfl ?_
    refine g_getR (r := 14) fl_10_61 kd_0 rfl dX10_batch_53 ?_
    refine g_aload_n dX10_batch_56 rfl ?_
    refine g_getR (r := 7) fl_10_47 kd_0 rfl dX10_batch_57 ?_
    refine g_getR (r := 9) fl_10_288 kd_7 rfl dX10_batch_60 ?_
    refine g_iload_n dX10_batch_63 rfl ?_
    obtain ⟨hin, h⟩ := h
    refine g_iald kd_9 hin dX10_batch_64 ?_
    refine g_aload_n dX10_batch_65 rfl ?_
    refine g_getR (r := 7) fl_10_47 kd_0 rfl dX10_batch_66 ?_
    refine g_getR (r := 10) fl_10_291 kd_7 rfl dX10_batch_69 ?_
    refine g_iload_n dX10_batch_72 rfl ?_
    obtain ⟨hin, h⟩ := h
    refine g_iald kd_10 hin dX10_batch_73 ?_
    refine g_aload_n dX10_batch_74 rfl ?_
    refine g_getR (r := 7) fl_10_47 kd_0 rfl dX10_batch_75 ?_
    refine g_getR (r := 11) fl_10_294 kd_7 rfl dX10_batch_78 ?_
    refine g_iload_n dX10_batch_81 rfl ?_
    obtain ⟨hin, h⟩ := h
    refine g_iald kd_11 hin dX10_batch_82 ?_
    refine g_cVi (st := []) (av := [vI (σ 9 l2.toNat), vI (σ 10 l2.toNat), vI (σ 11 l2.toNat)]) (kX4_send h) kd_14 rfl cw_RX10_207 (by decide) (by decide) (Nat.le_of_ble_eq_true rfl) rfl dX10_batch_83 (fun y4 m3 h => ?_)
    refine g_istore_n (lv' := [(3, vI y4), (0, vR 0), (1, vI l1), (2, vI l2)]) dX10_batch_86 (by decide) rfl ?_
    refine g_iload_n dX10_batch_87 rfl ?_
    refine g_aload_n dX10_batch_88 rfl ?_
    refine g_getR (r := 7) fl_10_47 kd_0 rfl dX10_batch_89 ?_
    refine g_getR (r := 11) fl_10_294 kd_7 rfl dX10_batch_92 ?_
    refine g_iload_n dX10_batch_95 rfl ?_
    obtain ⟨hin, h⟩ := h
    refine g_iald kd_11 hin dX10_batch_96 ?_
    obtain ⟨hA, hB⟩ := h
    refine g_icmp_ge (tgt := 114) dX10_batch_97 (by decide) (fun hc => ?_) (fun hc => ?_)
    · replace h := hA hc
      refine g_iinc (lv' := [(2, vI (w32 (l2 + 1))), (3, vI y4), (0, vR 0), (1, vI l1)]) dX10_batch_114 rfl (by decide) rfl ?_
      refine g_loc (a := w32 (l2 + 1)) (i := 2) (lv := [(3, vI y4), (0, vR 0), (1, vI l1)]) (fun x5 ex5 => ?_)
      replace h := h x5 ex5
      refine g_goto (tgt := 47) dX10_batch_117 (by decide) ?_
      refine g_lv (lv' := [(0, vR 0), (1, vI l1), (2, vI x5)]) [2, 3, 0] rfl ?_
      exact hK47 ((l1, x5)) m3 h
    · replace h := hB hc
      refine g_aload_n dX10_batch_100 rfl ?_
      refine g_getR (r := 12) fl_10_54 kd_0 rfl dX10_batch_101 ?_
      refine g_iload_n dX10_batch_104 rfl ?_
      refine g_i2l dX10_batch_105 ?_
      refine g_cVv (st := []) (av := [vL y4]) (kX5_tellOne h) kd_12 rfl cw_RX10_202 (by decide) (by decide) (Nat.le_of_ble_eq_true rfl) rfl dX10_batch_106 (fun m6 h => ?_)
      refine g_bipush dX10_batch_109 (-100) rfl (by decide) ?_
      refine g_iload_n dX10_batch_111 rfl ?_
      refine g_isub dX10_batch_112 ?_
      exact g_iret hR dX10_batch_113 h
theorem eX10_batch_47 {E : TE} {Q : Int → Mem → Prop} (hR : RI E (some .int) Q) {l1 : Int} {l2 : Int} {σ : Mem} (h : wLX10_batch_47 Q l1 l2 σ) : GW E cX10_batch 4 RX10 4 130 σ 47 [(0, vR 0), (1, vI l1), (2, vI l2)] [] := by
  obtain ⟨n, h⟩ := h
  exact lp_GW (P := fun (x : Int × Int) (σ : Mem) => GW E cX10_batch 4 RX10 4 130 σ 47 [(0, vR 0), (1, vI x.1), (2, vI x.2)] []) (fun K hK x σ h  => bX10_batch_47 hK hR h) n _ σ h 
set_option maxHeartbeats 1000000 in
theorem kX10_batch {σ : Mem} {Q : Int → Mem → Prop} (h : wX10_batch σ Q) (l : Launch) (D : va_G) (cy : Nat → ClassId) (ad : Nat → Nat) : MI l yX10_batch cX10_batch 4 (some .int) 4 130 D cy ad [vR 0] σ Q := by
  refine m_I (own := RX10) (lv := [(0, vR 0)]) (by decide +kernel) rfl (Nat.le_of_ble_eq_true rfl) rfl (fun E hR => ?_) l D cy ad
  unfold wX10_batch at h
  refine g_aload_n dX10_batch_0 rfl ?_
  refine g_getR (r := 7) fl_10_47 kd_0 rfl dX10_batch_1 ?_
  refine g_aload_n dX10_batch_4 rfl ?_
  refine g_getR (r := 5) fl_10_40 kd_0 rfl dX10_batch_5 ?_
  refine g_aload_n dX10_batch_8 rfl ?_
  refine g_getR (r := 40) fl_10_12 kd_0 rfl dX10_batch_9 ?_
  refine g_getI fl_10_164 (kd_bk0 bk_40) rfl dX10_batch_12 ?_
  refine g_bipush dX10_batch_15 8 rfl (by decide) ?_
  refine g_cVi (st := []) (av := [vR 5, vI (σ 40 0), vI 8]) (kX0_readPayments h) kd_7 rfl cw_RX10_284 (by decide) (by decide) (Nat.le_of_ble_eq_true rfl) rfl dX10_batch_17 (fun y2 m1 h => ?_)
  refine g_istore_n (lv' := [(1, vI y2), (0, vR 0)]) dX10_batch_20 (by decide) rfl ?_
  refine g_aload_n dX10_batch_21 rfl ?_
  refine g_getR (r := 5) fl_10_40 kd_0 rfl dX10_batch_22 ?_
  refine g_cVv (st := []) (av := []) (kX9_empty h) kd_5 rfl cw_RX10_101 (by decide) (by decide) (Nat.le_of_ble_eq_true rfl) rfl dX10_batch_25 (fun m3 h => ?_)
  refine g_iload_n dX10_batch_28 rfl ?_
  obtain ⟨hA, hB⟩ := h
  refine g_if_ge (tgt := 34) dX10_batch_29 (by decide) (fun hc => ?_) (fun hc => ?_)
  · replace h := hA hc
    refine g_aload_n dX10_batch_34 rfl ?_
    refine g_getR (r := 14) fl_10_61 kd_0 rfl dX10_batch_35 ?_
    refine g_aload_n dX10_batch_38 rfl ?_
    refine g_getR (r := 40) fl_10_12 kd_0 rfl dX10_batch_39 ?_
    refine g_cVv (st := []) (av := [vR 40]) (kX4_load bk_40 h) kd_14 rfl cw_RX10_178 (by decide) (by decide) (Nat.le_of_ble_eq_true rfl) rfl dX10_batch_42 (fun m4 h => ?_)
    refine g_iconst dX10_batch_45 0 rfl (by decide) ?_
    refine g_istore_n (lv' := [(2, vI 0), (1, vI y2), (0, vR 0)]) dX10_batch_46 (by decide) rfl ?_
    refine g_lv (lv' := [(0, vR 0), (1, vI y2), (2, vI 0)]) [2, 1, 0] rfl ?_
    exact eX10_batch_47 hR h
  · replace h := hB hc
    refine g_iload_n dX10_batch_32 rfl ?_
    exact g_iret hR dX10_batch_33 h
def wX10_orders_82 (K82 : (Int × Int) → Mem → Prop) (Q : Int → Mem → Prop) (l1 : Int) (l2 : Int) (σ : Mem) : Prop := ((l1 ≤ l2 → (wX5_add (σ 23 3) σ (fun m1 => Q l1 m1))) ∧ (¬ l1 ≤ l2 → ((0 ≤ l2 ∧ l2 < 5) ∧ (wX5_add (σ 31 l2.toNat) σ (fun m2 => (∀ x3 : Int, x3 = w32 (l2 + 1) → K82 (l1, x3) m2))))))
def wLX10_orders_82 (Q : Int → Mem → Prop) (l1 : Int) (l2 : Int) (σ : Mem) : Prop := ∃ n, lp (fun (K82 : (Int × Int) → Mem → Prop) (x : Int × Int) (σ : Mem) => wX10_orders_82 K82 Q x.1 x.2 σ) n (l1, l2) σ
def wX10_orders (σ : Mem) (Q : Int → Mem → Prop) : Prop := (wX0_readPayments (σ 40 0) 5 σ (fun y2 m1 => (wX9_empty  m1 (fun m3 => ((0 ≤ y2 → (wX4_load 40 m3 (fun m4 => (wX8_search  m4 (fun m5 => ((¬ m5 23 3 = 0 → (wX5_begin  m5 (fun m6 => wLX10_orders_82 Q y2 0 m6))) ∧ (m5 23 3 = 0 → Q ((-200)) m5))))))) ∧ (¬ 0 ≤ y2 → Q y2 m3))))))
set_option maxHeartbeats 1000000 in
theorem bX10_orders_82 {E : TE} {K82 : (Int × Int) → Mem → Prop} (hK82 : ∀ (x : Int × Int) (σ : Mem), K82 x σ → GW E cX10_orders 3 RX10 16 407 σ 82 [(0, vR 0), (1, vI x.1), (2, vI x.2)] []) {Q : Int → Mem → Prop} (hR : RI E (some .int) Q) {l1 : Int} {l2 : Int} {σ : Mem} (h : wX10_orders_82 K82 Q l1 l2 σ) : GW E cX10_orders 3 RX10 16 407 σ 82 [(0, vR 0), (1, vI l1), (2, vI l2)] [] := by
  unfold wX10_orders_82 at h
  refine g_iload_n dX10_orders_82 rfl ?_
  refine g_iload_n dX10_orders_83 rfl ?_
  obtain ⟨hA, hB⟩ := h
  refine g_icmp_ge (tgt := 110) dX10_orders_84 (by decide) (fun hc => ?_) (fun hc => ?_)
  · replace h := hA hc
    refine g_aload_n dX10_orders_110 rfl ?_
    refine g_getR (r := 12) fl_10_54 kd_0 rfl dX10_orders_111 ?_
    refine g_aload_n dX10_orders_114 rfl ?_
    refine g_getR (r := 23) fl_10_68 kd_0 rfl dX10_orders_115 ?_
    refine g_getI fl_10_304 kd_23 rfl dX10_orders_118 ?_
    refine g_i2l dX10_orders_121 ?_
    refine g_cVv (st := []) (av := [vL (σ 23 3)]) (kX5_add h) kd_12 rfl cw_RX10_229 (by decide) (by decide) (Nat.le_of_ble_eq_true rfl) rfl dX10_orders_122 (fun m1 h => ?_)
    refine g_iload_n dX10_orders_125 rfl ?_
    exact g_iret hR dX10_orders_126 h
  · replace h := hB hc
    refine g_aload_n dX10_orders_87 rfl ?_
    refine g_getR (r := 12) fl_10_54 kd_0 rfl dX10_orders_88 ?_
    refine g_aload_n dX10_orders_91 rfl ?_
    refine g_getR (r := 23) fl_10_68 kd_0 rfl dX10_orders_92 ?_
    refine g_getR (r := 31) fl_10_307 kd_23 rfl dX10_orders_95 ?_
    refine g_iload_n dX10_orders_98 rfl ?_
    obtain ⟨hin, h⟩ := h
    refine g_iald kd_31 hin dX10_orders_99 ?_
    refine g_i2l dX10_orders_100 ?_
    refine g_cVv (st := []) (av := [vL (σ 31 l2.toNat)]) (kX5_add h) kd_12 rfl cw_RX10_229 (by decide) (by decide) (Nat.le_of_ble_eq_true rfl) rfl dX10_orders_101 (fun m2 h => ?_)
    refine g_iinc (lv' := [(2, vI (w32 (l2 + 1))), (0, vR 0), (1, vI l1)]) dX10_orders_104 rfl (by decide) rfl ?_
    refine g_loc (a := w32 (l2 + 1)) (i := 2) (lv := [(0, vR 0), (1, vI l1)]) (fun x3 ex3 => ?_)
    replace h := h x3 ex3
    refine g_goto (tgt := 82) dX10_orders_107 (by decide) ?_
    refine g_lv (lv' := [(0, vR 0), (1, vI l1), (2, vI x3)]) [1, 2, 0] rfl ?_
    exact hK82 ((l1, x3)) m2 h
theorem eX10_orders_82 {E : TE} {Q : Int → Mem → Prop} (hR : RI E (some .int) Q) {l1 : Int} {l2 : Int} {σ : Mem} (h : wLX10_orders_82 Q l1 l2 σ) : GW E cX10_orders 3 RX10 16 407 σ 82 [(0, vR 0), (1, vI l1), (2, vI l2)] [] := by
  obtain ⟨n, h⟩ := h
  exact lp_GW (P := fun (x : Int × Int) (σ : Mem) => GW E cX10_orders 3 RX10 16 407 σ 82 [(0, vR 0), (1, vI x.1), (2, vI x.2)] []) (fun K hK x σ h  => bX10_orders_82 hK hR h) n _ σ h 
set_option maxHeartbeats 1000000 in
theorem kX10_orders {σ : Mem} {Q : Int → Mem → Prop} (h : wX10_orders σ Q) (l : Launch) (D : va_G) (cy : Nat → ClassId) (ad : Nat → Nat) : MI l yX10_orders cX10_orders 3 (some .int) 16 407 D cy ad [vR 0] σ Q := by
  refine m_I (own := RX10) (lv := [(0, vR 0)]) (by decide +kernel) rfl (Nat.le_of_ble_eq_true rfl) rfl (fun E hR => ?_) l D cy ad
  unfold wX10_orders at h
  refine g_aload_n dX10_orders_0 rfl ?_
  refine g_getR (r := 7) fl_10_47 kd_0 rfl dX10_orders_1 ?_
  refine g_aload_n dX10_orders_4 rfl ?_
  refine g_getR (r := 5) fl_10_40 kd_0 rfl dX10_orders_5 ?_
  refine g_aload_n dX10_orders_8 rfl ?_
  refine g_getR (r := 40) fl_10_12 kd_0 rfl dX10_orders_9 ?_
  refine g_getI fl_10_164 (kd_bk0 bk_40) rfl dX10_orders_12 ?_
  refine g_iconst dX10_orders_15 5 rfl (by decide) ?_
  refine g_cVi (st := []) (av := [vR 5, vI (σ 40 0), vI 5]) (kX0_readPayments h) kd_7 rfl cw_RX10_284 (by decide) (by decide) (Nat.le_of_ble_eq_true rfl) rfl dX10_orders_16 (fun y2 m1 h => ?_)
  refine g_istore_n (lv' := [(1, vI y2), (0, vR 0)]) dX10_orders_19 (by decide) rfl ?_
  refine g_aload_n dX10_orders_20 rfl ?_
  refine g_getR (r := 5) fl_10_40 kd_0 rfl dX10_orders_21 ?_
  refine g_cVv (st := []) (av := []) (kX9_empty h) kd_5 rfl cw_RX10_101 (by decide) (by decide) (Nat.le_of_ble_eq_true rfl) rfl dX10_orders_24 (fun m3 h => ?_)
  refine g_iload_n dX10_orders_27 rfl ?_
  obtain ⟨hA, hB⟩ := h
  refine g_if_ge (tgt := 33) dX10_orders_28 (by decide) (fun hc => ?_) (fun hc => ?_)
  · replace h := hA hc
    refine g_aload_n dX10_orders_33 rfl ?_
    refine g_getR (r := 14) fl_10_61 kd_0 rfl dX10_orders_34 ?_
    refine g_aload_n dX10_orders_37 rfl ?_
    refine g_getR (r := 40) fl_10_12 kd_0 rfl dX10_orders_38 ?_
    refine g_cVv (st := []) (av := [vR 40]) (kX4_load bk_40 h) kd_14 rfl cw_RX10_178 (by decide) (by decide) (Nat.le_of_ble_eq_true rfl) rfl dX10_orders_41 (fun m4 h => ?_)
    refine g_aload_n dX10_orders_44 rfl ?_
    refine g_getR (r := 23) fl_10_68 kd_0 rfl dX10_orders_45 ?_
    refine g_aload_n dX10_orders_48 rfl ?_
    refine g_getR (r := 14) fl_10_61 kd_0 rfl dX10_orders_49 ?_
    refine g_aload_n dX10_orders_52 rfl ?_
    refine g_getR (r := 7) fl_10_47 kd_0 rfl dX10_orders_53 ?_
    refine g_cVv (st := []) (av := [vR 14, vR 7]) (kX8_search h) kd_23 rfl cw_RX10_300 (by decide) (by decide) (Nat.le_of_ble_eq_true rfl) rfl dX10_orders_56 (fun m5 h => ?_)
    refine g_aload_n dX10_orders_59 rfl ?_
    refine g_getR (r := 23) fl_10_68 kd_0 rfl dX10_orders_60 ?_
    refine g_getI fl_10_304 kd_23 rfl dX10_orders_63 ?_
    obtain ⟨hA, hB⟩ := h
    refine g_if_ne (tgt := 73) dX10_orders_66 (by decide) (fun hc => ?_) (fun hc => ?_)
    · replace h := hA hc
      refine g_aload_n dX10_orders_73 rfl ?_
      refine g_getR (r := 12) fl_10_54 kd_0 rfl dX10_orders_74 ?_
      refine g_cVv (st := []) (av := []) (kX5_begin h) kd_12 rfl cw_RX10_220 (by decide) (by decide) (Nat.le_of_ble_eq_true rfl) rfl dX10_orders_77 (fun m6 h => ?_)
      refine g_iconst dX10_orders_80 0 rfl (by decide) ?_
      refine g_istore_n (lv' := [(2, vI 0), (1, vI y2), (0, vR 0)]) dX10_orders_81 (by decide) rfl ?_
      refine g_lv (lv' := [(0, vR 0), (1, vI y2), (2, vI 0)]) [2, 1, 0] rfl ?_
      exact eX10_orders_82 hR h
    · replace h := hB hc
      refine g_sipush dX10_orders_69 (-200) rfl (by decide) ?_
      exact g_iret hR dX10_orders_72 h
  · replace h := hB hc
    refine g_iload_n dX10_orders_31 rfl ?_
    exact g_iret hR dX10_orders_32 h
def wX10_settleRings (σ : Mem) (Q : Int → Mem → Prop) : Prop := (wX1_holdsAny 40 σ (fun y2 m1 => ((y2 = 0 → (wX1_owedInAll 40 m1 (fun y4 m3 => (wX7_settleAll 40 m3 (fun y6 m5 => ((¬ y6 = 0 → (wX1_owedInAll 40 m5 (fun y8 m7 => (wX5_tellOne (w32 (y4 - y8)) m7 (fun m9 => Q y6 m9))))) ∧ (y6 = 0 → Q ((-2)) m5))))))) ∧ (¬ y2 = 0 → Q ((-5)) m1))))
set_option maxHeartbeats 1000000 in
theorem kX10_settleRings {σ : Mem} {Q : Int → Mem → Prop} (h : wX10_settleRings σ Q) (l : Launch) (D : va_G) (cy : Nat → ClassId) (ad : Nat → Nat) : MI l yX10_settleRings cX10_settleRings 3 (some .int) 5 120 D cy ad [vR 0] σ Q := by
  refine m_I (own := RX10) (lv := [(0, vR 0)]) (by decide +kernel) rfl (Nat.le_of_ble_eq_true rfl) rfl (fun E hR => ?_) l D cy ad
  unfold wX10_settleRings at h
  refine g_aload_n dX10_settleRings_0 rfl ?_
  refine g_getR (r := 40) fl_10_12 kd_0 rfl dX10_settleRings_1 ?_
  refine g_cVi (st := []) (av := []) (kX1_holdsAny bk_40 h) (kd_bk0 bk_40) rfl cw_RX10_114 (by decide) (by decide) (Nat.le_of_ble_eq_true rfl) rfl dX10_settleRings_4 (fun y2 m1 h => ?_)
  obtain ⟨hA, hB⟩ := h
  refine g_if_eq (tgt := 13) dX10_settleRings_7 (by decide) (fun hc => ?_) (fun hc => ?_)
  · replace h := hA hc
    refine g_aload_n dX10_settleRings_13 rfl ?_
    refine g_getR (r := 40) fl_10_12 kd_0 rfl dX10_settleRings_14 ?_
    refine g_cVi (st := []) (av := []) (kX1_owedInAll bk_40 h) (kd_bk0 bk_40) rfl cw_RX10_170 (by decide) (by decide) (Nat.le_of_ble_eq_true rfl) rfl dX10_settleRings_17 (fun y4 m3 h => ?_)
    refine g_istore_n (lv' := [(1, vI y4), (0, vR 0)]) dX10_settleRings_20 (by decide) rfl ?_
    refine g_aload_n dX10_settleRings_21 rfl ?_
    refine g_getR (r := 32) fl_10_75 kd_0 rfl dX10_settleRings_22 ?_
    refine g_aload_n dX10_settleRings_25 rfl ?_
    refine g_getR (r := 40) fl_10_12 kd_0 rfl dX10_settleRings_26 ?_
    refine g_cVi (st := []) (av := [vR 40]) (kX7_settleAll bk_40 h) kd_32 rfl cw_RX10_234 (by decide) (by decide) (Nat.le_of_ble_eq_true rfl) rfl dX10_settleRings_29 (fun y6 m5 h => ?_)
    refine g_istore_n (lv' := [(2, vI y6), (1, vI y4), (0, vR 0)]) dX10_settleRings_32 (by decide) rfl ?_
    refine g_iload_n dX10_settleRings_33 rfl ?_
    obtain ⟨hA, hB⟩ := h
    refine g_if_ne (tgt := 40) dX10_settleRings_34 (by decide) (fun hc => ?_) (fun hc => ?_)
    · replace h := hA hc
      refine g_aload_n dX10_settleRings_40 rfl ?_
      refine g_getR (r := 12) fl_10_54 kd_0 rfl dX10_settleRings_41 ?_
      refine g_iload_n dX10_settleRings_44 rfl ?_
      refine g_aload_n dX10_settleRings_45 rfl ?_
      refine g_getR (r := 40) fl_10_12 kd_0 rfl dX10_settleRings_46 ?_
      refine g_cVi (st := [vI y4, vR 12]) (av := []) (kX1_owedInAll bk_40 h) (kd_bk0 bk_40) rfl cw_RX10_170 (by decide) (by decide) (Nat.le_of_ble_eq_true rfl) rfl dX10_settleRings_49 (fun y8 m7 h => ?_)
      refine g_isub dX10_settleRings_52 ?_
      refine g_i2l dX10_settleRings_53 ?_
      refine g_cVv (st := []) (av := [vL (w32 (y4 - y8))]) (kX5_tellOne h) kd_12 rfl cw_RX10_202 (by decide) (by decide) (Nat.le_of_ble_eq_true rfl) rfl dX10_settleRings_54 (fun m9 h => ?_)
      refine g_iload_n dX10_settleRings_57 rfl ?_
      exact g_iret hR dX10_settleRings_58 h
    · replace h := hB hc
      refine g_bipush dX10_settleRings_37 (-2) rfl (by decide) ?_
      exact g_iret hR dX10_settleRings_39 h
  · replace h := hB hc
    refine g_bipush dX10_settleRings_10 (-5) rfl (by decide) ?_
    exact g_iret hR dX10_settleRings_12 h
def wX10_settles (σ : Mem) (Q : Int → Mem → Prop) : Prop := (wX1_copyFrom 56 40 σ (fun m1 => (wX10_settleRings  m1 (fun y3 m2 => (wX10_remembered y3 m2 (fun y5 m4 => Q y5 m4))))))
set_option maxHeartbeats 1000000 in
theorem kX10_settles {σ : Mem} {Q : Int → Mem → Prop} (h : wX10_settles σ Q) (l : Launch) (D : va_G) (cy : Nat → ClassId) (ad : Nat → Nat) : MI l yX10_settles cX10_settles 1 (some .int) 6 151 D cy ad [vR 0] σ Q := by
  refine m_I (own := RX10) (lv := [(0, vR 0)]) (by decide +kernel) rfl (Nat.le_of_ble_eq_true rfl) rfl (fun E hR => ?_) l D cy ad
  unfold wX10_settles at h
  refine g_aload_n dX10_settles_0 rfl ?_
  refine g_getR (r := 56) fl_10_16 kd_0 rfl dX10_settles_1 ?_
  refine g_aload_n dX10_settles_4 rfl ?_
  refine g_getR (r := 40) fl_10_12 kd_0 rfl dX10_settles_5 ?_
  refine g_cVv (st := []) (av := [vR 40]) (kX1_copyFrom bk_56 bk_40 h) (kd_bk0 bk_56) rfl cw_RX10_108 (by decide) (by decide) (Nat.le_of_ble_eq_true rfl) rfl dX10_settles_8 (fun m1 h => ?_)
  refine g_aload_n dX10_settles_11 rfl ?_
  refine g_aload_n dX10_settles_12 rfl ?_
  refine g_cVi (st := [vR 0]) (av := []) (kX10_settleRings h) kd_0 rfl cw_RX10_310 (by decide) (by decide) (Nat.le_of_ble_eq_true rfl) rfl dX10_settles_13 (fun y3 m2 h => ?_)
  refine g_cVi (st := []) (av := [vI y3]) (kX10_remembered h) kd_0 rfl cw_RX10_240 (by decide) (by decide) (Nat.le_of_ble_eq_true rfl) rfl dX10_settles_16 (fun y5 m4 h => ?_)
  exact g_iret hR dX10_settles_19 h
def wX10_goesIfWider (l1 : Int) (l2 : Int) (l3 : Int) (l4 : Int) (l5 : Int) (l6 : Int) (σ : Mem) (Q : Int → Mem → Prop) : Prop := (wX4_load 40 σ (fun m1 => (wX4_widen l4 l5 l6 m1 (fun m2 => (wX4_send l1 l2 l3 m2 (fun y4 m3 => ((¬ y4 = l3 → Q 0 m3) ∧ (y4 = l3 → Q 1 m3))))))))
set_option maxHeartbeats 1000000 in
theorem kX10_goesIfWider {l1 : Int} {l2 : Int} {l3 : Int} {l4 : Int} {l5 : Int} {l6 : Int} {σ : Mem} {Q : Int → Mem → Prop} (h : wX10_goesIfWider l1 l2 l3 l4 l5 l6 σ Q) (l : Launch) (D : va_G) (cy : Nat → ClassId) (ad : Nat → Nat) : MI l yX10_goesIfWider cX10_goesIfWider 7 (some .boolean) 4 99 D cy ad [vR 0, vI l1, vI l2, vI l3, vI l4, vI l5, vI l6] σ Q := by
  refine m_I (own := RX10) (lv := [(0, vR 0), (1, vI l1), (2, vI l2), (3, vI l3), (4, vI l4), (5, vI l5), (6, vI l6)]) (by decide +kernel) rfl (Nat.le_of_ble_eq_true rfl) rfl (fun E hR => ?_) l D cy ad
  unfold wX10_goesIfWider at h
  refine g_aload_n dX10_goesIfWider_0 rfl ?_
  refine g_getR (r := 14) fl_10_61 kd_0 rfl dX10_goesIfWider_1 ?_
  refine g_aload_n dX10_goesIfWider_4 rfl ?_
  refine g_getR (r := 40) fl_10_12 kd_0 rfl dX10_goesIfWider_5 ?_
  refine g_cVv (st := []) (av := [vR 40]) (kX4_load bk_40 h) kd_14 rfl cw_RX10_178 (by decide) (by decide) (Nat.le_of_ble_eq_true rfl) rfl dX10_goesIfWider_8 (fun m1 h => ?_)
  refine g_aload_n dX10_goesIfWider_11 rfl ?_
  refine g_getR (r := 14) fl_10_61 kd_0 rfl dX10_goesIfWider_12 ?_
  refine g_iload dX10_goesIfWider_15 rfl ?_
  refine g_iload dX10_goesIfWider_17 rfl ?_
  refine g_iload dX10_goesIfWider_19 rfl ?_
  refine g_cVv (st := []) (av := [vI l4, vI l5, vI l6]) (kX4_widen h) kd_14 rfl cw_RX10_317 (by decide) (by decide) (Nat.le_of_ble_eq_true rfl) rfl dX10_goesIfWider_21 (fun m2 h => ?_)
  refine g_aload_n dX10_goesIfWider_24 rfl ?_
  refine g_getR (r := 14) fl_10_61 kd_0 rfl dX10_goesIfWider_25 ?_
  refine g_iload_n dX10_goesIfWider_28 rfl ?_
  refine g_iload_n dX10_goesIfWider_29 rfl ?_
  refine g_iload_n dX10_goesIfWider_30 rfl ?_
  refine g_cVi (st := []) (av := [vI l1, vI l2, vI l3]) (kX4_send h) kd_14 rfl cw_RX10_207 (by decide) (by decide) (Nat.le_of_ble_eq_true rfl) rfl dX10_goesIfWider_31 (fun y4 m3 h => ?_)
  refine g_iload_n dX10_goesIfWider_34 rfl ?_
  obtain ⟨hA, hB⟩ := h
  refine g_icmp_ne (tgt := 42) dX10_goesIfWider_35 (by decide) (fun hc => ?_) (fun hc => ?_)
  · replace h := hA hc
    refine g_iconst dX10_goesIfWider_42 0 rfl (by decide) ?_
    exact g_zret hR dX10_goesIfWider_43 (by decide) h
  · replace h := hB hc
    refine g_iconst dX10_goesIfWider_38 1 rfl (by decide) ?_
    refine g_goto (tgt := 43) dX10_goesIfWider_39 (by decide) ?_
    exact g_zret hR dX10_goesIfWider_43 (by decide) h
def wX10_raise_117 (K64 : (Int × Int × Int × Int × Int × Int) → Mem → Prop) (K79 : (Int × Int × Int × Int × Int × Int × Int) → Mem → Prop) (Q : Int → Mem → Prop) (l1 : Int) (l2 : Int) (l3 : Int) (l5 : Int) (l6 : Int) (l7 : Int) (l8 : Int) (s0 : Int) (σ : Mem) : Prop := ((s0 = 0 → (∀ x1 : Int, x1 = w32 (l8 + 1) → K79 (l1, l2, l3, l5, l6, l7, x1) σ)) ∧ (¬ s0 = 0 → (wX10_at l7 l8 σ (fun y3 m2 => ((0 ≤ y3 ∧ y3 < 64) ∧ ((999 < w32 ((m2 (40 + 1) y3.toNat) + l5) → (∀ x4 : Int, x4 = w32 (l8 + 1) → K79 (l1, l2, l3, l5, l6, l7, x4) m2)) ∧ (¬ 999 < w32 ((m2 (40 + 1) y3.toNat) + l5) → (wX10_goesIfWider l1 l2 l3 l8 l7 l5 m2 (fun y6 m5 => ((y6 = 0 → (∀ x7 : Int, x7 = w32 (l8 + 1) → K79 (l1, l2, l3, l5, l6, l7, x7) m5)) ∧ (¬ y6 = 0 → (wX5_tellOne l5 m5 (fun m8 => Q (w32 ((w32 (10 * l7)) + l8)) m8)))))))))))))
def wX10_raise_116 (K64 : (Int × Int × Int × Int × Int × Int) → Mem → Prop) (K79 : (Int × Int × Int × Int × Int × Int × Int) → Mem → Prop) (Q : Int → Mem → Prop) (l1 : Int) (l2 : Int) (l3 : Int) (l5 : Int) (l6 : Int) (l7 : Int) (l8 : Int) (σ : Mem) : Prop := wX10_raise_117 K64 K79 Q l1 l2 l3 l5 l6 l7 l8 0 σ
def wX10_raise_79 (K64 : (Int × Int × Int × Int × Int × Int) → Mem → Prop) (K79 : (Int × Int × Int × Int × Int × Int × Int) → Mem → Prop) (Q : Int → Mem → Prop) (l1 : Int) (l2 : Int) (l3 : Int) (l5 : Int) (l6 : Int) (l7 : Int) (l8 : Int) (σ : Mem) : Prop := ((σ 40 0 ≤ l8 → (∀ x1 : Int, x1 = w32 (l7 + 1) → K64 (l1, l2, l3, l5, l6, x1) σ)) ∧ (¬ σ 40 0 ≤ l8 → ((¬ band (bshr l6 l8) 1 = 1 → wX10_raise_116 K64 K79 Q l1 l2 l3 l5 l6 l7 l8 σ) ∧ (band (bshr l6 l8) 1 = 1 → ((¬ band (bshr l6 l7) 1 = 0 → wX10_raise_116 K64 K79 Q l1 l2 l3 l5 l6 l7 l8 σ) ∧ (band (bshr l6 l7) 1 = 0 → wX10_raise_117 K64 K79 Q l1 l2 l3 l5 l6 l7 l8 1 σ))))))
def wLX10_raise_79 (K64 : (Int × Int × Int × Int × Int × Int) → Mem → Prop) (Q : Int → Mem → Prop) (l1 : Int) (l2 : Int) (l3 : Int) (l5 : Int) (l6 : Int) (l7 : Int) (l8 : Int) (σ : Mem) : Prop := ∃ n, lp (fun (K79 : (Int × Int × Int × Int × Int × Int × Int) → Mem → Prop) (x : Int × Int × Int × Int × Int × Int × Int) (σ : Mem) => wX10_raise_79 K64 K79 Q x.1 x.2.1 x.2.2.1 x.2.2.2.1 x.2.2.2.2.1 x.2.2.2.2.2.1 x.2.2.2.2.2.2 σ) n (l1, l2, l3, l5, l6, l7, l8) σ
def wX10_raise_64 (K64 : (Int × Int × Int × Int × Int × Int) → Mem → Prop) (Q : Int → Mem → Prop) (l1 : Int) (l2 : Int) (l3 : Int) (l5 : Int) (l6 : Int) (l7 : Int) (σ : Mem) : Prop := ((σ 40 0 ≤ l7 → Q ((-3)) σ) ∧ (¬ σ 40 0 ≤ l7 → wLX10_raise_79 K64 Q l1 l2 l3 l5 l6 l7 0 σ))
def wLX10_raise_64 (Q : Int → Mem → Prop) (l1 : Int) (l2 : Int) (l3 : Int) (l5 : Int) (l6 : Int) (l7 : Int) (σ : Mem) : Prop := ∃ n, lp (fun (K64 : (Int × Int × Int × Int × Int × Int) → Mem → Prop) (x : Int × Int × Int × Int × Int × Int) (σ : Mem) => wX10_raise_64 K64 Q x.1 x.2.1 x.2.2.1 x.2.2.2.1 x.2.2.2.2.1 x.2.2.2.2.2 σ) n (l1, l2, l3, l5, l6, l7) σ
def wX10_raise (l1 : Int) (l2 : Int) (l3 : Int) (σ : Mem) (Q : Int → Mem → Prop) : Prop := (wX10_isPayment l1 l2 l3 σ (fun y2 m1 => ((¬ y2 = 0 → (wX4_load 40 m1 (fun m3 => (wX4_send l1 l2 l3 m3 (fun y5 m4 => ((y5 < l3 → (∀ x6 : Int, x6 = w32 (l3 - y5) → (wX4_reached l1 1 m4 (fun y8 m7 => wLX10_raise_64 Q l1 l2 l3 x6 y8 0 m7)))) ∧ (¬ y5 < l3 → Q ((-2)) m4))))))) ∧ (y2 = 0 → Q ((-1)) m1))))
set_option maxHeartbeats 1000000 in
theorem bX10_raise_117 {E : TE} {K64 : (Int × Int × Int × Int × Int × Int) → Mem → Prop} {K79 : (Int × Int × Int × Int × Int × Int × Int) → Mem → Prop} (hK64 : ∀ (x : Int × Int × Int × Int × Int × Int) (σ : Mem), K64 x σ → GW E cX10_raise 10 RX10 5 125 σ 64 [(0, vR 0), (1, vI x.1), (2, vI x.2.1), (3, vI x.2.2.1), (5, vI x.2.2.2.1), (6, vI x.2.2.2.2.1), (7, vI x.2.2.2.2.2)] []) (hK79 : ∀ (x : Int × Int × Int × Int × Int × Int × Int) (σ : Mem), K79 x σ → GW E cX10_raise 10 RX10 5 125 σ 79 [(0, vR 0), (1, vI x.1), (2, vI x.2.1), (3, vI x.2.2.1), (5, vI x.2.2.2.1), (6, vI x.2.2.2.2.1), (7, vI x.2.2.2.2.2.1), (8, vI x.2.2.2.2.2.2)] []) {Q : Int → Mem → Prop} (hR : RI E (some .int) Q) {l1 : Int} {l2 : Int} {l3 : Int} {l5 : Int} {l6 : Int} {l7 : Int} {l8 : Int} {s0 : Int} {σ : Mem} (h : wX10_raise_117 K64 K79 Q l1 l2 l3 l5 l6 l7 l8 s0 σ) : GW E cX10_raise 10 RX10 5 125 σ 117 [(0, vR 0), (1, vI l1), (2, vI l2), (3, vI l3), (5, vI l5), (6, vI l6), (7, vI l7), (8, vI l8)] [vI s0] := by
  unfold wX10_raise_117 at h
  refine g_istore (lv' := [(9, vI s0), (0, vR 0), (1, vI l1), (2, vI l2), (3, vI l3), (5, vI l5), (6, vI l6), (7, vI l7), (8, vI l8)]) dX10_raise_117 (by decide) rfl ?_
  refine g_iload dX10_raise_119 rfl ?_
  obtain ⟨hA, hB⟩ := h
  refine g_if_eq (tgt := 183) dX10_raise_121 (by decide) (fun hc => ?_) (fun hc => ?_)
  · replace h := hA hc
    refine g_iinc (lv' := [(8, vI (w32 (l8 + 1))), (9, vI s0), (0, vR 0), (1, vI l1), (2, vI l2), (3, vI l3), (5, vI l5), (6, vI l6), (7, vI l7)]) dX10_raise_183 rfl (by decide) rfl ?_
    refine g_loc (a := w32 (l8 + 1)) (i := 8) (lv := [(9, vI s0), (0, vR 0), (1, vI l1), (2, vI l2), (3, vI l3), (5, vI l5), (6, vI l6), (7, vI l7)]) (fun x1 ex1 => ?_)
    replace h := h x1 ex1
    refine g_goto (tgt := 79) dX10_raise_186 (by decide) ?_
    refine g_lv (lv' := [(0, vR 0), (1, vI l1), (2, vI l2), (3, vI l3), (5, vI l5), (6, vI l6), (7, vI l7), (8, vI x1)]) [2, 3, 4, 5, 6, 7, 8, 0] rfl ?_
    exact hK79 ((l1, l2, l3, l5, l6, l7, x1)) σ h
  · replace h := hB hc
    refine g_aload_n dX10_raise_124 rfl ?_
    refine g_getR (r := 40) fl_10_12 kd_0 rfl dX10_raise_125 ?_
    refine g_getR (r := 40 + 1) fl_10_136 (kd_bk0 bk_40) rfl dX10_raise_128 ?_
    refine g_iload dX10_raise_131 rfl ?_
    refine g_iload dX10_raise_133 rfl ?_
    refine g_cSi (st := [vR (40 + 1)]) (av := [vI l7, vI l8]) (kX10_at h) cw_RX10_133 (by decide) (by decide) (Nat.le_of_ble_eq_true rfl) rfl dX10_raise_135 (fun y3 m2 h => ?_)
    obtain ⟨hin, h⟩ := h
    refine g_iald (kd_bk1 bk_40) hin dX10_raise_138 ?_
    refine g_iload dX10_raise_139 rfl ?_
    refine g_iadd dX10_raise_141 ?_
    refine g_sipush dX10_raise_142 999 rfl (by decide) ?_
    obtain ⟨hA, hB⟩ := h
    refine g_icmp_gt (tgt := 183) dX10_raise_145 (by decide) (fun hc => ?_) (fun hc => ?_)
    · replace h := hA hc
      refine g_iinc (lv' := [(8, vI (w32 (l8 + 1))), (9, vI s0), (0, vR 0), (1, vI l1), (2, vI l2), (3, vI l3), (5, vI l5), (6, vI l6), (7, vI l7)]) dX10_raise_183 rfl (by decide) rfl ?_
      refine g_loc (a := w32 (l8 + 1)) (i := 8) (lv := [(9, vI s0), (0, vR 0), (1, vI l1), (2, vI l2), (3, vI l3), (5, vI l5), (6, vI l6), (7, vI l7)]) (fun x4 ex4 => ?_)
      replace h := h x4 ex4
      refine g_goto (tgt := 79) dX10_raise_186 (by decide) ?_
      refine g_lv (lv' := [(0, vR 0), (1, vI l1), (2, vI l2), (3, vI l3), (5, vI l5), (6, vI l6), (7, vI l7), (8, vI x4)]) [2, 3, 4, 5, 6, 7, 8, 0] rfl ?_
      exact hK79 ((l1, l2, l3, l5, l6, l7, x4)) m2 h
    · replace h := hB hc
      refine g_aload_n dX10_raise_148 rfl ?_
      refine g_iload_n dX10_raise_149 rfl ?_
      refine g_iload_n dX10_raise_150 rfl ?_
      refine g_iload_n dX10_raise_151 rfl ?_
      refine g_iload dX10_raise_152 rfl ?_
      refine g_iload dX10_raise_154 rfl ?_
      refine g_iload dX10_raise_156 rfl ?_
      refine g_cVi (st := []) (av := [vI l1, vI l2, vI l3, vI l8, vI l7, vI l5]) (kX10_goesIfWider h) kd_0 rfl cw_RX10_313 (by decide) (by decide) (Nat.le_of_ble_eq_true rfl) rfl dX10_raise_158 (fun y6 m5 h => ?_)
      obtain ⟨hA, hB⟩ := h
      refine g_if_eq (tgt := 183) dX10_raise_161 (by decide) (fun hc => ?_) (fun hc => ?_)
      · replace h := hA hc
        refine g_iinc (lv' := [(8, vI (w32 (l8 + 1))), (9, vI s0), (0, vR 0), (1, vI l1), (2, vI l2), (3, vI l3), (5, vI l5), (6, vI l6), (7, vI l7)]) dX10_raise_183 rfl (by decide) rfl ?_
        refine g_loc (a := w32 (l8 + 1)) (i := 8) (lv := [(9, vI s0), (0, vR 0), (1, vI l1), (2, vI l2), (3, vI l3), (5, vI l5), (6, vI l6), (7, vI l7)]) (fun x7 ex7 => ?_)
        replace h := h x7 ex7
        refine g_goto (tgt := 79) dX10_raise_186 (by decide) ?_
        refine g_lv (lv' := [(0, vR 0), (1, vI l1), (2, vI l2), (3, vI l3), (5, vI l5), (6, vI l6), (7, vI l7), (8, vI x7)]) [2, 3, 4, 5, 6, 7, 8, 0] rfl ?_
        exact hK79 ((l1, l2, l3, l5, l6, l7, x7)) m5 h
      · replace h := hB hc
        refine g_aload_n dX10_raise_164 rfl ?_
        refine g_getR (r := 12) fl_10_54 kd_0 rfl dX10_raise_165 ?_
        refine g_iload dX10_raise_168 rfl ?_
        refine g_i2l dX10_raise_170 ?_
        refine g_cVv (st := []) (av := [vL l5]) (kX5_tellOne h) kd_12 rfl cw_RX10_202 (by decide) (by decide) (Nat.le_of_ble_eq_true rfl) rfl dX10_raise_171 (fun m8 h => ?_)
        refine g_bipush dX10_raise_174 10 rfl (by decide) ?_
        refine g_iload dX10_raise_176 rfl ?_
        refine g_imul dX10_raise_178 ?_
        refine g_iload dX10_raise_179 rfl ?_
        refine g_iadd dX10_raise_181 ?_
        exact g_iret hR dX10_raise_182 h
set_option maxHeartbeats 1000000 in
theorem bX10_raise_116 {E : TE} {K64 : (Int × Int × Int × Int × Int × Int) → Mem → Prop} {K79 : (Int × Int × Int × Int × Int × Int × Int) → Mem → Prop} (hK64 : ∀ (x : Int × Int × Int × Int × Int × Int) (σ : Mem), K64 x σ → GW E cX10_raise 10 RX10 5 125 σ 64 [(0, vR 0), (1, vI x.1), (2, vI x.2.1), (3, vI x.2.2.1), (5, vI x.2.2.2.1), (6, vI x.2.2.2.2.1), (7, vI x.2.2.2.2.2)] []) (hK79 : ∀ (x : Int × Int × Int × Int × Int × Int × Int) (σ : Mem), K79 x σ → GW E cX10_raise 10 RX10 5 125 σ 79 [(0, vR 0), (1, vI x.1), (2, vI x.2.1), (3, vI x.2.2.1), (5, vI x.2.2.2.1), (6, vI x.2.2.2.2.1), (7, vI x.2.2.2.2.2.1), (8, vI x.2.2.2.2.2.2)] []) {Q : Int → Mem → Prop} (hR : RI E (some .int) Q) {l1 : Int} {l2 : Int} {l3 : Int} {l5 : Int} {l6 : Int} {l7 : Int} {l8 : Int} {σ : Mem} (h : wX10_raise_116 K64 K79 Q l1 l2 l3 l5 l6 l7 l8 σ) : GW E cX10_raise 10 RX10 5 125 σ 116 [(0, vR 0), (1, vI l1), (2, vI l2), (3, vI l3), (5, vI l5), (6, vI l6), (7, vI l7), (8, vI l8)] [] := by
  unfold wX10_raise_116 at h
  refine g_iconst dX10_raise_116 0 rfl (by decide) ?_
  exact bX10_raise_117 hK64 hK79 hR h
set_option maxHeartbeats 1000000 in
theorem bX10_raise_79 {E : TE} {K64 : (Int × Int × Int × Int × Int × Int) → Mem → Prop} {K79 : (Int × Int × Int × Int × Int × Int × Int) → Mem → Prop} (hK64 : ∀ (x : Int × Int × Int × Int × Int × Int) (σ : Mem), K64 x σ → GW E cX10_raise 10 RX10 5 125 σ 64 [(0, vR 0), (1, vI x.1), (2, vI x.2.1), (3, vI x.2.2.1), (5, vI x.2.2.2.1), (6, vI x.2.2.2.2.1), (7, vI x.2.2.2.2.2)] []) (hK79 : ∀ (x : Int × Int × Int × Int × Int × Int × Int) (σ : Mem), K79 x σ → GW E cX10_raise 10 RX10 5 125 σ 79 [(0, vR 0), (1, vI x.1), (2, vI x.2.1), (3, vI x.2.2.1), (5, vI x.2.2.2.1), (6, vI x.2.2.2.2.1), (7, vI x.2.2.2.2.2.1), (8, vI x.2.2.2.2.2.2)] []) {Q : Int → Mem → Prop} (hR : RI E (some .int) Q) {l1 : Int} {l2 : Int} {l3 : Int} {l5 : Int} {l6 : Int} {l7 : Int} {l8 : Int} {σ : Mem} (h : wX10_raise_79 K64 K79 Q l1 l2 l3 l5 l6 l7 l8 σ) : GW E cX10_raise 10 RX10 5 125 σ 79 [(0, vR 0), (1, vI l1), (2, vI l2), (3, vI l3), (5, vI l5), (6, vI l6), (7, vI l7), (8, vI l8)] [] := by
  unfold wX10_raise_79 at h
  refine g_iload dX10_raise_79 rfl ?_
  refine g_aload_n dX10_raise_81 rfl ?_
  refine g_getR (r := 40) fl_10_12 kd_0 rfl dX10_raise_82 ?_
  refine g_getI fl_10_164 (kd_bk0 bk_40) rfl dX10_raise_85 ?_
  obtain ⟨hA, hB⟩ := h
  refine g_icmp_ge (tgt := 189) dX10_raise_88 (by decide) (fun hc => ?_) (fun hc => ?_)
  · replace h := hA hc
    refine g_iinc (lv' := [(7, vI (w32 (l7 + 1))), (0, vR 0), (1, vI l1), (2, vI l2), (3, vI l3), (5, vI l5), (6, vI l6), (8, vI l8)]) dX10_raise_189 rfl (by decide) rfl ?_
    refine g_loc (a := w32 (l7 + 1)) (i := 7) (lv := [(0, vR 0), (1, vI l1), (2, vI l2), (3, vI l3), (5, vI l5), (6, vI l6), (8, vI l8)]) (fun x1 ex1 => ?_)
    replace h := h x1 ex1
    refine g_goto (tgt := 64) dX10_raise_192 (by decide) ?_
    refine g_lv (lv' := [(0, vR 0), (1, vI l1), (2, vI l2), (3, vI l3), (5, vI l5), (6, vI l6), (7, vI x1)]) [1, 2, 3, 4, 5, 6, 0] rfl ?_
    exact hK64 ((l1, l2, l3, l5, l6, x1)) σ h
  · replace h := hB hc
    refine g_iload dX10_raise_91 rfl ?_
    refine g_iload dX10_raise_93 rfl ?_
    refine g_ishr dX10_raise_95 ?_
    refine g_iconst dX10_raise_96 1 rfl (by decide) ?_
    refine g_iand dX10_raise_97 ?_
    refine g_iconst dX10_raise_98 1 rfl (by decide) ?_
    obtain ⟨hA, hB⟩ := h
    refine g_icmp_ne (tgt := 116) dX10_raise_99 (by decide) (fun hc => ?_) (fun hc => ?_)
    · replace h := hA hc
      exact bX10_raise_116 hK64 hK79 hR h
    · replace h := hB hc
      refine g_iload dX10_raise_102 rfl ?_
      refine g_iload dX10_raise_104 rfl ?_
      refine g_ishr dX10_raise_106 ?_
      refine g_iconst dX10_raise_107 1 rfl (by decide) ?_
      refine g_iand dX10_raise_108 ?_
      obtain ⟨hA, hB⟩ := h
      refine g_if_ne (tgt := 116) dX10_raise_109 (by decide) (fun hc => ?_) (fun hc => ?_)
      · replace h := hA hc
        exact bX10_raise_116 hK64 hK79 hR h
      · replace h := hB hc
        refine g_iconst dX10_raise_112 1 rfl (by decide) ?_
        refine g_goto (tgt := 117) dX10_raise_113 (by decide) ?_
        exact bX10_raise_117 hK64 hK79 hR h
theorem eX10_raise_79 {E : TE} {K64 : (Int × Int × Int × Int × Int × Int) → Mem → Prop} (hK64 : ∀ (x : Int × Int × Int × Int × Int × Int) (σ : Mem), K64 x σ → GW E cX10_raise 10 RX10 5 125 σ 64 [(0, vR 0), (1, vI x.1), (2, vI x.2.1), (3, vI x.2.2.1), (5, vI x.2.2.2.1), (6, vI x.2.2.2.2.1), (7, vI x.2.2.2.2.2)] []) {Q : Int → Mem → Prop} (hR : RI E (some .int) Q) {l1 : Int} {l2 : Int} {l3 : Int} {l5 : Int} {l6 : Int} {l7 : Int} {l8 : Int} {σ : Mem} (h : wLX10_raise_79 K64 Q l1 l2 l3 l5 l6 l7 l8 σ) : GW E cX10_raise 10 RX10 5 125 σ 79 [(0, vR 0), (1, vI l1), (2, vI l2), (3, vI l3), (5, vI l5), (6, vI l6), (7, vI l7), (8, vI l8)] [] := by
  obtain ⟨n, h⟩ := h
  exact lp_GW (P := fun (x : Int × Int × Int × Int × Int × Int × Int) (σ : Mem) => GW E cX10_raise 10 RX10 5 125 σ 79 [(0, vR 0), (1, vI x.1), (2, vI x.2.1), (3, vI x.2.2.1), (5, vI x.2.2.2.1), (6, vI x.2.2.2.2.1), (7, vI x.2.2.2.2.2.1), (8, vI x.2.2.2.2.2.2)] []) (fun K hK x σ h  => bX10_raise_79 hK64 hK hR h) n _ σ h 
set_option maxHeartbeats 1000000 in
theorem bX10_raise_64 {E : TE} {K64 : (Int × Int × Int × Int × Int × Int) → Mem → Prop} (hK64 : ∀ (x : Int × Int × Int × Int × Int × Int) (σ : Mem), K64 x σ → GW E cX10_raise 10 RX10 5 125 σ 64 [(0, vR 0), (1, vI x.1), (2, vI x.2.1), (3, vI x.2.2.1), (5, vI x.2.2.2.1), (6, vI x.2.2.2.2.1), (7, vI x.2.2.2.2.2)] []) {Q : Int → Mem → Prop} (hR : RI E (some .int) Q) {l1 : Int} {l2 : Int} {l3 : Int} {l5 : Int} {l6 : Int} {l7 : Int} {σ : Mem} (h : wX10_raise_64 K64 Q l1 l2 l3 l5 l6 l7 σ) : GW E cX10_raise 10 RX10 5 125 σ 64 [(0, vR 0), (1, vI l1), (2, vI l2), (3, vI l3), (5, vI l5), (6, vI l6), (7, vI l7)] [] := by
  unfold wX10_raise_64 at h
  refine g_iload dX10_raise_64 rfl ?_
  refine g_aload_n dX10_raise_66 rfl ?_
  refine g_getR (r := 40) fl_10_12 kd_0 rfl dX10_raise_67 ?_
  refine g_getI fl_10_164 (kd_bk0 bk_40) rfl dX10_raise_70 ?_
  obtain ⟨hA, hB⟩ := h
  refine g_icmp_ge (tgt := 195) dX10_raise_73 (by decide) (fun hc => ?_) (fun hc => ?_)
  · replace h := hA hc
    refine g_bipush dX10_raise_195 (-3) rfl (by decide) ?_
    exact g_iret hR dX10_raise_197 h
  · replace h := hB hc
    refine g_iconst dX10_raise_76 0 rfl (by decide) ?_
    refine g_istore (lv' := [(8, vI 0), (0, vR 0), (1, vI l1), (2, vI l2), (3, vI l3), (5, vI l5), (6, vI l6), (7, vI l7)]) dX10_raise_77 (by decide) rfl ?_
    refine g_lv (lv' := [(0, vR 0), (1, vI l1), (2, vI l2), (3, vI l3), (5, vI l5), (6, vI l6), (7, vI l7), (8, vI 0)]) [1, 2, 3, 4, 5, 6, 7, 0] rfl ?_
    exact eX10_raise_79 hK64 hR h
theorem eX10_raise_64 {E : TE} {Q : Int → Mem → Prop} (hR : RI E (some .int) Q) {l1 : Int} {l2 : Int} {l3 : Int} {l5 : Int} {l6 : Int} {l7 : Int} {σ : Mem} (h : wLX10_raise_64 Q l1 l2 l3 l5 l6 l7 σ) : GW E cX10_raise 10 RX10 5 125 σ 64 [(0, vR 0), (1, vI l1), (2, vI l2), (3, vI l3), (5, vI l5), (6, vI l6), (7, vI l7)] [] := by
  obtain ⟨n, h⟩ := h
  exact lp_GW (P := fun (x : Int × Int × Int × Int × Int × Int) (σ : Mem) => GW E cX10_raise 10 RX10 5 125 σ 64 [(0, vR 0), (1, vI x.1), (2, vI x.2.1), (3, vI x.2.2.1), (5, vI x.2.2.2.1), (6, vI x.2.2.2.2.1), (7, vI x.2.2.2.2.2)] []) (fun K hK x σ h  => bX10_raise_64 hK hR h) n _ σ h 
set_option maxHeartbeats 1000000 in
theorem kX10_raise {l1 : Int} {l2 : Int} {l3 : Int} {σ : Mem} {Q : Int → Mem → Prop} (h : wX10_raise l1 l2 l3 σ Q) (l : Launch) (D : va_G) (cy : Nat → ClassId) (ad : Nat → Nat) : MI l yX10_raise cX10_raise 10 (some .int) 5 125 D cy ad [vR 0, vI l1, vI l2, vI l3] σ Q := by
  refine m_I (own := RX10) (lv := [(0, vR 0), (1, vI l1), (2, vI l2), (3, vI l3)]) (by decide +kernel) rfl (Nat.le_of_ble_eq_true rfl) rfl (fun E hR => ?_) l D cy ad
  unfold wX10_raise at h
  refine g_aload_n dX10_raise_0 rfl ?_
  refine g_iload_n dX10_raise_1 rfl ?_
  refine g_iload_n dX10_raise_2 rfl ?_
  refine g_iload_n dX10_raise_3 rfl ?_
  refine g_cVi (st := []) (av := [vI l1, vI l2, vI l3]) (kX10_isPayment h) kd_0 rfl cw_RX10_174 (by decide) (by decide) (Nat.le_of_ble_eq_true rfl) rfl dX10_raise_4 (fun y2 m1 h => ?_)
  obtain ⟨hA, hB⟩ := h
  refine g_if_ne (tgt := 12) dX10_raise_7 (by decide) (fun hc => ?_) (fun hc => ?_)
  · replace h := hA hc
    refine g_aload_n dX10_raise_12 rfl ?_
    refine g_getR (r := 14) fl_10_61 kd_0 rfl dX10_raise_13 ?_
    refine g_aload_n dX10_raise_16 rfl ?_
    refine g_getR (r := 40) fl_10_12 kd_0 rfl dX10_raise_17 ?_
    refine g_cVv (st := []) (av := [vR 40]) (kX4_load bk_40 h) kd_14 rfl cw_RX10_178 (by decide) (by decide) (Nat.le_of_ble_eq_true rfl) rfl dX10_raise_20 (fun m3 h => ?_)
    refine g_aload_n dX10_raise_23 rfl ?_
    refine g_getR (r := 14) fl_10_61 kd_0 rfl dX10_raise_24 ?_
    refine g_iload_n dX10_raise_27 rfl ?_
    refine g_iload_n dX10_raise_28 rfl ?_
    refine g_iload_n dX10_raise_29 rfl ?_
    refine g_cVi (st := []) (av := [vI l1, vI l2, vI l3]) (kX4_send h) kd_14 rfl cw_RX10_207 (by decide) (by decide) (Nat.le_of_ble_eq_true rfl) rfl dX10_raise_30 (fun y5 m4 h => ?_)
    refine g_istore (lv' := [(4, vI y5), (0, vR 0), (1, vI l1), (2, vI l2), (3, vI l3)]) dX10_raise_33 (by decide) rfl ?_
    refine g_iload dX10_raise_35 rfl ?_
    refine g_iload_n dX10_raise_37 rfl ?_
    obtain ⟨hA, hB⟩ := h
    refine g_icmp_lt (tgt := 44) dX10_raise_38 (by decide) (fun hc => ?_) (fun hc => ?_)
    · replace h := hA hc
      refine g_iload_n dX10_raise_44 rfl ?_
      refine g_iload dX10_raise_45 rfl ?_
      refine g_isub dX10_raise_47 ?_
      refine g_topI (fun x6 ex6 => ?_)
      replace h := h x6 ex6
      refine g_istore (lv' := [(5, vI x6), (4, vI y5), (0, vR 0), (1, vI l1), (2, vI l2), (3, vI l3)]) dX10_raise_48 (by decide) rfl ?_
      refine g_aload_n dX10_raise_50 rfl ?_
      refine g_getR (r := 14) fl_10_61 kd_0 rfl dX10_raise_51 ?_
      refine g_iload_n dX10_raise_54 rfl ?_
      refine g_iconst dX10_raise_55 1 rfl (by decide) ?_
      refine g_cVi (st := []) (av := [vI l1, vI 1]) (kX4_reached h) kd_14 rfl cw_RX10_193 (by decide) (by decide) (Nat.le_of_ble_eq_true rfl) rfl dX10_raise_56 (fun y8 m7 h => ?_)
      refine g_istore (lv' := [(6, vI y8), (5, vI x6), (4, vI y5), (0, vR 0), (1, vI l1), (2, vI l2), (3, vI l3)]) dX10_raise_59 (by decide) rfl ?_
      refine g_iconst dX10_raise_61 0 rfl (by decide) ?_
      refine g_istore (lv' := [(7, vI 0), (6, vI y8), (5, vI x6), (4, vI y5), (0, vR 0), (1, vI l1), (2, vI l2), (3, vI l3)]) dX10_raise_62 (by decide) rfl ?_
      refine g_lv (lv' := [(0, vR 0), (1, vI l1), (2, vI l2), (3, vI l3), (5, vI x6), (6, vI y8), (7, vI 0)]) [4, 5, 6, 7, 2, 1, 0] rfl ?_
      exact eX10_raise_64 hR h
    · replace h := hB hc
      refine g_bipush dX10_raise_41 (-2) rfl (by decide) ?_
      exact g_iret hR dX10_raise_43 h
  · replace h := hB hc
    refine g_iconst dX10_raise_10 (-1) rfl (by decide) ?_
    exact g_iret hR dX10_raise_11 h
def wX10_fails (l1 : Int) (σ : Mem) (Q : Int → Mem → Prop) : Prop := (wX1_has 40 l1 σ (fun y2 m1 => ((¬ y2 = 0 → (wX2_run 40 l1 m1 (fun m3 => (wX5_tellThree (m3 36 0) (m3 36 2) (m3 36 3) m3 (fun m4 => Q (m4 36 1) m4))))) ∧ (y2 = 0 → Q ((-1)) m1))))
set_option maxHeartbeats 1000000 in
theorem kX10_fails {l1 : Int} {σ : Mem} {Q : Int → Mem → Prop} (h : wX10_fails l1 σ Q) (l : Launch) (D : va_G) (cy : Nat → ClassId) (ad : Nat → Nat) : MI l yX10_fails cX10_fails 2 (some .int) 5 118 D cy ad [vR 0, vI l1] σ Q := by
  refine m_I (own := RX10) (lv := [(0, vR 0), (1, vI l1)]) (by decide +kernel) rfl (Nat.le_of_ble_eq_true rfl) rfl (fun E hR => ?_) l D cy ad
  unfold wX10_fails at h
  refine g_aload_n dX10_fails_0 rfl ?_
  refine g_getR (r := 40) fl_10_12 kd_0 rfl dX10_fails_1 ?_
  refine g_iload_n dX10_fails_4 rfl ?_
  refine g_cVi (st := []) (av := [vI l1]) (kX1_has bk_40 h) (kd_bk0 bk_40) rfl cw_RX10_111 (by decide) (by decide) (Nat.le_of_ble_eq_true rfl) rfl dX10_fails_5 (fun y2 m1 h => ?_)
  obtain ⟨hA, hB⟩ := h
  refine g_if_ne (tgt := 13) dX10_fails_8 (by decide) (fun hc => ?_) (fun hc => ?_)
  · replace h := hA hc
    refine g_aload_n dX10_fails_13 rfl ?_
    refine g_getR (r := 36) fl_10_82 kd_0 rfl dX10_fails_14 ?_
    refine g_aload_n dX10_fails_17 rfl ?_
    refine g_getR (r := 40) fl_10_12 kd_0 rfl dX10_fails_18 ?_
    refine g_iload_n dX10_fails_21 rfl ?_
    refine g_cVv (st := []) (av := [vR 40, vI l1]) (kX2_run bk_40 h) kd_36 rfl cw_RX10_321 (by decide) (by decide) (Nat.le_of_ble_eq_true rfl) rfl dX10_fails_22 (fun m3 h => ?_)
    refine g_aload_n dX10_fails_25 rfl ?_
    refine g_getR (r := 12) fl_10_54 kd_0 rfl dX10_fails_26 ?_
    refine g_aload_n dX10_fails_29 rfl ?_
    refine g_getR (r := 36) fl_10_82 kd_0 rfl dX10_fails_30 ?_
    refine g_getI fl_10_325 kd_36 rfl dX10_fails_33 ?_
    refine g_i2l dX10_fails_36 ?_
    refine g_aload_n dX10_fails_37 rfl ?_
    refine g_getR (r := 36) fl_10_82 kd_0 rfl dX10_fails_38 ?_
    refine g_getI fl_10_328 kd_36 rfl dX10_fails_41 ?_
    refine g_i2l dX10_fails_44 ?_
    refine g_aload_n dX10_fails_45 rfl ?_
    refine g_getR (r := 36) fl_10_82 kd_0 rfl dX10_fails_46 ?_
    refine g_getI fl_10_331 kd_36 rfl dX10_fails_49 ?_
    refine g_i2l dX10_fails_52 ?_
    refine g_cVv (st := []) (av := [vL (m3 36 0), vL (m3 36 2), vL (m3 36 3)]) (kX5_tellThree h) kd_12 rfl cw_RX10_153 (by decide) (by decide) (Nat.le_of_ble_eq_true rfl) rfl dX10_fails_53 (fun m4 h => ?_)
    refine g_aload_n dX10_fails_56 rfl ?_
    refine g_getR (r := 36) fl_10_82 kd_0 rfl dX10_fails_57 ?_
    refine g_getI fl_10_334 kd_36 rfl dX10_fails_60 ?_
    exact g_iret hR dX10_fails_63 h
  · replace h := hB hc
    refine g_iconst dX10_fails_11 (-1) rfl (by decide) ?_
    exact g_iret hR dX10_fails_12 h
