theorem q_140 : Cond.fieldLink RX10 264 "TrustClub$Holding" "from" "I" ∈ gtw := gtw_in (List.mem_of_getElem? (i := 140) (by decide +kernel)) (by decide +kernel)
theorem q_142 : Cond.fieldLink RX10 269 "TrustClub$Holding" "to" "I" ∈ gtw := gtw_in (List.mem_of_getElem? (i := 142) (by decide +kernel)) (by decide +kernel)
theorem q_145 : Cond.fieldLink RX10 272 "TrustClub$Holding" "sum" "I" ∈ gtw := gtw_in (List.mem_of_getElem? (i := 145) (by decide +kernel)) (by decide +kernel)
theorem q_1088 : Cond.code yX3_steps cX3_steps 3 (some .int) ∈ gtw := gtw_in (List.mem_of_getElem? (i := 1088) (by decide +kernel)) (by decide +kernel)
theorem q_1085 : Cond.methodLink RX10 275 yX3_steps ∈ gtw := gtw_in (List.mem_of_getElem? (i := 1085) (by decide +kernel)) (by decide +kernel)
theorem q_1086 : Cond.instanceMethod yX3_steps ∈ gtw := gtw_in (List.mem_of_getElem? (i := 1086) (by decide +kernel)) (by decide +kernel)
theorem q_1087 : Cond.selects RX3 yX3_steps yX3_steps ∈ gtw := gtw_in (List.mem_of_getElem? (i := 1087) (by decide +kernel)) (by decide +kernel)
theorem q_255 : Cond.fieldLink RX10 412 "TrustClub$Numbers" "numbers" "[J" ∈ gtw := gtw_in (List.mem_of_getElem? (i := 255) (by decide +kernel)) (by decide +kernel)
theorem fl_10_264 : FLd RX10 264 3 0 := ⟨RX3, TX3, 4, rfl, giX3, by decide, q_140⟩
theorem fl_10_269 : FLd RX10 269 3 1 := ⟨RX3, TX3, 4, rfl, giX3, by decide, q_142⟩
theorem fl_10_272 : FLd RX10 272 3 2 := ⟨RX3, TX3, 4, rfl, giX3, by decide, q_145⟩
theorem cw_RX10_275 : CWV RX10 275 RX3 yX3_steps cX3_steps 3 (some .int) 0 := ⟨q_1085, q_1086, q_1087, q_96, q_1088, ⟨rfl, by decide, by decide, by decide +kernel⟩⟩
theorem fl_10_412 : FLd RX10 412 5 0 := ⟨RX5, TX5, 2, rfl, giX5, by decide, q_255⟩
def wX10_net_25 (K25 : (Int × Int × Int) → Mem → Prop) (Q : Int → Mem → Prop) (XT : Mem → Prop) (l1 : Int) (l2 : Int) (l3 : Int) (σ : Mem) : Prop := ((σ 40 0 ≤ l3 → Q l2 σ) ∧ (¬ σ 40 0 ≤ l3 → (wX10_at l3 l1 σ (fun y2 m1 => ((0 ≤ y2 ∧ y2 < 64) ∧ (∀ x3 : Int, x3 = w32 (l2 + (m1 (40 + 2) y2.toNat)) → (∀ x4 : Int, x4 = w32 (l3 + 1) → K25 (l1, x3, x4) m1)))))))
def wLX10_net_25 (Q : Int → Mem → Prop) (XT : Mem → Prop) (l1 : Int) (l2 : Int) (l3 : Int) (σ : Mem) : Prop := ∃ n, lp (fun (K25 : (Int × Int × Int) → Mem → Prop) (x : Int × Int × Int) (σ : Mem) => wX10_net_25 K25 Q XT x.1 x.2.1 x.2.2 σ) n (l1, l2, l3) σ
def wX10_net (l1 : Int) (σ : Mem) (Q : Int → Mem → Prop) (XT : Mem → Prop) : Prop := (wX1_has 40 l1 σ (fun y2 m1 => ((¬ y2 = 0 → wLX10_net_25 Q XT l1 0 0 m1) ∧ (y2 = 0 → XT m1))))
set_option maxHeartbeats 1000000 in
theorem bX10_net_25 {E : TE} {K25 : (Int × Int × Int) → Mem → Prop} (hK25 : ∀ (x : Int × Int × Int) (σ : Mem), K25 x σ → GW E cX10_net 4 RX10 6 90 σ 25 [(0, vR 0), (1, vI x.1), (2, vI x.2.1), (3, vI x.2.2)] []) {Q : Int → Mem → Prop} {XT : Mem → Prop} (hR : RX E (some .int) (QCi Q) XT) {l1 : Int} {l2 : Int} {l3 : Int} {σ : Mem} (h : wX10_net_25 K25 Q XT l1 l2 l3 σ) : GW E cX10_net 4 RX10 6 90 σ 25 [(0, vR 0), (1, vI l1), (2, vI l2), (3, vI l3)] [] := by
  unfold wX10_net_25 at h
  refine g_iload_n dX10_net_25 rfl ?_
  refine g_aload_n dX10_net_26 rfl ?_
  refine g_getR (r := 40) fl_10_12 kd_0 rfl dX10_net_27 ?_
  refine g_getI fl_10_164 (kd_bk0 bk_40) rfl dX10_net_30 ?_
  obtain ⟨hA, hB⟩ := h
  refine g_icmp_ge (tgt := 58) dX10_net_33 (by decide) (fun hc => ?_) (fun hc => ?_)
  · replace h := hA hc
    refine g_iload_n dX10_net_58 rfl ?_
    exact g_xiret hR dX10_net_59 h
  · replace h := hB hc
    refine g_iload_n dX10_net_36 rfl ?_
    refine g_aload_n dX10_net_37 rfl ?_
    refine g_getR (r := 40) fl_10_12 kd_0 rfl dX10_net_38 ?_
    refine g_getR (r := 40 + 2) fl_10_167 (kd_bk0 bk_40) rfl dX10_net_41 ?_
    refine g_iload_n dX10_net_44 rfl ?_
    refine g_iload_n dX10_net_45 rfl ?_
    refine g_cSi (st := [vR (40 + 2), vI l2]) (av := [vI l3, vI l1]) (kX10_at h) cw_RX10_133 (by decide) (by decide) (Nat.le_of_ble_eq_true rfl) rfl dX10_net_46 (fun y2 m1 h => ?_)
    obtain ⟨hin, h⟩ := h
    refine g_iald (kd_bk2 bk_40) hin dX10_net_49 ?_
    refine g_iadd dX10_net_50 ?_
    refine g_topI (fun x3 ex3 => ?_)
    replace h := h x3 ex3
    refine g_istore_n (lv' := [(2, vI x3), (0, vR 0), (1, vI l1), (3, vI l3)]) dX10_net_51 (by decide) rfl ?_
    refine g_iinc (lv' := [(3, vI (w32 (l3 + 1))), (2, vI x3), (0, vR 0), (1, vI l1)]) dX10_net_52 rfl (by decide) rfl ?_
    refine g_loc (a := w32 (l3 + 1)) (i := 3) (lv := [(2, vI x3), (0, vR 0), (1, vI l1)]) (fun x4 ex4 => ?_)
    replace h := h x4 ex4
    refine g_goto (tgt := 25) dX10_net_55 (by decide) ?_
    refine g_lv (lv' := [(0, vR 0), (1, vI l1), (2, vI x3), (3, vI x4)]) [2, 3, 1, 0] rfl ?_
    exact hK25 ((l1, x3, x4)) m1 h
theorem eX10_net_25 {E : TE} {Q : Int → Mem → Prop} {XT : Mem → Prop} (hR : RX E (some .int) (QCi Q) XT) {l1 : Int} {l2 : Int} {l3 : Int} {σ : Mem} (h : wLX10_net_25 Q XT l1 l2 l3 σ) : GW E cX10_net 4 RX10 6 90 σ 25 [(0, vR 0), (1, vI l1), (2, vI l2), (3, vI l3)] [] := by
  obtain ⟨n, h⟩ := h
  exact lp_GW (P := fun (x : Int × Int × Int) (σ : Mem) => GW E cX10_net 4 RX10 6 90 σ 25 [(0, vR 0), (1, vI x.1), (2, vI x.2.1), (3, vI x.2.2)] []) (fun K hK x σ h  => bX10_net_25 hK hR h) n _ σ h 
set_option maxHeartbeats 1000000 in
theorem kX10_net {l1 : Int} {σ : Mem} {Q : Int → Mem → Prop} {XT : Mem → Prop} (h : wX10_net l1 σ Q XT) (l : Launch) (D : va_G) (cy : Nat → ClassId) (ad : Nat → Nat) : XM l yX10_net cX10_net 4 (some .int) 6 90 D cy ad [vR 0, vI l1] σ (QCi Q) XT := by
  refine m_X (own := RX10) (lv := [(0, vR 0), (1, vI l1)]) (by decide +kernel) rfl (Nat.le_of_ble_eq_true rfl) rfl (fun E hR => ?_) l D cy ad
  unfold wX10_net at h
  refine g_aload_n dX10_net_0 rfl ?_
  refine g_getR (r := 40) fl_10_12 kd_0 rfl dX10_net_1 ?_
  refine g_iload_n dX10_net_4 rfl ?_
  refine g_cVi (st := []) (av := [vI l1]) (kX1_has bk_40 h) (kd_bk0 bk_40) rfl cw_RX10_111 (by decide) (by decide) (Nat.le_of_ble_eq_true rfl) rfl dX10_net_5 (fun y2 m1 h => ?_)
  obtain ⟨hA, hB⟩ := h
  refine g_if_ne (tgt := 21) dX10_net_8 (by decide) (fun hc => ?_) (fun hc => ?_)
  · replace h := hA hc
    refine g_iconst dX10_net_21 0 rfl (by decide) ?_
    refine g_istore_n (lv' := [(2, vI 0), (0, vR 0), (1, vI l1)]) dX10_net_22 (by decide) rfl ?_
    refine g_iconst dX10_net_23 0 rfl (by decide) ?_
    refine g_istore_n (lv' := [(3, vI 0), (2, vI 0), (0, vR 0), (1, vI l1)]) dX10_net_24 (by decide) rfl ?_
    refine g_lv (lv' := [(0, vR 0), (1, vI l1), (2, vI 0), (3, vI 0)]) [2, 3, 1, 0] rfl ?_
    exact eX10_net_25 hR h
  · replace h := hB hc
    exact g_xthrN hR rfl dX10_net_11 dX10_net_14 dX10_net_15 dX10_net_17 dX10_net_20 (by decide) h
def wX10_held_20 (Q : Int → Mem → Prop) (XT : Mem → Prop) (σ : Mem) : Prop := XT σ
def wX10_held (l1 : Int) (l2 : Int) (σ : Mem) (Q : Int → Mem → Prop) (XT : Mem → Prop) : Prop := (wX1_isHeldAt 40 l1 σ (fun y2 m1 => ((y2 = 0 → wX10_held_20 Q XT m1) ∧ (¬ y2 = 0 → ((l2 < 0 → wX10_held_20 Q XT m1) ∧ (¬ l2 < 0 → ((l2 ≤ 3 → ((0 ≤ l1 ∧ l1 < 4) ∧ ((l2 = 0 → Q (m1 (40 + 5 + l1.toNat) 0) m1) ∧ (l2 = 1 → Q (m1 (40 + 5 + l1.toNat) 1) m1) ∧ (l2 = 2 → Q (m1 (40 + 5 + l1.toNat) 2) m1) ∧ (l2 ≠ 0 ∧ l2 ≠ 1 ∧ l2 ≠ 2 → (wX3_steps (40 + 5 + l1.toNat) m1 (fun y5 m4 => Q y5 m4)))))) ∧ (¬ l2 ≤ 3 → wX10_held_20 Q XT m1))))))))
set_option maxHeartbeats 1000000 in
theorem bX10_held_20 {E : TE} {Q : Int → Mem → Prop} {XT : Mem → Prop} (hR : RX E (some .int) (QCi Q) XT) {σ : Mem} (h : wX10_held_20 Q XT σ) : GW E cX10_held 4 RX10 6 90 σ 20 [] [] := by
  unfold wX10_held_20 at h
  exact g_xthrH hR rfl dX10_held_20 dX10_held_23 dX10_held_24 dX10_held_27 dX10_held_30 (by decide) h
set_option maxHeartbeats 1000000 in
theorem kX10_held {l1 : Int} {l2 : Int} {σ : Mem} {Q : Int → Mem → Prop} {XT : Mem → Prop} (h : wX10_held l1 l2 σ Q XT) (l : Launch) (D : va_G) (cy : Nat → ClassId) (ad : Nat → Nat) : XM l yX10_held cX10_held 4 (some .int) 6 90 D cy ad [vR 0, vI l1, vI l2] σ (QCi Q) XT := by
  refine m_X (own := RX10) (lv := [(0, vR 0), (1, vI l1), (2, vI l2)]) (by decide +kernel) rfl (Nat.le_of_ble_eq_true rfl) rfl (fun E hR => ?_) l D cy ad
  unfold wX10_held at h
  refine g_aload_n dX10_held_0 rfl ?_
  refine g_getR (r := 40) fl_10_12 kd_0 rfl dX10_held_1 ?_
  refine g_iload_n dX10_held_4 rfl ?_
  refine g_cVi (st := []) (av := [vI l1]) (kX1_isHeldAt bk_40 h) (kd_bk0 bk_40) rfl cw_RX10_255 (by decide) (by decide) (Nat.le_of_ble_eq_true rfl) rfl dX10_held_5 (fun y2 m1 h => ?_)
  obtain ⟨hA, hB⟩ := h
  refine g_if_eq (tgt := 20) dX10_held_8 (by decide) (fun hc => ?_) (fun hc => ?_)
  · replace h := hA hc
    refine g_lv (lv' := []) [] rfl ?_
    exact bX10_held_20 hR h
  · replace h := hB hc
    refine g_iload_n dX10_held_11 rfl ?_
    obtain ⟨hA, hB⟩ := h
    refine g_if_lt (tgt := 20) dX10_held_12 (by decide) (fun hc => ?_) (fun hc => ?_)
    · replace h := hA hc
      refine g_lv (lv' := []) [] rfl ?_
      exact bX10_held_20 hR h
    · replace h := hB hc
      refine g_iload_n dX10_held_15 rfl ?_
      refine g_iconst dX10_held_16 3 rfl (by decide) ?_
      obtain ⟨hA, hB⟩ := h
      refine g_icmp_le (tgt := 31) dX10_held_17 (by decide) (fun hc => ?_) (fun hc => ?_)
      · replace h := hA hc
        refine g_aload_n dX10_held_31 rfl ?_
        refine g_getR (r := 40) fl_10_12 kd_0 rfl dX10_held_32 ?_
        refine g_getR (r := 40 + 4) fl_10_260 (kd_bk0 bk_40) rfl dX10_held_35 ?_
        refine g_iload_n dX10_held_38 rfl ?_
        obtain ⟨hin, h⟩ := h
        have hi3 := hin
        refine g_aald (kd_bk4 bk_40) (Or.inr rfl) hin (ho_r hi3) dX10_held_39 ?_
        refine g_astore_n (lv' := [(3, vR (40 + 5 + l1.toNat)), (0, vR 0), (1, vI l1), (2, vI l2)]) dX10_held_40 (by decide) rfl ?_
        refine g_iload_n dX10_held_41 rfl ?_
        obtain ⟨hs0, hs1, hs2, hsd⟩ := h
        by_cases ej0 : l2 = 0
        · refine g_tswIn (tgt := 68) (off := 26) dX10_held_42 0 ej0 (by decide) (by decide) rfl (by decide) ?_
          replace h := hs0 ej0
          refine g_aload_n dX10_held_68 rfl ?_
          refine g_getI fl_10_264 (kd_ho (ho_of bk_40 hi3)) rfl dX10_held_69 ?_
          exact g_xiret hR dX10_held_72 h
        by_cases ej1 : l2 = 1
        · refine g_tswIn (tgt := 73) (off := 31) dX10_held_42 1 ej1 (by decide) (by decide) rfl (by decide) ?_
          replace h := hs1 ej1
          refine g_aload_n dX10_held_73 rfl ?_
          refine g_getI fl_10_269 (kd_ho (ho_of bk_40 hi3)) rfl dX10_held_74 ?_
          exact g_xiret hR dX10_held_77 h
        by_cases ej2 : l2 = 2
        · refine g_tswIn (tgt := 78) (off := 36) dX10_held_42 2 ej2 (by decide) (by decide) rfl (by decide) ?_
          replace h := hs2 ej2
          refine g_aload_n dX10_held_78 rfl ?_
          refine g_getI fl_10_272 (kd_ho (ho_of bk_40 hi3)) rfl dX10_held_79 ?_
          exact g_xiret hR dX10_held_82 h
        refine g_tswOut (tgt := 83) dX10_held_42 (by omega) (by decide) ?_
        replace h := hsd (by omega)
        refine g_aload_n dX10_held_83 rfl ?_
        refine g_cVi (st := []) (av := []) (kX3_steps (ho_of bk_40 hi3) h) (kd_ho (ho_of bk_40 hi3)) rfl cw_RX10_275 (by decide) (by decide) (Nat.le_of_ble_eq_true rfl) rfl dX10_held_84 (fun y5 m4 h => ?_)
        exact g_xiret hR dX10_held_87 h
      · replace h := hB hc
        refine g_lv (lv' := []) [] rfl ?_
        exact bX10_held_20 hR h
def wX10_row_15 (Q : Int → Mem → Prop) (XT : Mem → Prop) (σ : Mem) : Prop := XT σ
def wX10_row (l1 : Int) (σ : Mem) (Q : Int → Mem → Prop) (XT : Mem → Prop) : Prop := ((l1 < 0 → wX10_row_15 Q XT σ) ∧ (¬ l1 < 0 → ((l1 < σ 12 1 → ((0 ≤ l1 ∧ l1 < 512) ∧ Q (σ 13 l1.toNat) σ)) ∧ (¬ l1 < σ 12 1 → wX10_row_15 Q XT σ))))
set_option maxHeartbeats 1000000 in
theorem bX10_row_15 {E : TE} {Q : Int → Mem → Prop} {XT : Mem → Prop} (hR : RX E (some .long) (QCl Q) XT) {σ : Mem} (h : wX10_row_15 Q XT σ) : GW E cX10_row 2 RX10 6 90 σ 15 [] [] := by
  unfold wX10_row_15 at h
  exact g_xthrR hR rfl dX10_row_15 dX10_row_18 dX10_row_19 dX10_row_22 dX10_row_25 (by decide) h
set_option maxHeartbeats 1000000 in
theorem kX10_row {l1 : Int} {σ : Mem} {Q : Int → Mem → Prop} {XT : Mem → Prop} (h : wX10_row l1 σ Q XT) (l : Launch) (D : va_G) (cy : Nat → ClassId) (ad : Nat → Nat) : XM l yX10_row cX10_row 2 (some .long) 6 90 D cy ad [vR 0, vI l1] σ (QCl Q) XT := by
  refine m_X (own := RX10) (lv := [(0, vR 0), (1, vI l1)]) (by decide +kernel) rfl (Nat.le_of_ble_eq_true rfl) rfl (fun E hR => ?_) l D cy ad
  unfold wX10_row at h
  refine g_iload_n dX10_row_0 rfl ?_
  obtain ⟨hA, hB⟩ := h
  refine g_if_lt (tgt := 15) dX10_row_1 (by decide) (fun hc => ?_) (fun hc => ?_)
  · replace h := hA hc
    refine g_lv (lv' := []) [] rfl ?_
    exact bX10_row_15 hR h
  · replace h := hB hc
    refine g_iload_n dX10_row_4 rfl ?_
    refine g_aload_n dX10_row_5 rfl ?_
    refine g_getR (r := 12) fl_10_54 kd_0 rfl dX10_row_6 ?_
    refine g_getI fl_10_403 kd_12 rfl dX10_row_9 ?_
    obtain ⟨hA, hB⟩ := h
    refine g_icmp_lt (tgt := 26) dX10_row_12 (by decide) (fun hc => ?_) (fun hc => ?_)
    · replace h := hA hc
      refine g_aload_n dX10_row_26 rfl ?_
      refine g_getR (r := 12) fl_10_54 kd_0 rfl dX10_row_27 ?_
      refine g_getR (r := 13) fl_10_412 kd_12 rfl dX10_row_30 ?_
      refine g_iload_n dX10_row_33 rfl ?_
      obtain ⟨hin, h⟩ := h
      refine g_lald kd_13 hin dX10_row_34 ?_
      exact g_xlret hR dX10_row_35 h
    · replace h := hB hc
      refine g_lv (lv' := []) [] rfl ?_
      exact bX10_row_15 hR h
