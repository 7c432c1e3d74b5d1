theorem q_1010 : Cond.code yX10_net cX10_net 4 (some .int) ∈ gtw := gtw_in (List.mem_of_getElem? (i := 1010) (by decide +kernel)) (by decide +kernel)
theorem q_1007 : Cond.methodLink RL 7 yX10_net ∈ gtw := gtw_in (List.mem_of_getElem? (i := 1007) (by decide +kernel)) (by decide +kernel)
theorem q_1008 : Cond.instanceMethod yX10_net ∈ gtw := gtw_in (List.mem_of_getElem? (i := 1008) (by decide +kernel)) (by decide +kernel)
theorem q_1009 : Cond.selects RX10 yX10_net yX10_net ∈ gtw := gtw_in (List.mem_of_getElem? (i := 1009) (by decide +kernel)) (by decide +kernel)
theorem q_1083 : Cond.code yX10_held cX10_held 4 (some .int) ∈ gtw := gtw_in (List.mem_of_getElem? (i := 1083) (by decide +kernel)) (by decide +kernel)
theorem q_1080 : Cond.methodLink RL 15 yX10_held ∈ gtw := gtw_in (List.mem_of_getElem? (i := 1080) (by decide +kernel)) (by decide +kernel)
theorem q_1081 : Cond.instanceMethod yX10_held ∈ gtw := gtw_in (List.mem_of_getElem? (i := 1081) (by decide +kernel)) (by decide +kernel)
theorem q_1082 : Cond.selects RX10 yX10_held yX10_held ∈ gtw := gtw_in (List.mem_of_getElem? (i := 1082) (by decide +kernel)) (by decide +kernel)
theorem q_1095 : Cond.code yX10_row cX10_row 2 (some .long) ∈ gtw := gtw_in (List.mem_of_getElem? (i := 1095) (by decide +kernel)) (by decide +kernel)
theorem q_1092 : Cond.methodLink RL 19 yX10_row ∈ gtw := gtw_in (List.mem_of_getElem? (i := 1092) (by decide +kernel)) (by decide +kernel)
theorem q_1093 : Cond.instanceMethod yX10_row ∈ gtw := gtw_in (List.mem_of_getElem? (i := 1093) (by decide +kernel)) (by decide +kernel)
theorem q_1094 : Cond.selects RX10 yX10_row yX10_row ∈ gtw := gtw_in (List.mem_of_getElem? (i := 1094) (by decide +kernel)) (by decide +kernel)
theorem cw_RL_7 : CWV RL 7 RX10 yX10_net cX10_net 4 (some .int) 1 := ⟨q_1007, q_1008, q_1009, q_94, q_1010, ⟨rfl, by decide, by decide, by decide +kernel⟩⟩
theorem cw_RL_15 : CWV RL 15 RX10 yX10_held cX10_held 4 (some .int) 2 := ⟨q_1080, q_1081, q_1082, q_94, q_1083, ⟨rfl, by decide, by decide, by decide +kernel⟩⟩
theorem cw_RL_19 : CWV RL 19 RX10 yX10_row cX10_row 2 (some .long) 1 := ⟨q_1092, q_1093, q_1094, q_94, q_1095, ⟨rfl, by decide, by decide, by decide +kernel⟩⟩
def wL_net (l1 : Int) (σ : Mem) (Q : Int → Mem → Prop) : Prop := wX10_net l1 σ (fun r m => ∀ m1 : Mem, m1 = up2 m 340 0 r → Q 0 m1) (fun m => Q 1 m)
set_option maxHeartbeats 1000000 in
theorem kL_net {l1 : Int} {σ : Mem} {Q : Int → Mem → Prop} (h : wL_net l1 σ Q) (l : Launch) (D : va_G) (cy : Nat → ClassId) (ad : Nat → Nat) : MH l yL_net cL_net 4 (some .int) [(0, 9, 12, 13)] 7 113 D cy ad [vR 0, vI l1, vR 340] σ Q := by
  refine m_H (own := RL) (lv := [(0, vR 0), (1, vI l1), (2, vR 340)]) (by decide +kernel) rfl (Nat.le_of_ble_eq_true rfl) rfl (fun p l e R s m args below meth c Qs D cy ad A hTr htab hc1 hc2 hR => ?_) l D cy ad
  unfold wL_net at h
  refine g_aload_n dL_net_0 rfl ?_
  refine g_iconst dL_net_1 0 rfl (by decide) ?_
  refine g_aload_n dL_net_2 rfl ?_
  refine g_iload_n dL_net_3 rfl ?_
  refine g_xci (st := [vI 0, vR 340]) (av := [vI l1]) (sp := 0) (ep := 9) (hp := 12) (ct := 13) hTr (kX10_net h) kd_0 rfl cw_RL_7 (by decide) (by decide) (Nat.le_of_ble_eq_true rfl) rfl dL_net_4 ⟨by rw [hc1]; decide, by rw [hc2]; decide⟩ htab rfl (by decide) x_cl13 (fun r u h => ?_) (fun u q h => ?_)
  · refine g_i2l dL_net_7 ?_
    refine g_last kd_340 (by decide) dL_net_8 ?_
    refine g_nm (fun m1 e1 => ?_)
    replace h := h m1 e1
    refine g_goto (tgt := 15) dL_net_9 (by decide) ?_
    refine g_iconst dL_net_15 0 rfl (by decide) ?_
    exact g_iret hR dL_net_16 h
  · refine g_xast (i := 3) (lv' := (3, vX q) :: [(0, vR 0), (1, vI l1), (2, vR 340)]) dL_net_12 (by decide) rfl ?_
    refine g_iconst dL_net_13 1 rfl (by decide) ?_
    exact g_iret hR dL_net_14 h
def wL_held (l1 l2 : Int) (σ : Mem) (Q : Int → Mem → Prop) : Prop := wX10_held l1 l2 σ (fun r m => ∀ m1 : Mem, m1 = up2 m 340 0 r → Q 0 m1) (fun m => Q 1 m)
set_option maxHeartbeats 1000000 in
theorem kL_held {l1 l2 : Int} {σ : Mem} {Q : Int → Mem → Prop} (h : wL_held l1 l2 σ Q) (l : Launch) (D : va_G) (cy : Nat → ClassId) (ad : Nat → Nat) : MH l yL_held cL_held 5 (some .int) [(0, 10, 13, 13)] 7 113 D cy ad [vR 0, vI l1, vI l2, vR 340] σ Q := by
  refine m_H (own := RL) (lv := [(0, vR 0), (1, vI l1), (2, vI l2), (3, vR 340)]) (by decide +kernel) rfl (Nat.le_of_ble_eq_true rfl) rfl (fun p l e R s m args below meth c Qs D cy ad A hTr htab hc1 hc2 hR => ?_) l D cy ad
  unfold wL_held at h
  refine g_aload_n dL_held_0 rfl ?_
  refine g_iconst dL_held_1 0 rfl (by decide) ?_
  refine g_aload_n dL_held_2 rfl ?_
  refine g_iload_n dL_held_3 rfl ?_
  refine g_iload_n dL_held_4 rfl ?_
  refine g_xci (st := [vI 0, vR 340]) (av := [vI l1, vI l2]) (sp := 0) (ep := 10) (hp := 13) (ct := 13) hTr (kX10_held h) kd_0 rfl cw_RL_15 (by decide) (by decide) (Nat.le_of_ble_eq_true rfl) rfl dL_held_5 ⟨by rw [hc1]; decide, by rw [hc2]; decide⟩ htab rfl (by decide) x_cl13 (fun r u h => ?_) (fun u q h => ?_)
  · refine g_i2l dL_held_8 ?_
    refine g_last kd_340 (by decide) dL_held_9 ?_
    refine g_nm (fun m1 e1 => ?_)
    replace h := h m1 e1
    refine g_goto (tgt := 17) dL_held_10 (by decide) ?_
    refine g_iconst dL_held_17 0 rfl (by decide) ?_
    exact g_iret hR dL_held_18 h
  · refine g_xast4 (lv' := (4, vX q) :: [(0, vR 0), (1, vI l1), (2, vI l2), (3, vR 340)]) dL_held_13 (by decide) rfl ?_
    refine g_iconst dL_held_15 1 rfl (by decide) ?_
    exact g_iret hR dL_held_16 h
def wL_row (l1 : Int) (σ : Mem) (Q : Int → Mem → Prop) : Prop := wX10_row l1 σ (fun r m => ∀ m1 : Mem, m1 = up2 m 340 0 r → Q 0 m1) (fun m => Q 1 m)
set_option maxHeartbeats 1000000 in
theorem kL_row {l1 : Int} {σ : Mem} {Q : Int → Mem → Prop} (h : wL_row l1 σ Q) (l : Launch) (D : va_G) (cy : Nat → ClassId) (ad : Nat → Nat) : MH l yL_row cL_row 4 (some .int) [(0, 8, 11, 13)] 7 111 D cy ad [vR 0, vI l1, vR 340] σ Q := by
  refine m_H (own := RL) (lv := [(0, vR 0), (1, vI l1), (2, vR 340)]) (by decide +kernel) rfl (Nat.le_of_ble_eq_true rfl) rfl (fun p l e R s m args below meth c Qs D cy ad A hTr htab hc1 hc2 hR => ?_) l D cy ad
  unfold wL_row at h
  refine g_aload_n dL_row_0 rfl ?_
  refine g_iconst dL_row_1 0 rfl (by decide) ?_
  refine g_aload_n dL_row_2 rfl ?_
  refine g_iload_n dL_row_3 rfl ?_
  refine g_xcl (st := [vI 0, vR 340]) (av := [vI l1]) (sp := 0) (ep := 8) (hp := 11) (ct := 13) hTr (kX10_row h) kd_0 rfl cw_RL_19 (by decide) (by decide) (Nat.le_of_ble_eq_true rfl) rfl dL_row_4 ⟨by rw [hc1]; decide, by rw [hc2]; decide⟩ htab rfl (by decide) x_cl13 (fun r u h => ?_) (fun u q h => ?_)
  · skip
    refine g_last kd_340 (by decide) dL_row_7 ?_
    refine g_nm (fun m1 e1 => ?_)
    replace h := h m1 e1
    refine g_goto (tgt := 14) dL_row_8 (by decide) ?_
    refine g_iconst dL_row_14 0 rfl (by decide) ?_
    exact g_iret hR dL_row_15 h
  · refine g_xast (i := 3) (lv' := (3, vX q) :: [(0, vR 0), (1, vI l1), (2, vR 340)]) dL_row_11 (by decide) rfl ?_
    refine g_iconst dL_row_12 1 rfl (by decide) ?_
    exact g_iret hR dL_row_13 h
