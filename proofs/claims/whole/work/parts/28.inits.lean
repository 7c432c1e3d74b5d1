def blk_3 (cy : Nat → ClassId) (a : Nat → Nat) : va_W := [(a 0, .inr (3, [.int 0, .int 0, .int 0, .ref (a 1)])), (a 1, .inl (cy 0, 64, .inl (fun _ => 0)))]
set_option maxHeartbeats 4000000 in
set_option maxRecDepth 8000 in
theorem kinit_3 : MC yX3_init cX3_init 1 1 40 1 64 3 [.int 0, .int 0, .int 0, .null] (fun a : Nat → Nat => a 0) blk_3 := by
  refine m_C (own := RX3) (by decide +kernel) rfl rfl (by decide) (fun E h0 hR hnm => ?_)
  refine c_aload dX3_init_0 rfl ?_
  refine c_obj qc_138 qo_i qo_c (Nat.le_of_ble_eq_true rfl) (Nat.le_of_ble_eq_true rfl) dX3_init_1 ?_
  refine c_aload dX3_init_4 rfl ?_
  refine c_bipush 64 dX3_init_5 rfl ?_
  refine c_newa 0 (atype := .int) (ty := .int) (N := 64) (a0 := (64, .inl (fun _ => 0))) qa_int rfl (ra_p (fun _ _ => rfl)) (fun _ => rfl) (fun _ => rfl) (by decide) rfl (Nat.le_of_ble_eq_true rfl) (Nat.le_of_ble_eq_true rfl) (Nat.le_of_ble_eq_true rfl) dX3_init_7 (fun q1 => ?_)
  refine c_ws (ws' := [(h0, .inr (3, [.int 0, .int 0, .int 0, .null])), (q1, .inl (cyE E 0, 64, .inl (fun _ => 0)))]) rfl ?_
  refine c_put 0 3 (ty := (.array .int)) hnm giX3 tyX3 tyX3_ok nmX3 rfl rfl (by decide) qc_146 rfl rfl (by decide +kernel) rfl rfl (Nat.le_of_ble_eq_true rfl) dX3_init_9 ?_
  refine c_ws (ws' := [(h0, .inr (3, [.int 0, .int 0, .int 0, .ref q1])), (q1, .inl (cyE E 0, 64, .inl (fun _ => 0)))]) rfl ?_
  exact c_ret (fun k => [h0, q1].getD k 0) hR (Nat.le_of_ble_eq_true rfl) (Nat.le_of_ble_eq_true rfl) rfl rfl dX3_init_12
def blk_1 (cy : Nat → ClassId) (a : Nat → Nat) : va_W := [(a 0, .inr (1, [.int 2, .ref (a 1), .ref (a 2), .ref (a 3), .ref (a 4)])), (a 1, .inl (cy 0, 64, .inl (fun _ => 0))), (a 2, .inl (cy 0, 64, .inl (fun _ => 0))), (a 3, .inl (cy 0, 8, .inl (fun _ => 0))), (a 4, .inl (cy 5, 4, .inr (.inr (.inr (.inr (va_up (va_up (va_up (va_up (fun _ => none) 0 (some (a 5))) 1 (some (a 7))) 2 (some (a 9))) 3 (some (a 11)))))))), (a 5, .inr (3, [.int 0, .int 0, .int 0, .ref (a 6)])), (a 6, .inl (cy 0, 64, .inl (fun _ => 0))), (a 7, .inr (3, [.int 0, .int 0, .int 0, .ref (a 8)])), (a 8, .inl (cy 0, 64, .inl (fun _ => 0))), (a 9, .inr (3, [.int 0, .int 0, .int 0, .ref (a 10)])), (a 10, .inl (cy 0, 64, .inl (fun _ => 0))), (a 11, .inr (3, [.int 0, .int 0, .int 0, .ref (a 12)])), (a 12, .inl (cy 0, 64, .inl (fun _ => 0)))]
set_option maxHeartbeats 4000000 in
set_option maxRecDepth 8000 in
theorem kinit_1 : MC yX1_init cX1_init 2 2 60 12 412 1 [.int 0, .null, .null, .null, .null] (fun a : Nat → Nat => a 0) blk_1 := by
  refine m_C (own := RX1) (by decide +kernel) rfl rfl (by decide) (fun E h0 hR hnm => ?_)
  refine c_aload dX1_init_0 rfl ?_
  refine c_obj qc_131 qo_i qo_c (Nat.le_of_ble_eq_true rfl) (Nat.le_of_ble_eq_true rfl) dX1_init_1 ?_
  refine c_aload dX1_init_4 rfl ?_
  refine c_iconst 2 dX1_init_5 rfl ?_
  refine c_put 0 0 (ty := .int) hnm giX1 tyX1 tyX1_ok nmX1 rfl rfl (by decide) qc_158 rfl rfl (by decide +kernel) rfl rfl (Nat.le_of_ble_eq_true rfl) dX1_init_6 ?_
  refine c_ws (ws' := [(h0, .inr (1, [.int 2, .null, .null, .null, .null]))]) rfl ?_
  refine c_aload dX1_init_9 rfl ?_
  refine c_bipush 64 dX1_init_10 rfl ?_
  refine c_newa 0 (atype := .int) (ty := .int) (N := 64) (a0 := (64, .inl (fun _ => 0))) qa_int rfl (ra_p (fun _ _ => rfl)) (fun _ => rfl) (fun _ => rfl) (by decide) rfl (Nat.le_of_ble_eq_true rfl) (Nat.le_of_ble_eq_true rfl) (Nat.le_of_ble_eq_true rfl) dX1_init_12 (fun q1 => ?_)
  refine c_ws (ws' := [(h0, .inr (1, [.int 2, .null, .null, .null, .null])), (q1, .inl (cyE E 0, 64, .inl (fun _ => 0)))]) rfl ?_
  refine c_put 0 1 (ty := (.array .int)) hnm giX1 tyX1 tyX1_ok nmX1 rfl rfl (by decide) qc_163 rfl rfl (by decide +kernel) rfl rfl (Nat.le_of_ble_eq_true rfl) dX1_init_14 ?_
  refine c_ws (ws' := [(h0, .inr (1, [.int 2, .ref q1, .null, .null, .null])), (q1, .inl (cyE E 0, 64, .inl (fun _ => 0)))]) rfl ?_
  refine c_aload dX1_init_17 rfl ?_
  refine c_bipush 64 dX1_init_18 rfl ?_
  refine c_newa 0 (atype := .int) (ty := .int) (N := 64) (a0 := (64, .inl (fun _ => 0))) qa_int rfl (ra_p (fun _ _ => rfl)) (fun _ => rfl) (fun _ => rfl) (by decide) rfl (Nat.le_of_ble_eq_true rfl) (Nat.le_of_ble_eq_true rfl) (Nat.le_of_ble_eq_true rfl) dX1_init_20 (fun q2 => ?_)
  refine c_ws (ws' := [(h0, .inr (1, [.int 2, .ref q1, .null, .null, .null])), (q1, .inl (cyE E 0, 64, .inl (fun _ => 0))), (q2, .inl (cyE E 0, 64, .inl (fun _ => 0)))]) rfl ?_
  refine c_put 0 2 (ty := (.array .int)) hnm giX1 tyX1 tyX1_ok nmX1 rfl rfl (by decide) qc_166 rfl rfl (by decide +kernel) rfl rfl (Nat.le_of_ble_eq_true rfl) dX1_init_22 ?_
  refine c_ws (ws' := [(h0, .inr (1, [.int 2, .ref q1, .ref q2, .null, .null])), (q1, .inl (cyE E 0, 64, .inl (fun _ => 0))), (q2, .inl (cyE E 0, 64, .inl (fun _ => 0)))]) rfl ?_
  refine c_aload dX1_init_25 rfl ?_
  refine c_bipush 8 dX1_init_26 rfl ?_
  refine c_newa 0 (atype := .int) (ty := .int) (N := 8) (a0 := (8, .inl (fun _ => 0))) qa_int rfl (ra_p (fun _ _ => rfl)) (fun _ => rfl) (fun _ => rfl) (by decide) rfl (Nat.le_of_ble_eq_true rfl) (Nat.le_of_ble_eq_true rfl) (Nat.le_of_ble_eq_true rfl) dX1_init_28 (fun q3 => ?_)
  refine c_ws (ws' := [(h0, .inr (1, [.int 2, .ref q1, .ref q2, .null, .null])), (q1, .inl (cyE E 0, 64, .inl (fun _ => 0))), (q2, .inl (cyE E 0, 64, .inl (fun _ => 0))), (q3, .inl (cyE E 0, 8, .inl (fun _ => 0)))]) rfl ?_
  refine c_put 0 3 (ty := (.array .int)) hnm giX1 tyX1 tyX1_ok nmX1 rfl rfl (by decide) qc_169 rfl rfl (by decide +kernel) rfl rfl (Nat.le_of_ble_eq_true rfl) dX1_init_30 ?_
  refine c_ws (ws' := [(h0, .inr (1, [.int 2, .ref q1, .ref q2, .ref q3, .null])), (q1, .inl (cyE E 0, 64, .inl (fun _ => 0))), (q2, .inl (cyE E 0, 64, .inl (fun _ => 0))), (q3, .inl (cyE E 0, 8, .inl (fun _ => 0)))]) rfl ?_
  refine c_aload dX1_init_33 rfl ?_
  refine c_iconst 4 dX1_init_34 rfl ?_
  refine c_newq 5 (C := "TrustClub$Holding") (N := 4) qc_132 (fun _ h => h.2.1) (fun _ => rfl) (by decide) rfl (Nat.le_of_ble_eq_true rfl) (Nat.le_of_ble_eq_true rfl) (Nat.le_of_ble_eq_true rfl) dX1_init_35 (fun q4 => ?_)
  refine c_ws (ws' := [(h0, .inr (1, [.int 2, .ref q1, .ref q2, .ref q3, .null])), (q1, .inl (cyE E 0, 64, .inl (fun _ => 0))), (q2, .inl (cyE E 0, 64, .inl (fun _ => 0))), (q3, .inl (cyE E 0, 8, .inl (fun _ => 0))), (q4, .inl (cyE E 5, 4, .inr (.inr (.inr (.inr (fun _ => none))))))]) rfl ?_
  refine c_put 0 4 (ty := (.array (.object "TrustClub$Holding"))) hnm giX1 tyX1 tyX1_ok nmX1 rfl rfl (by decide) qc_172 rfl rfl (by decide +kernel) rfl rfl (Nat.le_of_ble_eq_true rfl) dX1_init_38 ?_
  refine c_ws (ws' := [(h0, .inr (1, [.int 2, .ref q1, .ref q2, .ref q3, .ref q4])), (q1, .inl (cyE E 0, 64, .inl (fun _ => 0))), (q2, .inl (cyE E 0, 64, .inl (fun _ => 0))), (q3, .inl (cyE E 0, 8, .inl (fun _ => 0))), (q4, .inl (cyE E 5, 4, .inr (.inr (.inr (.inr (fun _ => none))))))]) rfl ?_
  refine c_iconst 0 dX1_init_41 rfl ?_
  refine c_istore (lv' := [(1, .int 0), (0, .ref h0)]) dX1_init_42 (by decide) rfl ?_
  refine c_iload dX1_init_43 rfl ?_
  refine c_iconst 4 dX1_init_44 rfl ?_
  refine c_geN (tgt := 67) dX1_init_45 (by decide) (by decide) ?_
  refine c_aload1 dX1_init_48 rfl ?_
  refine c_get 0 4 giX1 rfl rfl (by decide) qc_172 rfl rfl dX1_init_49 ?_
  refine c_iload dX1_init_52 rfl ?_
  refine c_new (ci := 3) (fs := [.int 0, .int 0, .int 0, .null]) giX3 tyX3 tyX3_ok qc_132 qc_134 qc_96 rfl dfX3 (Nat.le_of_ble_eq_true rfl) (Nat.le_of_ble_eq_true rfl) dX1_init_53 (fun q5 => ?_)
  refine c_dup dX1_init_56 ?_
  refine c_call kinit_3 cwi_1_31 (Nat.le_of_ble_eq_true rfl) (Nat.le_of_ble_eq_true rfl) (Nat.le_of_ble_eq_true rfl) (Nat.le_of_ble_eq_true rfl) (Nat.le_of_ble_eq_true rfl) dX1_init_57 (fun a5 ea5 => ?_)
  subst ea5
  refine c_ws (ws' := [(h0, .inr (1, [.int 2, .ref q1, .ref q2, .ref q3, .ref q4])), (q1, .inl (cyE E 0, 64, .inl (fun _ => 0))), (q2, .inl (cyE E 0, 64, .inl (fun _ => 0))), (q3, .inl (cyE E 0, 8, .inl (fun _ => 0))), (q4, .inl (cyE E 5, 4, .inr (.inr (.inr (.inr (fun _ => none)))))), (a5 0, .inr (3, [.int 0, .int 0, .int 0, .ref (a5 1)])), (a5 1, .inl (cyE E 0, 64, .inl (fun _ => 0)))]) rfl ?_
  refine c_aast 4 5 5 3 0 rfl (fun _ => rfl) rfl rfl (by unfold vp_in; decide) rfl dX1_init_60 ?_
  refine c_ws (ws' := [(h0, .inr (1, [.int 2, .ref q1, .ref q2, .ref q3, .ref q4])), (q1, .inl (cyE E 0, 64, .inl (fun _ => 0))), (q2, .inl (cyE E 0, 64, .inl (fun _ => 0))), (q3, .inl (cyE E 0, 8, .inl (fun _ => 0))), (q4, .inl (cyE E 5, 4, .inr (.inr (.inr (.inr (va_up (fun _ => none) 0 (some (a5 0)))))))), (a5 0, .inr (3, [.int 0, .int 0, .int 0, .ref (a5 1)])), (a5 1, .inl (cyE E 0, 64, .inl (fun _ => 0)))]) rfl ?_
  refine c_iinc (v := 1) (lv' := [(1, .int 1), (0, .ref h0)]) dX1_init_61 rfl (by decide) (by decide) rfl ?_
  refine c_goto (tgt := 43) dX1_init_64 (by decide) ?_
  refine c_iload dX1_init_43 rfl ?_
  refine c_iconst 4 dX1_init_44 rfl ?_
  refine c_geN (tgt := 67) dX1_init_45 (by decide) (by decide) ?_
  refine c_aload1 dX1_init_48 rfl ?_
  refine c_get 0 4 giX1 rfl rfl (by decide) qc_172 rfl rfl dX1_init_49 ?_
  refine c_iload dX1_init_52 rfl ?_
  refine c_new (ci := 3) (fs := [.int 0, .int 0, .int 0, .null]) giX3 tyX3 tyX3_ok qc_132 qc_134 qc_96 rfl dfX3 (Nat.le_of_ble_eq_true rfl) (Nat.le_of_ble_eq_true rfl) dX1_init_53 (fun q6 => ?_)
  refine c_dup dX1_init_56 ?_
  refine c_call kinit_3 cwi_1_31 (Nat.le_of_ble_eq_true rfl) (Nat.le_of_ble_eq_true rfl) (Nat.le_of_ble_eq_true rfl) (Nat.le_of_ble_eq_true rfl) (Nat.le_of_ble_eq_true rfl) dX1_init_57 (fun a6 ea6 => ?_)
  subst ea6
  refine c_ws (ws' := [(h0, .inr (1, [.int 2, .ref q1, .ref q2, .ref q3, .ref q4])), (q1, .inl (cyE E 0, 64, .inl (fun _ => 0))), (q2, .inl (cyE E 0, 64, .inl (fun _ => 0))), (q3, .inl (cyE E 0, 8, .inl (fun _ => 0))), (q4, .inl (cyE E 5, 4, .inr (.inr (.inr (.inr (va_up (fun _ => none) 0 (some (a5 0)))))))), (a5 0, .inr (3, [.int 0, .int 0, .int 0, .ref (a5 1)])), (a5 1, .inl (cyE E 0, 64, .inl (fun _ => 0))), (a6 0, .inr (3, [.int 0, .int 0, .int 0, .ref (a6 1)])), (a6 1, .inl (cyE E 0, 64, .inl (fun _ => 0)))]) rfl ?_
  refine c_aast 4 5 7 3 1 rfl (fun _ => rfl) rfl rfl (by unfold vp_in; decide) rfl dX1_init_60 ?_
  refine c_ws (ws' := [(h0, .inr (1, [.int 2, .ref q1, .ref q2, .ref q3, .ref q4])), (q1, .inl (cyE E 0, 64, .inl (fun _ => 0))), (q2, .inl (cyE E 0, 64, .inl (fun _ => 0))), (q3, .inl (cyE E 0, 8, .inl (fun _ => 0))), (q4, .inl (cyE E 5, 4, .inr (.inr (.inr (.inr (va_up (va_up (fun _ => none) 0 (some (a5 0))) 1 (some (a6 0)))))))), (a5 0, .inr (3, [.int 0, .int 0, .int 0, .ref (a5 1)])), (a5 1, .inl (cyE E 0, 64, .inl (fun _ => 0))), (a6 0, .inr (3, [.int 0, .int 0, .int 0, .ref (a6 1)])), (a6 1, .inl (cyE E 0, 64, .inl (fun _ => 0)))]) rfl ?_
  refine c_iinc (v := 2) (lv' := [(1, .int 2), (0, .ref h0)]) dX1_init_61 rfl (by decide) (by decide) rfl ?_
  refine c_goto (tgt := 43) dX1_init_64 (by decide) ?_
  refine c_iload dX1_init_43 rfl ?_
  refine c_iconst 4 dX1_init_44 rfl ?_
  refine c_geN (tgt := 67) dX1_init_45 (by decide) (by decide) ?_
  refine c_aload1 dX1_init_48 rfl ?_
  refine c_get 0 4 giX1 rfl rfl (by decide) qc_172 rfl rfl dX1_init_49 ?_
  refine c_iload dX1_init_52 rfl ?_
  refine c_new (ci := 3) (fs := [.int 0, .int 0, .int 0, .null]) giX3 tyX3 tyX3_ok qc_132 qc_134 qc_96 rfl dfX3 (Nat.le_of_ble_eq_true rfl) (Nat.le_of_ble_eq_true rfl) dX1_init_53 (fun q7 => ?_)
  refine c_dup dX1_init_56 ?_
  refine c_call kinit_3 cwi_1_31 (Nat.le_of_ble_eq_true rfl) (Nat.le_of_ble_eq_true rfl) (Nat.le_of_ble_eq_true rfl) (Nat.le_of_ble_eq_true rfl) (Nat.le_of_ble_eq_true rfl) dX1_init_57 (fun a7 ea7 => ?_)
  subst ea7
  refine c_ws (ws' := [(h0, .inr (1, [.int 2, .ref q1, .ref q2, .ref q3, .ref q4])), (q1, .inl (cyE E 0, 64, .inl (fun _ => 0))), (q2, .inl (cyE E 0, 64, .inl (fun _ => 0))), (q3, .inl (cyE E 0, 8, .inl (fun _ => 0))), (q4, .inl (cyE E 5, 4, .inr (.inr (.inr (.inr (va_up (va_up (fun _ => none) 0 (some (a5 0))) 1 (some (a6 0)))))))), (a5 0, .inr (3, [.int 0, .int 0, .int 0, .ref (a5 1)])), (a5 1, .inl (cyE E 0, 64, .inl (fun _ => 0))), (a6 0, .inr (3, [.int 0, .int 0, .int 0, .ref (a6 1)])), (a6 1, .inl (cyE E 0, 64, .inl (fun _ => 0))), (a7 0, .inr (3, [.int 0, .int 0, .int 0, .ref (a7 1)])), (a7 1, .inl (cyE E 0, 64, .inl (fun _ => 0)))]) rfl ?_
  refine c_aast 4 5 9 3 2 rfl (fun _ => rfl) rfl rfl (by unfold vp_in; decide) rfl dX1_init_60 ?_
  refine c_ws (ws' := [(h0, .inr (1, [.int 2, .ref q1, .ref q2, .ref q3, .ref q4])), (q1, .inl (cyE E 0, 64, .inl (fun _ => 0))), (q2, .inl (cyE E 0, 64, .inl (fun _ => 0))), (q3, .inl (cyE E 0, 8, .inl (fun _ => 0))), (q4, .inl (cyE E 5, 4, .inr (.inr (.inr (.inr (va_up (va_up (va_up (fun _ => none) 0 (some (a5 0))) 1 (some (a6 0))) 2 (some (a7 0)))))))), (a5 0, .inr (3, [.int 0, .int 0, .int 0, .ref (a5 1)])), (a5 1, .inl (cyE E 0, 64, .inl (fun _ => 0))), (a6 0, .inr (3, [.int 0, .int 0, .int 0, .ref (a6 1)])), (a6 1, .inl (cyE E 0, 64, .inl (fun _ => 0))), (a7 0, .inr (3, [.int 0, .int 0, .int 0, .ref (a7 1)])), (a7 1, .inl (cyE E 0, 64, .inl (fun _ => 0)))]) rfl ?_
  refine c_iinc (v := 3) (lv' := [(1, .int 3), (0, .ref h0)]) dX1_init_61 rfl (by decide) (by decide) rfl ?_
  refine c_goto (tgt := 43) dX1_init_64 (by decide) ?_
  refine c_iload dX1_init_43 rfl ?_
  refine c_iconst 4 dX1_init_44 rfl ?_
  refine c_geN (tgt := 67) dX1_init_45 (by decide) (by decide) ?_
  refine c_aload1 dX1_init_48 rfl ?_
  refine c_get 0 4 giX1 rfl rfl (by decide) qc_172 rfl rfl dX1_init_49 ?_
  refine c_iload dX1_init_52 rfl ?_
  refine c_new (ci := 3) (fs := [.int 0, .int 0, .int 0, .null]) giX3 tyX3 tyX3_ok qc_132 qc_134 qc_96 rfl dfX3 (Nat.le_of_ble_eq_true rfl) (Nat.le_of_ble_eq_true rfl) dX1_init_53 (fun q8 => ?_)
  refine c_dup dX1_init_56 ?_
  refine c_call kinit_3 cwi_1_31 (Nat.le_of_ble_eq_true rfl) (Nat.le_of_ble_eq_true rfl) (Nat.le_of_ble_eq_true rfl) (Nat.le_of_ble_eq_true rfl) (Nat.le_of_ble_eq_true rfl) dX1_init_57 (fun a8 ea8 => ?_)
  subst ea8
  refine c_ws (ws' := [(h0, .inr (1, [.int 2, .ref q1, .ref q2, .ref q3, .ref q4])), (q1, .inl (cyE E 0, 64, .inl (fun _ => 0))), (q2, .inl (cyE E 0, 64, .inl (fun _ => 0))), (q3, .inl (cyE E 0, 8, .inl (fun _ => 0))), (q4, .inl (cyE E 5, 4, .inr (.inr (.inr (.inr (va_up (va_up (va_up (fun _ => none) 0 (some (a5 0))) 1 (some (a6 0))) 2 (some (a7 0)))))))), (a5 0, .inr (3, [.int 0, .int 0, .int 0, .ref (a5 1)])), (a5 1, .inl (cyE E 0, 64, .inl (fun _ => 0))), (a6 0, .inr (3, [.int 0, .int 0, .int 0, .ref (a6 1)])), (a6 1, .inl (cyE E 0, 64, .inl (fun _ => 0))), (a7 0, .inr (3, [.int 0, .int 0, .int 0, .ref (a7 1)])), (a7 1, .inl (cyE E 0, 64, .inl (fun _ => 0))), (a8 0, .inr (3, [.int 0, .int 0, .int 0, .ref (a8 1)])), (a8 1, .inl (cyE E 0, 64, .inl (fun _ => 0)))]) rfl ?_
  refine c_aast 4 5 11 3 3 rfl (fun _ => rfl) rfl rfl (by unfold vp_in; decide) rfl dX1_init_60 ?_
  refine c_ws (ws' := [(h0, .inr (1, [.int 2, .ref q1, .ref q2, .ref q3, .ref q4])), (q1, .inl (cyE E 0, 64, .inl (fun _ => 0))), (q2, .inl (cyE E 0, 64, .inl (fun _ => 0))), (q3, .inl (cyE E 0, 8, .inl (fun _ => 0))), (q4, .inl (cyE E 5, 4, .inr (.inr (.inr (.inr (va_up (va_up (va_up (va_up (fun _ => none) 0 (some (a5 0))) 1 (some (a6 0))) 2 (some (a7 0))) 3 (some (a8 0)))))))), (a5 0, .inr (3, [.int 0, .int 0, .int 0, .ref (a5 1)])), (a5 1, .inl (cyE E 0, 64, .inl (fun _ => 0))), (a6 0, .inr (3, [.int 0, .int 0, .int 0, .ref (a6 1)])), (a6 1, .inl (cyE E 0, 64, .inl (fun _ => 0))), (a7 0, .inr (3, [.int 0, .int 0, .int 0, .ref (a7 1)])), (a7 1, .inl (cyE E 0, 64, .inl (fun _ => 0))), (a8 0, .inr (3, [.int 0, .int 0, .int 0, .ref (a8 1)])), (a8 1, .inl (cyE E 0, 64, .inl (fun _ => 0)))]) rfl ?_
  refine c_iinc (v := 4) (lv' := [(1, .int 4), (0, .ref h0)]) dX1_init_61 rfl (by decide) (by decide) rfl ?_
  refine c_goto (tgt := 43) dX1_init_64 (by decide) ?_
  refine c_iload dX1_init_43 rfl ?_
  refine c_iconst 4 dX1_init_44 rfl ?_
  refine c_geY (tgt := 67) dX1_init_45 (by decide) (by decide) ?_
  exact c_ret (fun k => [h0, q1, q2, q3, q4, a5 0, a5 1, a6 0, a6 1, a7 0, a7 1, a8 0, a8 1].getD k 0) hR (Nat.le_of_ble_eq_true rfl) (Nat.le_of_ble_eq_true rfl) rfl rfl dX1_init_67
def blk_9 (cy : Nat → ClassId) (a : Nat → Nat) : va_W := [(a 0, .inr (9, [.ref (a 1), .int 0])), (a 1, .inl (cy 0, 80, .inl (fun _ => 0)))]
set_option maxHeartbeats 4000000 in
set_option maxRecDepth 8000 in
theorem kinit_9 : MC yX9_init cX9_init 1 1 40 1 80 9 [.null, .int 0] (fun a : Nat → Nat => a 0) blk_9 := by
  refine m_C (own := RX9) (by decide +kernel) rfl rfl (by decide) (fun E h0 hR hnm => ?_)
  refine c_aload dX9_init_0 rfl ?_
  refine c_obj qc_208 qo_i qo_c (Nat.le_of_ble_eq_true rfl) (Nat.le_of_ble_eq_true rfl) dX9_init_1 ?_
  refine c_aload dX9_init_4 rfl ?_
  refine c_bipush 80 dX9_init_5 rfl ?_
  refine c_newa 0 (atype := .int) (ty := .int) (N := 80) (a0 := (80, .inl (fun _ => 0))) qa_int rfl (ra_p (fun _ _ => rfl)) (fun _ => rfl) (fun _ => rfl) (by decide) rfl (Nat.le_of_ble_eq_true rfl) (Nat.le_of_ble_eq_true rfl) (Nat.le_of_ble_eq_true rfl) dX9_init_7 (fun q1 => ?_)
  refine c_ws (ws' := [(h0, .inr (9, [.null, .int 0])), (q1, .inl (cyE E 0, 80, .inl (fun _ => 0)))]) rfl ?_
  refine c_put 0 0 (ty := (.array .int)) hnm giX9 tyX9 tyX9_ok nmX9 rfl rfl (by decide) qc_209 rfl rfl (by decide +kernel) rfl rfl (Nat.le_of_ble_eq_true rfl) dX9_init_9 ?_
  refine c_ws (ws' := [(h0, .inr (9, [.ref q1, .int 0])), (q1, .inl (cyE E 0, 80, .inl (fun _ => 0)))]) rfl ?_
  exact c_ret (fun k => [h0, q1].getD k 0) hR (Nat.le_of_ble_eq_true rfl) (Nat.le_of_ble_eq_true rfl) rfl rfl dX9_init_12
def blk_0 (cy : Nat → ClassId) (a : Nat → Nat) : va_W := [(a 0, .inr (0, [.ref (a 1), .ref (a 2), .ref (a 3), .ref (a 4), .int 0])), (a 1, .inl (cy 0, 80, .inl (fun _ => 0))), (a 2, .inl (cy 0, 80, .inl (fun _ => 0))), (a 3, .inl (cy 0, 80, .inl (fun _ => 0))), (a 4, .inl (cy 0, 80, .inl (fun _ => 0)))]
set_option maxHeartbeats 4000000 in
set_option maxRecDepth 8000 in
theorem kinit_0 : MC yX0_init cX0_init 1 1 40 4 320 0 [.null, .null, .null, .null, .int 0] (fun a : Nat → Nat => a 0) blk_0 := by
  refine m_C (own := RX0) (by decide +kernel) rfl rfl (by decide) (fun E h0 hR hnm => ?_)
  refine c_aload dX0_init_0 rfl ?_
  refine c_obj qc_223 qo_i qo_c (Nat.le_of_ble_eq_true rfl) (Nat.le_of_ble_eq_true rfl) dX0_init_1 ?_
  refine c_aload dX0_init_4 rfl ?_
  refine c_bipush 80 dX0_init_5 rfl ?_
  refine c_newa 0 (atype := .int) (ty := .int) (N := 80) (a0 := (80, .inl (fun _ => 0))) qa_int rfl (ra_p (fun _ _ => rfl)) (fun _ => rfl) (fun _ => rfl) (by decide) rfl (Nat.le_of_ble_eq_true rfl) (Nat.le_of_ble_eq_true rfl) (Nat.le_of_ble_eq_true rfl) dX0_init_7 (fun q1 => ?_)
  refine c_ws (ws' := [(h0, .inr (0, [.null, .null, .null, .null, .int 0])), (q1, .inl (cyE E 0, 80, .inl (fun _ => 0)))]) rfl ?_
  refine c_put 0 0 (ty := (.array .int)) hnm giX0 tyX0 tyX0_ok nmX0 rfl rfl (by decide) qc_224 rfl rfl (by decide +kernel) rfl rfl (Nat.le_of_ble_eq_true rfl) dX0_init_9 ?_
  refine c_ws (ws' := [(h0, .inr (0, [.ref q1, .null, .null, .null, .int 0])), (q1, .inl (cyE E 0, 80, .inl (fun _ => 0)))]) rfl ?_
  refine c_aload dX0_init_12 rfl ?_
  refine c_bipush 80 dX0_init_13 rfl ?_
  refine c_newa 0 (atype := .int) (ty := .int) (N := 80) (a0 := (80, .inl (fun _ => 0))) qa_int rfl (ra_p (fun _ _ => rfl)) (fun _ => rfl) (fun _ => rfl) (by decide) rfl (Nat.le_of_ble_eq_true rfl) (Nat.le_of_ble_eq_true rfl) (Nat.le_of_ble_eq_true rfl) dX0_init_15 (fun q2 => ?_)
  refine c_ws (ws' := [(h0, .inr (0, [.ref q1, .null, .null, .null, .int 0])), (q1, .inl (cyE E 0, 80, .inl (fun _ => 0))), (q2, .inl (cyE E 0, 80, .inl (fun _ => 0)))]) rfl ?_
  refine c_put 0 1 (ty := (.array .int)) hnm giX0 tyX0 tyX0_ok nmX0 rfl rfl (by decide) qc_226 rfl rfl (by decide +kernel) rfl rfl (Nat.le_of_ble_eq_true rfl) dX0_init_17 ?_
  refine c_ws (ws' := [(h0, .inr (0, [.ref q1, .ref q2, .null, .null, .int 0])), (q1, .inl (cyE E 0, 80, .inl (fun _ => 0))), (q2, .inl (cyE E 0, 80, .inl (fun _ => 0)))]) rfl ?_
  refine c_aload dX0_init_20 rfl ?_
  refine c_bipush 80 dX0_init_21 rfl ?_
  refine c_newa 0 (atype := .int) (ty := .int) (N := 80) (a0 := (80, .inl (fun _ => 0))) qa_int rfl (ra_p (fun _ _ => rfl)) (fun _ => rfl) (fun _ => rfl) (by decide) rfl (Nat.le_of_ble_eq_true rfl) (Nat.le_of_ble_eq_true rfl) (Nat.le_of_ble_eq_true rfl) dX0_init_23 (fun q3 => ?_)
  refine c_ws (ws' := [(h0, .inr (0, [.ref q1, .ref q2, .null, .null, .int 0])), (q1, .inl (cyE E 0, 80, .inl (fun _ => 0))), (q2, .inl (cyE E 0, 80, .inl (fun _ => 0))), (q3, .inl (cyE E 0, 80, .inl (fun _ => 0)))]) rfl ?_
  refine c_put 0 2 (ty := (.array .int)) hnm giX0 tyX0 tyX0_ok nmX0 rfl rfl (by decide) qc_229 rfl rfl (by decide +kernel) rfl rfl (Nat.le_of_ble_eq_true rfl) dX0_init_25 ?_
  refine c_ws (ws' := [(h0, .inr (0, [.ref q1, .ref q2, .ref q3, .null, .int 0])), (q1, .inl (cyE E 0, 80, .inl (fun _ => 0))), (q2, .inl (cyE E 0, 80, .inl (fun _ => 0))), (q3, .inl (cyE E 0, 80, .inl (fun _ => 0)))]) rfl ?_
  refine c_aload dX0_init_28 rfl ?_
  refine c_bipush 80 dX0_init_29 rfl ?_
  refine c_newa 0 (atype := .int) (ty := .int) (N := 80) (a0 := (80, .inl (fun _ => 0))) qa_int rfl (ra_p (fun _ _ => rfl)) (fun _ => rfl) (fun _ => rfl) (by decide) rfl (Nat.le_of_ble_eq_true rfl) (Nat.le_of_ble_eq_true rfl) (Nat.le_of_ble_eq_true rfl) dX0_init_31 (fun q4 => ?_)
  refine c_ws (ws' := [(h0, .inr (0, [.ref q1, .ref q2, .ref q3, .null, .int 0])), (q1, .inl (cyE E 0, 80, .inl (fun _ => 0))), (q2, .inl (cyE E 0, 80, .inl (fun _ => 0))), (q3, .inl (cyE E 0, 80, .inl (fun _ => 0))), (q4, .inl (cyE E 0, 80, .inl (fun _ => 0)))]) rfl ?_
  refine c_put 0 3 (ty := (.array .int)) hnm giX0 tyX0 tyX0_ok nmX0 rfl rfl (by decide) qc_232 rfl rfl (by decide +kernel) rfl rfl (Nat.le_of_ble_eq_true rfl) dX0_init_33 ?_
  refine c_ws (ws' := [(h0, .inr (0, [.ref q1, .ref q2, .ref q3, .ref q4, .int 0])), (q1, .inl (cyE E 0, 80, .inl (fun _ => 0))), (q2, .inl (cyE E 0, 80, .inl (fun _ => 0))), (q3, .inl (cyE E 0, 80, .inl (fun _ => 0))), (q4, .inl (cyE E 0, 80, .inl (fun _ => 0)))]) rfl ?_
  exact c_ret (fun k => [h0, q1, q2, q3, q4].getD k 0) hR (Nat.le_of_ble_eq_true rfl) (Nat.le_of_ble_eq_true rfl) rfl rfl dX0_init_36
def blk_5 (cy : Nat → ClassId) (a : Nat → Nat) : va_W := [(a 0, .inr (5, [.ref (a 1), .int 0])), (a 1, .inl (cy 3, 512, .inr (.inl (fun _ => 0))))]
set_option maxHeartbeats 4000000 in
set_option maxRecDepth 8000 in
theorem kinit_5 : MC yX5_init cX5_init 1 1 40 1 512 5 [.null, .int 0] (fun a : Nat → Nat => a 0) blk_5 := by
  refine m_C (own := RX5) (by decide +kernel) rfl rfl (by decide) (fun E h0 hR hnm => ?_)
  refine c_aload dX5_init_0 rfl ?_
  refine c_obj qc_253 qo_i qo_c (Nat.le_of_ble_eq_true rfl) (Nat.le_of_ble_eq_true rfl) dX5_init_1 ?_
  refine c_aload dX5_init_4 rfl ?_
  refine c_sipush 512 dX5_init_5 rfl ?_
  refine c_newa 3 (atype := .long) (ty := .long) (N := 512) (a0 := (512, .inr (.inl (fun _ => 0)))) qa_long rfl (ra_p (fun _ _ => rfl)) (fun _ => rfl) (fun _ => rfl) (by decide) rfl (Nat.le_of_ble_eq_true rfl) (Nat.le_of_ble_eq_true rfl) (Nat.le_of_ble_eq_true rfl) dX5_init_8 (fun q1 => ?_)
  refine c_ws (ws' := [(h0, .inr (5, [.null, .int 0])), (q1, .inl (cyE E 3, 512, .inr (.inl (fun _ => 0))))]) rfl ?_
  refine c_put 0 0 (ty := (.array .long)) hnm giX5 tyX5 tyX5_ok nmX5 rfl rfl (by decide) qc_254 rfl rfl (by decide +kernel) rfl rfl (Nat.le_of_ble_eq_true rfl) dX5_init_10 ?_
  refine c_ws (ws' := [(h0, .inr (5, [.ref q1, .int 0])), (q1, .inl (cyE E 3, 512, .inr (.inl (fun _ => 0))))]) rfl ?_
  exact c_ret (fun k => [h0, q1].getD k 0) hR (Nat.le_of_ble_eq_true rfl) (Nat.le_of_ble_eq_true rfl) rfl rfl dX5_init_13
def blk_4 (cy : Nat → ClassId) (a : Nat → Nat) : va_W := [(a 0, .inr (4, [.int 0, .ref (a 1), .ref (a 2), .ref (a 3), .ref (a 4), .ref (a 5), .ref (a 6), .int 0, .ref (a 7), .ref (a 8), .int 0])), (a 1, .inl (cy 0, 64, .inl (fun _ => 0))), (a 2, .inl (cy 0, 64, .inl (fun _ => 0))), (a 3, .inl (cy 0, 64, .inl (fun _ => 0))), (a 4, .inl (cy 0, 8, .inl (fun _ => 0))), (a 5, .inl (cy 0, 8, .inl (fun _ => 0))), (a 6, .inl (cy 0, 8, .inl (fun _ => 0))), (a 7, .inl (cy 0, 256, .inl (fun _ => 0))), (a 8, .inl (cy 0, 256, .inl (fun _ => 0)))]
set_option maxHeartbeats 4000000 in
set_option maxRecDepth 8000 in
theorem kinit_4 : MC yX4_init cX4_init 1 1 40 8 728 4 [.int 0, .null, .null, .null, .null, .null, .null, .int 0, .null, .null, .int 0] (fun a : Nat → Nat => a 0) blk_4 := by
  refine m_C (own := RX4) (by decide +kernel) rfl rfl (by decide) (fun E h0 hR hnm => ?_)
  refine c_aload dX4_init_0 rfl ?_
  refine c_obj qc_269 qo_i qo_c (Nat.le_of_ble_eq_true rfl) (Nat.le_of_ble_eq_true rfl) dX4_init_1 ?_
  refine c_aload dX4_init_4 rfl ?_
  refine c_bipush 64 dX4_init_5 rfl ?_
  refine c_newa 0 (atype := .int) (ty := .int) (N := 64) (a0 := (64, .inl (fun _ => 0))) qa_int rfl (ra_p (fun _ _ => rfl)) (fun _ => rfl) (fun _ => rfl) (by decide) rfl (Nat.le_of_ble_eq_true rfl) (Nat.le_of_ble_eq_true rfl) (Nat.le_of_ble_eq_true rfl) dX4_init_7 (fun q1 => ?_)
  refine c_ws (ws' := [(h0, .inr (4, [.int 0, .null, .null, .null, .null, .null, .null, .int 0, .null, .null, .int 0])), (q1, .inl (cyE E 0, 64, .inl (fun _ => 0)))]) rfl ?_
  refine c_put 0 1 (ty := (.array .int)) hnm giX4 tyX4 tyX4_ok nmX4 rfl rfl (by decide) qc_271 rfl rfl (by decide +kernel) rfl rfl (Nat.le_of_ble_eq_true rfl) dX4_init_9 ?_
  refine c_ws (ws' := [(h0, .inr (4, [.int 0, .ref q1, .null, .null, .null, .null, .null, .int 0, .null, .null, .int 0])), (q1, .inl (cyE E 0, 64, .inl (fun _ => 0)))]) rfl ?_
  refine c_aload dX4_init_12 rfl ?_
  refine c_bipush 64 dX4_init_13 rfl ?_
  refine c_newa 0 (atype := .int) (ty := .int) (N := 64) (a0 := (64, .inl (fun _ => 0))) qa_int rfl (ra_p (fun _ _ => rfl)) (fun _ => rfl) (fun _ => rfl) (by decide) rfl (Nat.le_of_ble_eq_true rfl) (Nat.le_of_ble_eq_true rfl) (Nat.le_of_ble_eq_true rfl) dX4_init_15 (fun q2 => ?_)
  refine c_ws (ws' := [(h0, .inr (4, [.int 0, .ref q1, .null, .null, .null, .null, .null, .int 0, .null, .null, .int 0])), (q1, .inl (cyE E 0, 64, .inl (fun _ => 0))), (q2, .inl (cyE E 0, 64, .inl (fun _ => 0)))]) rfl ?_
  refine c_put 0 2 (ty := (.array .int)) hnm giX4 tyX4 tyX4_ok nmX4 rfl rfl (by decide) qc_273 rfl rfl (by decide +kernel) rfl rfl (Nat.le_of_ble_eq_true rfl) dX4_init_17 ?_
  refine c_ws (ws' := [(h0, .inr (4, [.int 0, .ref q1, .ref q2, .null, .null, .null, .null, .int 0, .null, .null, .int 0])), (q1, .inl (cyE E 0, 64, .inl (fun _ => 0))), (q2, .inl (cyE E 0, 64, .inl (fun _ => 0)))]) rfl ?_
  refine c_aload dX4_init_20 rfl ?_
  refine c_bipush 64 dX4_init_21 rfl ?_
  refine c_newa 0 (atype := .int) (ty := .int) (N := 64) (a0 := (64, .inl (fun _ => 0))) qa_int rfl (ra_p (fun _ _ => rfl)) (fun _ => rfl) (fun _ => rfl) (by decide) rfl (Nat.le_of_ble_eq_true rfl) (Nat.le_of_ble_eq_true rfl) (Nat.le_of_ble_eq_true rfl) dX4_init_23 (fun q3 => ?_)
  refine c_ws (ws' := [(h0, .inr (4, [.int 0, .ref q1, .ref q2, .null, .null, .null, .null, .int 0, .null, .null, .int 0])), (q1, .inl (cyE E 0, 64, .inl (fun _ => 0))), (q2, .inl (cyE E 0, 64, .inl (fun _ => 0))), (q3, .inl (cyE E 0, 64, .inl (fun _ => 0)))]) rfl ?_
  refine c_put 0 3 (ty := (.array .int)) hnm giX4 tyX4 tyX4_ok nmX4 rfl rfl (by decide) qc_274 rfl rfl (by decide +kernel) rfl rfl (Nat.le_of_ble_eq_true rfl) dX4_init_25 ?_
  refine c_ws (ws' := [(h0, .inr (4, [.int 0, .ref q1, .ref q2, .ref q3, .null, .null, .null, .int 0, .null, .null, .int 0])), (q1, .inl (cyE E 0, 64, .inl (fun _ => 0))), (q2, .inl (cyE E 0, 64, .inl (fun _ => 0))), (q3, .inl (cyE E 0, 64, .inl (fun _ => 0)))]) rfl ?_
  refine c_aload dX4_init_28 rfl ?_
  refine c_bipush 8 dX4_init_29 rfl ?_
  refine c_newa 0 (atype := .int) (ty := .int) (N := 8) (a0 := (8, .inl (fun _ => 0))) qa_int rfl (ra_p (fun _ _ => rfl)) (fun _ => rfl) (fun _ => rfl) (by decide) rfl (Nat.le_of_ble_eq_true rfl) (Nat.le_of_ble_eq_true rfl) (Nat.le_of_ble_eq_true rfl) dX4_init_31 (fun q4 => ?_)
  refine c_ws (ws' := [(h0, .inr (4, [.int 0, .ref q1, .ref q2, .ref q3, .null, .null, .null, .int 0, .null, .null, .int 0])), (q1, .inl (cyE E 0, 64, .inl (fun _ => 0))), (q2, .inl (cyE E 0, 64, .inl (fun _ => 0))), (q3, .inl (cyE E 0, 64, .inl (fun _ => 0))), (q4, .inl (cyE E 0, 8, .inl (fun _ => 0)))]) rfl ?_
  refine c_put 0 4 (ty := (.array .int)) hnm giX4 tyX4 tyX4_ok nmX4 rfl rfl (by decide) qc_275 rfl rfl (by decide +kernel) rfl rfl (Nat.le_of_ble_eq_true rfl) dX4_init_33 ?_
  refine c_ws (ws' := [(h0, .inr (4, [.int 0, .ref q1, .ref q2, .ref q3, .ref q4, .null, .null, .int 0, .null, .null, .int 0])), (q1, .inl (cyE E 0, 64, .inl (fun _ => 0))), (q2, .inl (cyE E 0, 64, .inl (fun _ => 0))), (q3, .inl (cyE E 0, 64, .inl (fun _ => 0))), (q4, .inl (cyE E 0, 8, .inl (fun _ => 0)))]) rfl ?_
  refine c_aload dX4_init_36 rfl ?_
  refine c_bipush 8 dX4_init_37 rfl ?_
  refine c_newa 0 (atype := .int) (ty := .int) (N := 8) (a0 := (8, .inl (fun _ => 0))) qa_int rfl (ra_p (fun _ _ => rfl)) (fun _ => rfl) (fun _ => rfl) (by decide) rfl (Nat.le_of_ble_eq_true rfl) (Nat.le_of_ble_eq_true rfl) (Nat.le_of_ble_eq_true rfl) dX4_init_39 (fun q5 => ?_)
  refine c_ws (ws' := [(h0, .inr (4, [.int 0, .ref q1, .ref q2, .ref q3, .ref q4, .null, .null, .int 0, .null, .null, .int 0])), (q1, .inl (cyE E 0, 64, .inl (fun _ => 0))), (q2, .inl (cyE E 0, 64, .inl (fun _ => 0))), (q3, .inl (cyE E 0, 64, .inl (fun _ => 0))), (q4, .inl (cyE E 0, 8, .inl (fun _ => 0))), (q5, .inl (cyE E 0, 8, .inl (fun _ => 0)))]) rfl ?_
  refine c_put 0 5 (ty := (.array .int)) hnm giX4 tyX4 tyX4_ok nmX4 rfl rfl (by decide) qc_276 rfl rfl (by decide +kernel) rfl rfl (Nat.le_of_ble_eq_true rfl) dX4_init_41 ?_
  refine c_ws (ws' := [(h0, .inr (4, [.int 0, .ref q1, .ref q2, .ref q3, .ref q4, .ref q5, .null, .int 0, .null, .null, .int 0])), (q1, .inl (cyE E 0, 64, .inl (fun _ => 0))), (q2, .inl (cyE E 0, 64, .inl (fun _ => 0))), (q3, .inl (cyE E 0, 64, .inl (fun _ => 0))), (q4, .inl (cyE E 0, 8, .inl (fun _ => 0))), (q5, .inl (cyE E 0, 8, .inl (fun _ => 0)))]) rfl ?_
  refine c_aload dX4_init_44 rfl ?_
  refine c_bipush 8 dX4_init_45 rfl ?_
  refine c_newa 0 (atype := .int) (ty := .int) (N := 8) (a0 := (8, .inl (fun _ => 0))) qa_int rfl (ra_p (fun _ _ => rfl)) (fun _ => rfl) (fun _ => rfl) (by decide) rfl (Nat.le_of_ble_eq_true rfl) (Nat.le_of_ble_eq_true rfl) (Nat.le_of_ble_eq_true rfl) dX4_init_47 (fun q6 => ?_)
  refine c_ws (ws' := [(h0, .inr (4, [.int 0, .ref q1, .ref q2, .ref q3, .ref q4, .ref q5, .null, .int 0, .null, .null, .int 0])), (q1, .inl (cyE E 0, 64, .inl (fun _ => 0))), (q2, .inl (cyE E 0, 64, .inl (fun _ => 0))), (q3, .inl (cyE E 0, 64, .inl (fun _ => 0))), (q4, .inl (cyE E 0, 8, .inl (fun _ => 0))), (q5, .inl (cyE E 0, 8, .inl (fun _ => 0))), (q6, .inl (cyE E 0, 8, .inl (fun _ => 0)))]) rfl ?_
  refine c_put 0 6 (ty := (.array .int)) hnm giX4 tyX4 tyX4_ok nmX4 rfl rfl (by decide) qc_277 rfl rfl (by decide +kernel) rfl rfl (Nat.le_of_ble_eq_true rfl) dX4_init_49 ?_
  refine c_ws (ws' := [(h0, .inr (4, [.int 0, .ref q1, .ref q2, .ref q3, .ref q4, .ref q5, .ref q6, .int 0, .null, .null, .int 0])), (q1, .inl (cyE E 0, 64, .inl (fun _ => 0))), (q2, .inl (cyE E 0, 64, .inl (fun _ => 0))), (q3, .inl (cyE E 0, 64, .inl (fun _ => 0))), (q4, .inl (cyE E 0, 8, .inl (fun _ => 0))), (q5, .inl (cyE E 0, 8, .inl (fun _ => 0))), (q6, .inl (cyE E 0, 8, .inl (fun _ => 0)))]) rfl ?_
  refine c_aload dX4_init_52 rfl ?_
  refine c_sipush 256 dX4_init_53 rfl ?_
  refine c_newa 0 (atype := .int) (ty := .int) (N := 256) (a0 := (256, .inl (fun _ => 0))) qa_int rfl (ra_p (fun _ _ => rfl)) (fun _ => rfl) (fun _ => rfl) (by decide) rfl (Nat.le_of_ble_eq_true rfl) (Nat.le_of_ble_eq_true rfl) (Nat.le_of_ble_eq_true rfl) dX4_init_56 (fun q7 => ?_)
  refine c_ws (ws' := [(h0, .inr (4, [.int 0, .ref q1, .ref q2, .ref q3, .ref q4, .ref q5, .ref q6, .int 0, .null, .null, .int 0])), (q1, .inl (cyE E 0, 64, .inl (fun _ => 0))), (q2, .inl (cyE E 0, 64, .inl (fun _ => 0))), (q3, .inl (cyE E 0, 64, .inl (fun _ => 0))), (q4, .inl (cyE E 0, 8, .inl (fun _ => 0))), (q5, .inl (cyE E 0, 8, .inl (fun _ => 0))), (q6, .inl (cyE E 0, 8, .inl (fun _ => 0))), (q7, .inl (cyE E 0, 256, .inl (fun _ => 0)))]) rfl ?_
  refine c_put 0 8 (ty := (.array .int)) hnm giX4 tyX4 tyX4_ok nmX4 rfl rfl (by decide) qc_280 rfl rfl (by decide +kernel) rfl rfl (Nat.le_of_ble_eq_true rfl) dX4_init_58 ?_
  refine c_ws (ws' := [(h0, .inr (4, [.int 0, .ref q1, .ref q2, .ref q3, .ref q4, .ref q5, .ref q6, .int 0, .ref q7, .null, .int 0])), (q1, .inl (cyE E 0, 64, .inl (fun _ => 0))), (q2, .inl (cyE E 0, 64, .inl (fun _ => 0))), (q3, .inl (cyE E 0, 64, .inl (fun _ => 0))), (q4, .inl (cyE E 0, 8, .inl (fun _ => 0))), (q5, .inl (cyE E 0, 8, .inl (fun _ => 0))), (q6, .inl (cyE E 0, 8, .inl (fun _ => 0))), (q7, .inl (cyE E 0, 256, .inl (fun _ => 0)))]) rfl ?_
  refine c_aload dX4_init_61 rfl ?_
  refine c_sipush 256 dX4_init_62 rfl ?_
  refine c_newa 0 (atype := .int) (ty := .int) (N := 256) (a0 := (256, .inl (fun _ => 0))) qa_int rfl (ra_p (fun _ _ => rfl)) (fun _ => rfl) (fun _ => rfl) (by decide) rfl (Nat.le_of_ble_eq_true rfl) (Nat.le_of_ble_eq_true rfl) (Nat.le_of_ble_eq_true rfl) dX4_init_65 (fun q8 => ?_)
  refine c_ws (ws' := [(h0, .inr (4, [.int 0, .ref q1, .ref q2, .ref q3, .ref q4, .ref q5, .ref q6, .int 0, .ref q7, .null, .int 0])), (q1, .inl (cyE E 0, 64, .inl (fun _ => 0))), (q2, .inl (cyE E 0, 64, .inl (fun _ => 0))), (q3, .inl (cyE E 0, 64, .inl (fun _ => 0))), (q4, .inl (cyE E 0, 8, .inl (fun _ => 0))), (q5, .inl (cyE E 0, 8, .inl (fun _ => 0))), (q6, .inl (cyE E 0, 8, .inl (fun _ => 0))), (q7, .inl (cyE E 0, 256, .inl (fun _ => 0))), (q8, .inl (cyE E 0, 256, .inl (fun _ => 0)))]) rfl ?_
  refine c_put 0 9 (ty := (.array .int)) hnm giX4 tyX4 tyX4_ok nmX4 rfl rfl (by decide) qc_282 rfl rfl (by decide +kernel) rfl rfl (Nat.le_of_ble_eq_true rfl) dX4_init_67 ?_
  refine c_ws (ws' := [(h0, .inr (4, [.int 0, .ref q1, .ref q2, .ref q3, .ref q4, .ref q5, .ref q6, .int 0, .ref q7, .ref q8, .int 0])), (q1, .inl (cyE E 0, 64, .inl (fun _ => 0))), (q2, .inl (cyE E 0, 64, .inl (fun _ => 0))), (q3, .inl (cyE E 0, 64, .inl (fun _ => 0))), (q4, .inl (cyE E 0, 8, .inl (fun _ => 0))), (q5, .inl (cyE E 0, 8, .inl (fun _ => 0))), (q6, .inl (cyE E 0, 8, .inl (fun _ => 0))), (q7, .inl (cyE E 0, 256, .inl (fun _ => 0))), (q8, .inl (cyE E 0, 256, .inl (fun _ => 0)))]) rfl ?_
  exact c_ret (fun k => [h0, q1, q2, q3, q4, q5, q6, q7, q8].getD k 0) hR (Nat.le_of_ble_eq_true rfl) (Nat.le_of_ble_eq_true rfl) rfl rfl dX4_init_70
def blk_8 (cy : Nat → ClassId) (S : (Nat → Nat) × (Nat → Nat)) : va_W := [((S.1 0), .inr (8, [.ref (S.1 1), .ref (S.1 2), .ref (S.1 3), .int 0])), ((S.1 1), .inl (cy 6, 5, .inr (.inr (.inr (.inr (fun i => if i < 5 then some (S.2 i) else none)))))), (S.2 0, .inl (cy 0, 64, .inl (fun _ => 0))), (S.2 1, .inl (cy 0, 64, .inl (fun _ => 0))), (S.2 2, .inl (cy 0, 64, .inl (fun _ => 0))), (S.2 3, .inl (cy 0, 64, .inl (fun _ => 0))), (S.2 4, .inl (cy 0, 64, .inl (fun _ => 0))), ((S.1 2), .inl (cy 0, 5, .inl (fun _ => 0))), ((S.1 3), .inl (cy 0, 5, .inl (fun _ => 0)))]
set_option maxHeartbeats 4000000 in
set_option maxRecDepth 8000 in
theorem kinit_8 : MC yX8_init cX8_init 1 1 40 8 335 8 [.null, .null, .null, .int 0] (fun S : (Nat → Nat) × (Nat → Nat) => S.1 0) blk_8 := by
  refine m_C (own := RX8) (by decide +kernel) rfl rfl (by decide) (fun E h0 hR hnm => ?_)
  refine c_aload dX8_init_0 rfl ?_
  refine c_obj qc_314 qo_i qo_c (Nat.le_of_ble_eq_true rfl) (Nat.le_of_ble_eq_true rfl) dX8_init_1 ?_
  refine c_aload dX8_init_4 rfl ?_
  refine c_iconst 5 dX8_init_5 rfl ?_
  refine c_bipush 64 dX8_init_6 rfl ?_
  refine c_mna qc_315 qa_int (Nat.le_of_ble_eq_true rfl) (Nat.le_of_ble_eq_true rfl) dX8_init_8 (fun q1 r => ?_)
  refine c_put 0 0 (ty := (.array (.array .int))) hnm giX8 tyX8 tyX8_ok nmX8 rfl rfl (by decide) qc_317 rfl rfl (by decide +kernel) rfl rfl (Nat.le_of_ble_eq_true rfl) dX8_init_12 ?_
  refine c_ws (ws' := [(h0, .inr (8, [.ref q1, .null, .null, .int 0])), (q1, .inl (cyE E 6, 5, .inr (.inr (.inr (.inr (fun i => if i < 5 then some (r i) else none)))))), (r 0, .inl (cyE E 0, 64, .inl (fun _ => 0))), (r 1, .inl (cyE E 0, 64, .inl (fun _ => 0))), (r 2, .inl (cyE E 0, 64, .inl (fun _ => 0))), (r 3, .inl (cyE E 0, 64, .inl (fun _ => 0))), (r 4, .inl (cyE E 0, 64, .inl (fun _ => 0)))]) rfl ?_
  refine c_aload dX8_init_15 rfl ?_
  refine c_iconst 5 dX8_init_16 rfl ?_
  refine c_newa 0 (atype := .int) (ty := .int) (N := 5) (a0 := (5, .inl (fun _ => 0))) qa_int rfl (ra_p (fun _ _ => rfl)) (fun _ => rfl) (fun _ => rfl) (by decide) rfl (Nat.le_of_ble_eq_true rfl) (Nat.le_of_ble_eq_true rfl) (Nat.le_of_ble_eq_true rfl) dX8_init_17 (fun q2 => ?_)
  refine c_ws (ws' := [(h0, .inr (8, [.ref q1, .null, .null, .int 0])), (q1, .inl (cyE E 6, 5, .inr (.inr (.inr (.inr (fun i => if i < 5 then some (r i) else none)))))), (r 0, .inl (cyE E 0, 64, .inl (fun _ => 0))), (r 1, .inl (cyE E 0, 64, .inl (fun _ => 0))), (r 2, .inl (cyE E 0, 64, .inl (fun _ => 0))), (r 3, .inl (cyE E 0, 64, .inl (fun _ => 0))), (r 4, .inl (cyE E 0, 64, .inl (fun _ => 0))), (q2, .inl (cyE E 0, 5, .inl (fun _ => 0)))]) rfl ?_
  refine c_put 0 1 (ty := (.array .int)) hnm giX8 tyX8 tyX8_ok nmX8 rfl rfl (by decide) qc_318 rfl rfl (by decide +kernel) rfl rfl (Nat.le_of_ble_eq_true rfl) dX8_init_19 ?_
  refine c_ws (ws' := [(h0, .inr (8, [.ref q1, .ref q2, .null, .int 0])), (q1, .inl (cyE E 6, 5, .inr (.inr (.inr (.inr (fun i => if i < 5 then some (r i) else none)))))), (r 0, .inl (cyE E 0, 64, .inl (fun _ => 0))), (r 1, .inl (cyE E 0, 64, .inl (fun _ => 0))), (r 2, .inl (cyE E 0, 64, .inl (fun _ => 0))), (r 3, .inl (cyE E 0, 64, .inl (fun _ => 0))), (r 4, .inl (cyE E 0, 64, .inl (fun _ => 0))), (q2, .inl (cyE E 0, 5, .inl (fun _ => 0)))]) rfl ?_
  refine c_aload dX8_init_22 rfl ?_
  refine c_iconst 5 dX8_init_23 rfl ?_
  refine c_newa 0 (atype := .int) (ty := .int) (N := 5) (a0 := (5, .inl (fun _ => 0))) qa_int rfl (ra_p (fun _ _ => rfl)) (fun _ => rfl) (fun _ => rfl) (by decide) rfl (Nat.le_of_ble_eq_true rfl) (Nat.le_of_ble_eq_true rfl) (Nat.le_of_ble_eq_true rfl) dX8_init_24 (fun q3 => ?_)
  refine c_ws (ws' := [(h0, .inr (8, [.ref q1, .ref q2, .null, .int 0])), (q1, .inl (cyE E 6, 5, .inr (.inr (.inr (.inr (fun i => if i < 5 then some (r i) else none)))))), (r 0, .inl (cyE E 0, 64, .inl (fun _ => 0))), (r 1, .inl (cyE E 0, 64, .inl (fun _ => 0))), (r 2, .inl (cyE E 0, 64, .inl (fun _ => 0))), (r 3, .inl (cyE E 0, 64, .inl (fun _ => 0))), (r 4, .inl (cyE E 0, 64, .inl (fun _ => 0))), (q2, .inl (cyE E 0, 5, .inl (fun _ => 0))), (q3, .inl (cyE E 0, 5, .inl (fun _ => 0)))]) rfl ?_
  refine c_put 0 2 (ty := (.array .int)) hnm giX8 tyX8 tyX8_ok nmX8 rfl rfl (by decide) qc_319 rfl rfl (by decide +kernel) rfl rfl (Nat.le_of_ble_eq_true rfl) dX8_init_26 ?_
  refine c_ws (ws' := [(h0, .inr (8, [.ref q1, .ref q2, .ref q3, .int 0])), (q1, .inl (cyE E 6, 5, .inr (.inr (.inr (.inr (fun i => if i < 5 then some (r i) else none)))))), (r 0, .inl (cyE E 0, 64, .inl (fun _ => 0))), (r 1, .inl (cyE E 0, 64, .inl (fun _ => 0))), (r 2, .inl (cyE E 0, 64, .inl (fun _ => 0))), (r 3, .inl (cyE E 0, 64, .inl (fun _ => 0))), (r 4, .inl (cyE E 0, 64, .inl (fun _ => 0))), (q2, .inl (cyE E 0, 5, .inl (fun _ => 0))), (q3, .inl (cyE E 0, 5, .inl (fun _ => 0)))]) rfl ?_
  exact c_ret ((fun k => [h0, q1, q2, q3].getD k 0), r) hR (Nat.le_of_ble_eq_true rfl) (Nat.le_of_ble_eq_true rfl) rfl rfl dX8_init_29
def blk_7 (cy : Nat → ClassId) (a : Nat → Nat) : va_W := [(a 0, .inr (7, [.ref (a 1), .ref (a 2), .ref (a 3), .int 0, .int 0])), (a 1, .inl (cy 0, 8, .inl (fun _ => 0))), (a 2, .inl (cy 0, 8, .inl (fun _ => 0))), (a 3, .inl (cy 0, 8, .inl (fun _ => 0)))]
set_option maxHeartbeats 4000000 in
set_option maxRecDepth 8000 in
theorem kinit_7 : MC yX7_init cX7_init 1 1 40 3 24 7 [.null, .null, .null, .int 0, .int 0] (fun a : Nat → Nat => a 0) blk_7 := by
  refine m_C (own := RX7) (by decide +kernel) rfl rfl (by decide) (fun E h0 hR hnm => ?_)
  refine c_aload dX7_init_0 rfl ?_
  refine c_obj qc_337 qo_i qo_c (Nat.le_of_ble_eq_true rfl) (Nat.le_of_ble_eq_true rfl) dX7_init_1 ?_
  refine c_aload dX7_init_4 rfl ?_
  refine c_bipush 8 dX7_init_5 rfl ?_
  refine c_newa 0 (atype := .int) (ty := .int) (N := 8) (a0 := (8, .inl (fun _ => 0))) qa_int rfl (ra_p (fun _ _ => rfl)) (fun _ => rfl) (fun _ => rfl) (by decide) rfl (Nat.le_of_ble_eq_true rfl) (Nat.le_of_ble_eq_true rfl) (Nat.le_of_ble_eq_true rfl) dX7_init_7 (fun q1 => ?_)
  refine c_ws (ws' := [(h0, .inr (7, [.null, .null, .null, .int 0, .int 0])), (q1, .inl (cyE E 0, 8, .inl (fun _ => 0)))]) rfl ?_
  refine c_put 0 0 (ty := (.array .int)) hnm giX7 tyX7 tyX7_ok nmX7 rfl rfl (by decide) qc_338 rfl rfl (by decide +kernel) rfl rfl (Nat.le_of_ble_eq_true rfl) dX7_init_9 ?_
  refine c_ws (ws' := [(h0, .inr (7, [.ref q1, .null, .null, .int 0, .int 0])), (q1, .inl (cyE E 0, 8, .inl (fun _ => 0)))]) rfl ?_
  refine c_aload dX7_init_12 rfl ?_
  refine c_bipush 8 dX7_init_13 rfl ?_
  refine c_newa 0 (atype := .int) (ty := .int) (N := 8) (a0 := (8, .inl (fun _ => 0))) qa_int rfl (ra_p (fun _ _ => rfl)) (fun _ => rfl) (fun _ => rfl) (by decide) rfl (Nat.le_of_ble_eq_true rfl) (Nat.le_of_ble_eq_true rfl) (Nat.le_of_ble_eq_true rfl) dX7_init_15 (fun q2 => ?_)
  refine c_ws (ws' := [(h0, .inr (7, [.ref q1, .null, .null, .int 0, .int 0])), (q1, .inl (cyE E 0, 8, .inl (fun _ => 0))), (q2, .inl (cyE E 0, 8, .inl (fun _ => 0)))]) rfl ?_
  refine c_put 0 1 (ty := (.array .int)) hnm giX7 tyX7 tyX7_ok nmX7 rfl rfl (by decide) qc_339 rfl rfl (by decide +kernel) rfl rfl (Nat.le_of_ble_eq_true rfl) dX7_init_17 ?_
  refine c_ws (ws' := [(h0, .inr (7, [.ref q1, .ref q2, .null, .int 0, .int 0])), (q1, .inl (cyE E 0, 8, .inl (fun _ => 0))), (q2, .inl (cyE E 0, 8, .inl (fun _ => 0)))]) rfl ?_
  refine c_aload dX7_init_20 rfl ?_
  refine c_bipush 8 dX7_init_21 rfl ?_
  refine c_newa 0 (atype := .int) (ty := .int) (N := 8) (a0 := (8, .inl (fun _ => 0))) qa_int rfl (ra_p (fun _ _ => rfl)) (fun _ => rfl) (fun _ => rfl) (by decide) rfl (Nat.le_of_ble_eq_true rfl) (Nat.le_of_ble_eq_true rfl) (Nat.le_of_ble_eq_true rfl) dX7_init_23 (fun q3 => ?_)
  refine c_ws (ws' := [(h0, .inr (7, [.ref q1, .ref q2, .null, .int 0, .int 0])), (q1, .inl (cyE E 0, 8, .inl (fun _ => 0))), (q2, .inl (cyE E 0, 8, .inl (fun _ => 0))), (q3, .inl (cyE E 0, 8, .inl (fun _ => 0)))]) rfl ?_
  refine c_put 0 2 (ty := (.array .int)) hnm giX7 tyX7 tyX7_ok nmX7 rfl rfl (by decide) qc_340 rfl rfl (by decide +kernel) rfl rfl (Nat.le_of_ble_eq_true rfl) dX7_init_25 ?_
  refine c_ws (ws' := [(h0, .inr (7, [.ref q1, .ref q2, .ref q3, .int 0, .int 0])), (q1, .inl (cyE E 0, 8, .inl (fun _ => 0))), (q2, .inl (cyE E 0, 8, .inl (fun _ => 0))), (q3, .inl (cyE E 0, 8, .inl (fun _ => 0)))]) rfl ?_
  exact c_ret (fun k => [h0, q1, q2, q3].getD k 0) hR (Nat.le_of_ble_eq_true rfl) (Nat.le_of_ble_eq_true rfl) rfl rfl dX7_init_28
def blk_2 (cy : Nat → ClassId) (a : Nat → Nat) : va_W := [(a 0, .inr (2, [.int 0, .int 0, .int 0, .int 0]))]
set_option maxHeartbeats 4000000 in
set_option maxRecDepth 8000 in
theorem kinit_2 : MC yX2_init cX2_init 1 1 40 0 0 2 [.int 0, .int 0, .int 0, .int 0] (fun a : Nat → Nat => a 0) blk_2 := by
  refine m_C (own := RX2) (by decide +kernel) rfl rfl (by decide) (fun E h0 hR hnm => ?_)
  refine c_aload dX2_init_0 rfl ?_
  refine c_obj qc_361 qo_i qo_c (Nat.le_of_ble_eq_true rfl) (Nat.le_of_ble_eq_true rfl) dX2_init_1 ?_
  exact c_ret (fun k => [h0].getD k 0) hR (Nat.le_of_ble_eq_true rfl) (Nat.le_of_ble_eq_true rfl) rfl rfl dX2_init_4
def blk_6 (cy : Nat → ClassId) (S : (Nat → Nat) × (Nat → Nat → Nat)) : va_W := ((((((((([((S.1 0), .inr (6, [.ref (S.1 1), .int 0]))] ++ [((S.1 1), .inl (cy 4, 8, .inr (.inr (.inr (.inr (va_up (va_up (va_up (va_up (va_up (va_up (va_up (va_up (fun _ => none) 0 (some ((S.2 0) 0))) 1 (some ((S.2 1) 0))) 2 (some ((S.2 2) 0))) 3 (some ((S.2 3) 0))) 4 (some ((S.2 4) 0))) 5 (some ((S.2 5) 0))) 6 (some ((S.2 6) 0))) 7 (some ((S.2 7) 0))))))))]) ++ blk_1 cy (S.2 0)) ++ blk_1 cy (S.2 1)) ++ blk_1 cy (S.2 2)) ++ blk_1 cy (S.2 3)) ++ blk_1 cy (S.2 4)) ++ blk_1 cy (S.2 5)) ++ blk_1 cy (S.2 6)) ++ blk_1 cy (S.2 7))
set_option maxHeartbeats 4000000 in
set_option maxRecDepth 8000 in
theorem kinit_6 : MC yX6_init cX6_init 2 3 81 105 3344 6 [.null, .int 0] (fun S : (Nat → Nat) × (Nat → Nat → Nat) => S.1 0) blk_6 := by
  refine m_C (own := RX6) (by decide +kernel) rfl rfl (by decide) (fun E h0 hR hnm => ?_)
  refine c_aload dX6_init_0 rfl ?_
  refine c_obj qc_191 qo_i qo_c (Nat.le_of_ble_eq_true rfl) (Nat.le_of_ble_eq_true rfl) dX6_init_1 ?_
  refine c_aload dX6_init_4 rfl ?_
  refine c_bipush 8 dX6_init_5 rfl ?_
  refine c_newq 4 (C := "TrustClub$Books") (N := 8) qc_192 (fun _ h => h.1) (fun _ => rfl) (by decide) rfl (Nat.le_of_ble_eq_true rfl) (Nat.le_of_ble_eq_true rfl) (Nat.le_of_ble_eq_true rfl) dX6_init_7 (fun q1 => ?_)
  refine c_ws (ws' := ([(h0, .inr (6, [.null, .int 0]))] ++ [(q1, .inl (cyE E 4, 8, .inr (.inr (.inr (.inr (fun _ => none))))))])) rfl ?_
  refine c_put 0 0 (ty := (.array (.object "TrustClub$Books"))) hnm giX6 tyX6 tyX6_ok nmX6 rfl rfl (by decide) qc_194 rfl rfl (by decide +kernel) rfl rfl (Nat.le_of_ble_eq_true rfl) dX6_init_10 ?_
  refine c_ws (ws' := ([(h0, .inr (6, [.ref q1, .int 0]))] ++ [(q1, .inl (cyE E 4, 8, .inr (.inr (.inr (.inr (fun _ => none))))))])) rfl ?_
  refine c_iconst 0 dX6_init_13 rfl ?_
  refine c_istore (lv' := [(1, .int 0), (0, .ref h0)]) dX6_init_14 (by decide) rfl ?_
  refine c_iload dX6_init_15 rfl ?_
  refine c_bipush 8 dX6_init_16 rfl ?_
  refine c_geN (tgt := 40) dX6_init_18 (by decide) (by decide) ?_
  refine c_aload1 dX6_init_21 rfl ?_
  refine c_get 0 0 giX6 rfl rfl (by decide) qc_194 rfl rfl dX6_init_22 ?_
  refine c_iload dX6_init_25 rfl ?_
  refine c_new (ci := 1) (fs := [.int 0, .null, .null, .null, .null]) giX1 tyX1 tyX1_ok qc_192 qc_127 qc_95 rfl dfX1 (Nat.le_of_ble_eq_true rfl) (Nat.le_of_ble_eq_true rfl) dX6_init_26 (fun q2 => ?_)
  refine c_dup dX6_init_29 ?_
  refine c_call kinit_1 cwi_6_17 (Nat.le_of_ble_eq_true rfl) (Nat.le_of_ble_eq_true rfl) (Nat.le_of_ble_eq_true rfl) (Nat.le_of_ble_eq_true rfl) (Nat.le_of_ble_eq_true rfl) dX6_init_30 (fun a2 ea2 => ?_)
  subst ea2
  refine c_ws (ws' := (([(h0, .inr (6, [.ref q1, .int 0]))] ++ [(q1, .inl (cyE E 4, 8, .inr (.inr (.inr (.inr (fun _ => none))))))]) ++ blk_1 (cyE E) a2)) rfl ?_
  refine c_aast 1 4 2 1 0 rfl (fun _ => rfl) rfl rfl (by unfold vp_in; decide) rfl dX6_init_33 ?_
  refine c_ws (ws' := (([(h0, .inr (6, [.ref q1, .int 0]))] ++ [(q1, .inl (cyE E 4, 8, .inr (.inr (.inr (.inr (va_up (fun _ => none) 0 (some (a2 0))))))))]) ++ blk_1 (cyE E) a2)) rfl ?_
  refine c_iinc (v := 1) (lv' := [(1, .int 1), (0, .ref h0)]) dX6_init_34 rfl (by decide) (by decide) rfl ?_
  refine c_goto (tgt := 15) dX6_init_37 (by decide) ?_
  refine c_iload dX6_init_15 rfl ?_
  refine c_bipush 8 dX6_init_16 rfl ?_
  refine c_geN (tgt := 40) dX6_init_18 (by decide) (by decide) ?_
  refine c_aload1 dX6_init_21 rfl ?_
  refine c_get 0 0 giX6 rfl rfl (by decide) qc_194 rfl rfl dX6_init_22 ?_
  refine c_iload dX6_init_25 rfl ?_
  refine c_new (ci := 1) (fs := [.int 0, .null, .null, .null, .null]) giX1 tyX1 tyX1_ok qc_192 qc_127 qc_95 rfl dfX1 (Nat.le_of_ble_eq_true rfl) (Nat.le_of_ble_eq_true rfl) dX6_init_26 (fun q3 => ?_)
  refine c_dup dX6_init_29 ?_
  refine c_call kinit_1 cwi_6_17 (Nat.le_of_ble_eq_true rfl) (Nat.le_of_ble_eq_true rfl) (Nat.le_of_ble_eq_true rfl) (Nat.le_of_ble_eq_true rfl) (Nat.le_of_ble_eq_true rfl) dX6_init_30 (fun a3 ea3 => ?_)
  subst ea3
  refine c_ws (ws' := ((([(h0, .inr (6, [.ref q1, .int 0]))] ++ [(q1, .inl (cyE E 4, 8, .inr (.inr (.inr (.inr (va_up (fun _ => none) 0 (some (a2 0))))))))]) ++ blk_1 (cyE E) a2) ++ blk_1 (cyE E) a3)) rfl ?_
  refine c_aast 1 4 15 1 1 rfl (fun _ => rfl) rfl rfl (by unfold vp_in; decide) rfl dX6_init_33 ?_
  refine c_ws (ws' := ((([(h0, .inr (6, [.ref q1, .int 0]))] ++ [(q1, .inl (cyE E 4, 8, .inr (.inr (.inr (.inr (va_up (va_up (fun _ => none) 0 (some (a2 0))) 1 (some (a3 0))))))))]) ++ blk_1 (cyE E) a2) ++ blk_1 (cyE E) a3)) rfl ?_
  refine c_iinc (v := 2) (lv' := [(1, .int 2), (0, .ref h0)]) dX6_init_34 rfl (by decide) (by decide) rfl ?_
  refine c_goto (tgt := 15) dX6_init_37 (by decide) ?_
  refine c_iload dX6_init_15 rfl ?_
  refine c_bipush 8 dX6_init_16 rfl ?_
  refine c_geN (tgt := 40) dX6_init_18 (by decide) (by decide) ?_
  refine c_aload1 dX6_init_21 rfl ?_
  refine c_get 0 0 giX6 rfl rfl (by decide) qc_194 rfl rfl dX6_init_22 ?_
  refine c_iload dX6_init_25 rfl ?_
  refine c_new (ci := 1) (fs := [.int 0, .null, .null, .null, .null]) giX1 tyX1 tyX1_ok qc_192 qc_127 qc_95 rfl dfX1 (Nat.le_of_ble_eq_true rfl) (Nat.le_of_ble_eq_true rfl) dX6_init_26 (fun q4 => ?_)
  refine c_dup dX6_init_29 ?_
  refine c_call kinit_1 cwi_6_17 (Nat.le_of_ble_eq_true rfl) (Nat.le_of_ble_eq_true rfl) (Nat.le_of_ble_eq_true rfl) (Nat.le_of_ble_eq_true rfl) (Nat.le_of_ble_eq_true rfl) dX6_init_30 (fun a4 ea4 => ?_)
  subst ea4
  refine c_ws (ws' := (((([(h0, .inr (6, [.ref q1, .int 0]))] ++ [(q1, .inl (cyE E 4, 8, .inr (.inr (.inr (.inr (va_up (va_up (fun _ => none) 0 (some (a2 0))) 1 (some (a3 0))))))))]) ++ blk_1 (cyE E) a2) ++ blk_1 (cyE E) a3) ++ blk_1 (cyE E) a4)) rfl ?_
  refine c_aast 1 4 28 1 2 rfl (fun _ => rfl) rfl rfl (by unfold vp_in; decide) rfl dX6_init_33 ?_
  refine c_ws (ws' := (((([(h0, .inr (6, [.ref q1, .int 0]))] ++ [(q1, .inl (cyE E 4, 8, .inr (.inr (.inr (.inr (va_up (va_up (va_up (fun _ => none) 0 (some (a2 0))) 1 (some (a3 0))) 2 (some (a4 0))))))))]) ++ blk_1 (cyE E) a2) ++ blk_1 (cyE E) a3) ++ blk_1 (cyE E) a4)) rfl ?_
  refine c_iinc (v := 3) (lv' := [(1, .int 3), (0, .ref h0)]) dX6_init_34 rfl (by decide) (by decide) rfl ?_
  refine c_goto (tgt := 15) dX6_init_37 (by decide) ?_
  refine c_iload dX6_init_15 rfl ?_
  refine c_bipush 8 dX6_init_16 rfl ?_
  refine c_geN (tgt := 40) dX6_init_18 (by decide) (by decide) ?_
  refine c_aload1 dX6_init_21 rfl ?_
  refine c_get 0 0 giX6 rfl rfl (by decide) qc_194 rfl rfl dX6_init_22 ?_
  refine c_iload dX6_init_25 rfl ?_
  refine c_new (ci := 1) (fs := [.int 0, .null, .null, .null, .null]) giX1 tyX1 tyX1_ok qc_192 qc_127 qc_95 rfl dfX1 (Nat.le_of_ble_eq_true rfl) (Nat.le_of_ble_eq_true rfl) dX6_init_26 (fun q5 => ?_)
  refine c_dup dX6_init_29 ?_
  refine c_call kinit_1 cwi_6_17 (Nat.le_of_ble_eq_true rfl) (Nat.le_of_ble_eq_true rfl) (Nat.le_of_ble_eq_true rfl) (Nat.le_of_ble_eq_true rfl) (Nat.le_of_ble_eq_true rfl) dX6_init_30 (fun a5 ea5 => ?_)
  subst ea5
  refine c_ws (ws' := ((((([(h0, .inr (6, [.ref q1, .int 0]))] ++ [(q1, .inl (cyE E 4, 8, .inr (.inr (.inr (.inr (va_up (va_up (va_up (fun _ => none) 0 (some (a2 0))) 1 (some (a3 0))) 2 (some (a4 0))))))))]) ++ blk_1 (cyE E) a2) ++ blk_1 (cyE E) a3) ++ blk_1 (cyE E) a4) ++ blk_1 (cyE E) a5)) rfl ?_
  refine c_aast 1 4 41 1 3 rfl (fun _ => rfl) rfl rfl (by unfold vp_in; decide) rfl dX6_init_33 ?_
  refine c_ws (ws' := ((((([(h0, .inr (6, [.ref q1, .int 0]))] ++ [(q1, .inl (cyE E 4, 8, .inr (.inr (.inr (.inr (va_up (va_up (va_up (va_up (fun _ => none) 0 (some (a2 0))) 1 (some (a3 0))) 2 (some (a4 0))) 3 (some (a5 0))))))))]) ++ blk_1 (cyE E) a2) ++ blk_1 (cyE E) a3) ++ blk_1 (cyE E) a4) ++ blk_1 (cyE E) a5)) rfl ?_
  refine c_iinc (v := 4) (lv' := [(1, .int 4), (0, .ref h0)]) dX6_init_34 rfl (by decide) (by decide) rfl ?_
  refine c_goto (tgt := 15) dX6_init_37 (by decide) ?_
  refine c_iload dX6_init_15 rfl ?_
  refine c_bipush 8 dX6_init_16 rfl ?_
  refine c_geN (tgt := 40) dX6_init_18 (by decide) (by decide) ?_
  refine c_aload1 dX6_init_21 rfl ?_
  refine c_get 0 0 giX6 rfl rfl (by decide) qc_194 rfl rfl dX6_init_22 ?_
  refine c_iload dX6_init_25 rfl ?_
  refine c_new (ci := 1) (fs := [.int 0, .null, .null, .null, .null]) giX1 tyX1 tyX1_ok qc_192 qc_127 qc_95 rfl dfX1 (Nat.le_of_ble_eq_true rfl) (Nat.le_of_ble_eq_true rfl) dX6_init_26 (fun q6 => ?_)
  refine c_dup dX6_init_29 ?_
  refine c_call kinit_1 cwi_6_17 (Nat.le_of_ble_eq_true rfl) (Nat.le_of_ble_eq_true rfl) (Nat.le_of_ble_eq_true rfl) (Nat.le_of_ble_eq_true rfl) (Nat.le_of_ble_eq_true rfl) dX6_init_30 (fun a6 ea6 => ?_)
  subst ea6
  refine c_ws (ws' := (((((([(h0, .inr (6, [.ref q1, .int 0]))] ++ [(q1, .inl (cyE E 4, 8, .inr (.inr (.inr (.inr (va_up (va_up (va_up (va_up (fun _ => none) 0 (some (a2 0))) 1 (some (a3 0))) 2 (some (a4 0))) 3 (some (a5 0))))))))]) ++ blk_1 (cyE E) a2) ++ blk_1 (cyE E) a3) ++ blk_1 (cyE E) a4) ++ blk_1 (cyE E) a5) ++ blk_1 (cyE E) a6)) rfl ?_
  refine c_aast 1 4 54 1 4 rfl (fun _ => rfl) rfl rfl (by unfold vp_in; decide) rfl dX6_init_33 ?_
  refine c_ws (ws' := (((((([(h0, .inr (6, [.ref q1, .int 0]))] ++ [(q1, .inl (cyE E 4, 8, .inr (.inr (.inr (.inr (va_up (va_up (va_up (va_up (va_up (fun _ => none) 0 (some (a2 0))) 1 (some (a3 0))) 2 (some (a4 0))) 3 (some (a5 0))) 4 (some (a6 0))))))))]) ++ blk_1 (cyE E) a2) ++ blk_1 (cyE E) a3) ++ blk_1 (cyE E) a4) ++ blk_1 (cyE E) a5) ++ blk_1 (cyE E) a6)) rfl ?_
  refine c_iinc (v := 5) (lv' := [(1, .int 5), (0, .ref h0)]) dX6_init_34 rfl (by decide) (by decide) rfl ?_
  refine c_goto (tgt := 15) dX6_init_37 (by decide) ?_
  refine c_iload dX6_init_15 rfl ?_
  refine c_bipush 8 dX6_init_16 rfl ?_
  refine c_geN (tgt := 40) dX6_init_18 (by decide) (by decide) ?_
  refine c_aload1 dX6_init_21 rfl ?_
  refine c_get 0 0 giX6 rfl rfl (by decide) qc_194 rfl rfl dX6_init_22 ?_
  refine c_iload dX6_init_25 rfl ?_
  refine c_new (ci := 1) (fs := [.int 0, .null, .null, .null, .null]) giX1 tyX1 tyX1_ok qc_192 qc_127 qc_95 rfl dfX1 (Nat.le_of_ble_eq_true rfl) (Nat.le_of_ble_eq_true rfl) dX6_init_26 (fun q7 => ?_)
  refine c_dup dX6_init_29 ?_
  refine c_call kinit_1 cwi_6_17 (Nat.le_of_ble_eq_true rfl) (Nat.le_of_ble_eq_true rfl) (Nat.le_of_ble_eq_true rfl) (Nat.le_of_ble_eq_true rfl) (Nat.le_of_ble_eq_true rfl) dX6_init_30 (fun a7 ea7 => ?_)
  subst ea7
  refine c_ws (ws' := ((((((([(h0, .inr (6, [.ref q1, .int 0]))] ++ [(q1, .inl (cyE E 4, 8, .inr (.inr (.inr (.inr (va_up (va_up (va_up (va_up (va_up (fun _ => none) 0 (some (a2 0))) 1 (some (a3 0))) 2 (some (a4 0))) 3 (some (a5 0))) 4 (some (a6 0))))))))]) ++ blk_1 (cyE E) a2) ++ blk_1 (cyE E) a3) ++ blk_1 (cyE E) a4) ++ blk_1 (cyE E) a5) ++ blk_1 (cyE E) a6) ++ blk_1 (cyE E) a7)) rfl ?_
  refine c_aast 1 4 67 1 5 rfl (fun _ => rfl) rfl rfl (by unfold vp_in; decide) rfl dX6_init_33 ?_
  refine c_ws (ws' := ((((((([(h0, .inr (6, [.ref q1, .int 0]))] ++ [(q1, .inl (cyE E 4, 8, .inr (.inr (.inr (.inr (va_up (va_up (va_up (va_up (va_up (va_up (fun _ => none) 0 (some (a2 0))) 1 (some (a3 0))) 2 (some (a4 0))) 3 (some (a5 0))) 4 (some (a6 0))) 5 (some (a7 0))))))))]) ++ blk_1 (cyE E) a2) ++ blk_1 (cyE E) a3) ++ blk_1 (cyE E) a4) ++ blk_1 (cyE E) a5) ++ blk_1 (cyE E) a6) ++ blk_1 (cyE E) a7)) rfl ?_
  refine c_iinc (v := 6) (lv' := [(1, .int 6), (0, .ref h0)]) dX6_init_34 rfl (by decide) (by decide) rfl ?_
  refine c_goto (tgt := 15) dX6_init_37 (by decide) ?_
  refine c_iload dX6_init_15 rfl ?_
  refine c_bipush 8 dX6_init_16 rfl ?_
  refine c_geN (tgt := 40) dX6_init_18 (by decide) (by decide) ?_
  refine c_aload1 dX6_init_21 rfl ?_
  refine c_get 0 0 giX6 rfl rfl (by decide) qc_194 rfl rfl dX6_init_22 ?_
  refine c_iload dX6_init_25 rfl ?_
  refine c_new (ci := 1) (fs := [.int 0, .null, .null, .null, .null]) giX1 tyX1 tyX1_ok qc_192 qc_127 qc_95 rfl dfX1 (Nat.le_of_ble_eq_true rfl) (Nat.le_of_ble_eq_true rfl) dX6_init_26 (fun q8 => ?_)
  refine c_dup dX6_init_29 ?_
  refine c_call kinit_1 cwi_6_17 (Nat.le_of_ble_eq_true rfl) (Nat.le_of_ble_eq_true rfl) (Nat.le_of_ble_eq_true rfl) (Nat.le_of_ble_eq_true rfl) (Nat.le_of_ble_eq_true rfl) dX6_init_30 (fun a8 ea8 => ?_)
  subst ea8
  refine c_ws (ws' := (((((((([(h0, .inr (6, [.ref q1, .int 0]))] ++ [(q1, .inl (cyE E 4, 8, .inr (.inr (.inr (.inr (va_up (va_up (va_up (va_up (va_up (va_up (fun _ => none) 0 (some (a2 0))) 1 (some (a3 0))) 2 (some (a4 0))) 3 (some (a5 0))) 4 (some (a6 0))) 5 (some (a7 0))))))))]) ++ blk_1 (cyE E) a2) ++ blk_1 (cyE E) a3) ++ blk_1 (cyE E) a4) ++ blk_1 (cyE E) a5) ++ blk_1 (cyE E) a6) ++ blk_1 (cyE E) a7) ++ blk_1 (cyE E) a8)) rfl ?_
  refine c_aast 1 4 80 1 6 rfl (fun _ => rfl) rfl rfl (by unfold vp_in; decide) rfl dX6_init_33 ?_
  refine c_ws (ws' := (((((((([(h0, .inr (6, [.ref q1, .int 0]))] ++ [(q1, .inl (cyE E 4, 8, .inr (.inr (.inr (.inr (va_up (va_up (va_up (va_up (va_up (va_up (va_up (fun _ => none) 0 (some (a2 0))) 1 (some (a3 0))) 2 (some (a4 0))) 3 (some (a5 0))) 4 (some (a6 0))) 5 (some (a7 0))) 6 (some (a8 0))))))))]) ++ blk_1 (cyE E) a2) ++ blk_1 (cyE E) a3) ++ blk_1 (cyE E) a4) ++ blk_1 (cyE E) a5) ++ blk_1 (cyE E) a6) ++ blk_1 (cyE E) a7) ++ blk_1 (cyE E) a8)) rfl ?_
  refine c_iinc (v := 7) (lv' := [(1, .int 7), (0, .ref h0)]) dX6_init_34 rfl (by decide) (by decide) rfl ?_
  refine c_goto (tgt := 15) dX6_init_37 (by decide) ?_
  refine c_iload dX6_init_15 rfl ?_
  refine c_bipush 8 dX6_init_16 rfl ?_
  refine c_geN (tgt := 40) dX6_init_18 (by decide) (by decide) ?_
  refine c_aload1 dX6_init_21 rfl ?_
  refine c_get 0 0 giX6 rfl rfl (by decide) qc_194 rfl rfl dX6_init_22 ?_
  refine c_iload dX6_init_25 rfl ?_
  refine c_new (ci := 1) (fs := [.int 0, .null, .null, .null, .null]) giX1 tyX1 tyX1_ok qc_192 qc_127 qc_95 rfl dfX1 (Nat.le_of_ble_eq_true rfl) (Nat.le_of_ble_eq_true rfl) dX6_init_26 (fun q9 => ?_)
  refine c_dup dX6_init_29 ?_
  refine c_call kinit_1 cwi_6_17 (Nat.le_of_ble_eq_true rfl) (Nat.le_of_ble_eq_true rfl) (Nat.le_of_ble_eq_true rfl) (Nat.le_of_ble_eq_true rfl) (Nat.le_of_ble_eq_true rfl) dX6_init_30 (fun a9 ea9 => ?_)
  subst ea9
  refine c_ws (ws' := ((((((((([(h0, .inr (6, [.ref q1, .int 0]))] ++ [(q1, .inl (cyE E 4, 8, .inr (.inr (.inr (.inr (va_up (va_up (va_up (va_up (va_up (va_up (va_up (fun _ => none) 0 (some (a2 0))) 1 (some (a3 0))) 2 (some (a4 0))) 3 (some (a5 0))) 4 (some (a6 0))) 5 (some (a7 0))) 6 (some (a8 0))))))))]) ++ blk_1 (cyE E) a2) ++ blk_1 (cyE E) a3) ++ blk_1 (cyE E) a4) ++ blk_1 (cyE E) a5) ++ blk_1 (cyE E) a6) ++ blk_1 (cyE E) a7) ++ blk_1 (cyE E) a8) ++ blk_1 (cyE E) a9)) rfl ?_
  refine c_aast 1 4 93 1 7 rfl (fun _ => rfl) rfl rfl (by unfold vp_in; decide) rfl dX6_init_33 ?_
  refine c_ws (ws' := ((((((((([(h0, .inr (6, [.ref q1, .int 0]))] ++ [(q1, .inl (cyE E 4, 8, .inr (.inr (.inr (.inr (va_up (va_up (va_up (va_up (va_up (va_up (va_up (va_up (fun _ => none) 0 (some (a2 0))) 1 (some (a3 0))) 2 (some (a4 0))) 3 (some (a5 0))) 4 (some (a6 0))) 5 (some (a7 0))) 6 (some (a8 0))) 7 (some (a9 0))))))))]) ++ blk_1 (cyE E) a2) ++ blk_1 (cyE E) a3) ++ blk_1 (cyE E) a4) ++ blk_1 (cyE E) a5) ++ blk_1 (cyE E) a6) ++ blk_1 (cyE E) a7) ++ blk_1 (cyE E) a8) ++ blk_1 (cyE E) a9)) rfl ?_
  refine c_iinc (v := 8) (lv' := [(1, .int 8), (0, .ref h0)]) dX6_init_34 rfl (by decide) (by decide) rfl ?_
  refine c_goto (tgt := 15) dX6_init_37 (by decide) ?_
  refine c_iload dX6_init_15 rfl ?_
  refine c_bipush 8 dX6_init_16 rfl ?_
  refine c_geY (tgt := 40) dX6_init_18 (by decide) (by decide) ?_
  exact c_ret ((fun k => [h0, q1].getD k 0), (fun k => [a2, a3, a4, a5, a6, a7, a8, a9].getD k (fun _ => 0))) hR (Nat.le_of_ble_eq_true rfl) (Nat.le_of_ble_eq_true rfl) rfl rfl dX6_init_40
def blk_10 (cy : Nat → ClassId) (S : (Nat → Nat) × (Nat → Nat → Nat) × ((Nat → Nat) × (Nat → Nat → Nat)) × ((Nat → Nat) × (Nat → Nat))) : va_W := ((((((((((((((([((S.1 0), .inr (10, [.ref ((S.2.1 0) 0), .ref ((S.2.1 1) 0), .ref ((S.2.1 2) 0), .ref (S.1 1), .ref (S.1 2), .ref (S.2.2.1.1 0), .ref ((S.2.1 5) 0), .ref ((S.2.1 6) 0), .ref ((S.2.1 7) 0), .ref ((S.2.1 8) 0), .ref (S.2.2.2.1 0), .ref ((S.2.1 9) 0), .ref ((S.2.1 10) 0)]))] ++ blk_1 cy (S.2.1 0)) ++ blk_1 cy (S.2.1 1)) ++ blk_1 cy (S.2.1 2)) ++ [((S.1 1), .inl (cy 4, 2, .inr (.inr (.inr (.inr (va_up (va_up (fun _ => none) 0 (some ((S.2.1 3) 0))) 1 (some ((S.2.1 4) 0))))))))]) ++ blk_1 cy (S.2.1 3)) ++ blk_1 cy (S.2.1 4)) ++ [((S.1 2), .inl (cy 2, 2, .inl (fun _ => 0)))]) ++ blk_6 cy S.2.2.1) ++ blk_9 cy (S.2.1 5)) ++ blk_0 cy (S.2.1 6)) ++ blk_5 cy (S.2.1 7)) ++ blk_4 cy (S.2.1 8)) ++ blk_8 cy S.2.2.2) ++ blk_7 cy (S.2.1 9)) ++ blk_2 cy (S.2.1 10))
set_option maxHeartbeats 4000000 in
set_option maxRecDepth 8000 in
theorem kinit_10 : MC yX10_init cX10_init 2 4 102 205 7467 10 [.null, .null, .null, .null, .null, .null, .null, .null, .null, .null, .null, .null, .null] (fun S : (Nat → Nat) × (Nat → Nat → Nat) × ((Nat → Nat) × (Nat → Nat → Nat)) × ((Nat → Nat) × (Nat → Nat)) => S.1 0) blk_10 := by
  refine m_C (own := RX10) (by decide +kernel) rfl rfl (by decide) (fun E h0 hR hnm => ?_)
  refine c_aload dX10_init_0 rfl ?_
  refine c_obj qc_123 qo_i qo_c (Nat.le_of_ble_eq_true rfl) (Nat.le_of_ble_eq_true rfl) dX10_init_1 ?_
  refine c_aload dX10_init_4 rfl ?_
  refine c_new (ci := 1) (fs := [.int 0, .null, .null, .null, .null]) giX1 tyX1 tyX1_ok qc_126 qc_127 qc_95 rfl dfX1 (Nat.le_of_ble_eq_true rfl) (Nat.le_of_ble_eq_true rfl) dX10_init_5 (fun q1 => ?_)
  refine c_dup dX10_init_8 ?_
  refine c_call kinit_1 cwi_10_11 (Nat.le_of_ble_eq_true rfl) (Nat.le_of_ble_eq_true rfl) (Nat.le_of_ble_eq_true rfl) (Nat.le_of_ble_eq_true rfl) (Nat.le_of_ble_eq_true rfl) dX10_init_9 (fun a1 ea1 => ?_)
  subst ea1
  refine c_ws (ws' := ([(h0, .inr (10, [.null, .null, .null, .null, .null, .null, .null, .null, .null, .null, .null, .null, .null]))] ++ blk_1 (cyE E) a1)) rfl ?_
  refine c_put 0 0 (ty := (.object "TrustClub$Books")) hnm giX10 tyX10 tyX10_ok nmX10 rfl rfl (by decide) qc_379 rfl rfl (by decide +kernel) rfl rfl (Nat.le_of_ble_eq_true rfl) dX10_init_12 ?_
  refine c_ws (ws' := ([(h0, .inr (10, [.ref (a1 0), .null, .null, .null, .null, .null, .null, .null, .null, .null, .null, .null, .null]))] ++ blk_1 (cyE E) a1)) rfl ?_
  refine c_aload dX10_init_15 rfl ?_
  refine c_new (ci := 1) (fs := [.int 0, .null, .null, .null, .null]) giX1 tyX1 tyX1_ok qc_126 qc_127 qc_95 rfl dfX1 (Nat.le_of_ble_eq_true rfl) (Nat.le_of_ble_eq_true rfl) dX10_init_16 (fun q2 => ?_)
  refine c_dup dX10_init_19 ?_
  refine c_call kinit_1 cwi_10_11 (Nat.le_of_ble_eq_true rfl) (Nat.le_of_ble_eq_true rfl) (Nat.le_of_ble_eq_true rfl) (Nat.le_of_ble_eq_true rfl) (Nat.le_of_ble_eq_true rfl) dX10_init_20 (fun a2 ea2 => ?_)
  subst ea2
  refine c_ws (ws' := (([(h0, .inr (10, [.ref (a1 0), .null, .null, .null, .null, .null, .null, .null, .null, .null, .null, .null, .null]))] ++ blk_1 (cyE E) a1) ++ blk_1 (cyE E) a2)) rfl ?_
  refine c_put 0 1 (ty := (.object "TrustClub$Books")) hnm giX10 tyX10 tyX10_ok nmX10 rfl rfl (by decide) qc_380 rfl rfl (by decide +kernel) rfl rfl (Nat.le_of_ble_eq_true rfl) dX10_init_23 ?_
  refine c_ws (ws' := (([(h0, .inr (10, [.ref (a1 0), .ref (a2 0), .null, .null, .null, .null, .null, .null, .null, .null, .null, .null, .null]))] ++ blk_1 (cyE E) a1) ++ blk_1 (cyE E) a2)) rfl ?_
  refine c_aload dX10_init_26 rfl ?_
  refine c_new (ci := 1) (fs := [.int 0, .null, .null, .null, .null]) giX1 tyX1 tyX1_ok qc_126 qc_127 qc_95 rfl dfX1 (Nat.le_of_ble_eq_true rfl) (Nat.le_of_ble_eq_true rfl) dX10_init_27 (fun q3 => ?_)
  refine c_dup dX10_init_30 ?_
  refine c_call kinit_1 cwi_10_11 (Nat.le_of_ble_eq_true rfl) (Nat.le_of_ble_eq_true rfl) (Nat.le_of_ble_eq_true rfl) (Nat.le_of_ble_eq_true rfl) (Nat.le_of_ble_eq_true rfl) dX10_init_31 (fun a3 ea3 => ?_)
  subst ea3
  refine c_ws (ws' := ((([(h0, .inr (10, [.ref (a1 0), .ref (a2 0), .null, .null, .null, .null, .null, .null, .null, .null, .null, .null, .null]))] ++ blk_1 (cyE E) a1) ++ blk_1 (cyE E) a2) ++ blk_1 (cyE E) a3)) rfl ?_
  refine c_put 0 2 (ty := (.object "TrustClub$Books")) hnm giX10 tyX10 tyX10_ok nmX10 rfl rfl (by decide) qc_381 rfl rfl (by decide +kernel) rfl rfl (Nat.le_of_ble_eq_true rfl) dX10_init_34 ?_
  refine c_ws (ws' := ((([(h0, .inr (10, [.ref (a1 0), .ref (a2 0), .ref (a3 0), .null, .null, .null, .null, .null, .null, .null, .null, .null, .null]))] ++ blk_1 (cyE E) a1) ++ blk_1 (cyE E) a2) ++ blk_1 (cyE E) a3)) rfl ?_
  refine c_aload dX10_init_37 rfl ?_
  refine c_iconst 2 dX10_init_38 rfl ?_
  refine c_newq 4 (C := "TrustClub$Books") (N := 2) qc_126 (fun _ h => h.1) (fun _ => rfl) (by decide) rfl (Nat.le_of_ble_eq_true rfl) (Nat.le_of_ble_eq_true rfl) (Nat.le_of_ble_eq_true rfl) dX10_init_39 (fun q4 => ?_)
  refine c_ws (ws' := (((([(h0, .inr (10, [.ref (a1 0), .ref (a2 0), .ref (a3 0), .null, .null, .null, .null, .null, .null, .null, .null, .null, .null]))] ++ blk_1 (cyE E) a1) ++ blk_1 (cyE E) a2) ++ blk_1 (cyE E) a3) ++ [(q4, .inl (cyE E 4, 2, .inr (.inr (.inr (.inr (fun _ => none))))))])) rfl ?_
  refine c_put 0 3 (ty := (.array (.object "TrustClub$Books"))) hnm giX10 tyX10 tyX10_ok nmX10 rfl rfl (by decide) qc_382 rfl rfl (by decide +kernel) rfl rfl (Nat.le_of_ble_eq_true rfl) dX10_init_42 ?_
  refine c_ws (ws' := (((([(h0, .inr (10, [.ref (a1 0), .ref (a2 0), .ref (a3 0), .ref q4, .null, .null, .null, .null, .null, .null, .null, .null, .null]))] ++ blk_1 (cyE E) a1) ++ blk_1 (cyE E) a2) ++ blk_1 (cyE E) a3) ++ [(q4, .inl (cyE E 4, 2, .inr (.inr (.inr (.inr (fun _ => none))))))])) rfl ?_
  refine c_iconst 0 dX10_init_45 rfl ?_
  refine c_istore (lv' := [(1, .int 0), (0, .ref h0)]) dX10_init_46 (by decide) rfl ?_
  refine c_iload dX10_init_47 rfl ?_
  refine c_iconst 2 dX10_init_48 rfl ?_
  refine c_geN (tgt := 71) dX10_init_49 (by decide) (by decide) ?_
  refine c_aload1 dX10_init_52 rfl ?_
  refine c_get 0 3 giX10 rfl rfl (by decide) qc_382 rfl rfl dX10_init_53 ?_
  refine c_iload dX10_init_56 rfl ?_
  refine c_new (ci := 1) (fs := [.int 0, .null, .null, .null, .null]) giX1 tyX1 tyX1_ok qc_126 qc_127 qc_95 rfl dfX1 (Nat.le_of_ble_eq_true rfl) (Nat.le_of_ble_eq_true rfl) dX10_init_57 (fun q5 => ?_)
  refine c_dup dX10_init_60 ?_
  refine c_call kinit_1 cwi_10_11 (Nat.le_of_ble_eq_true rfl) (Nat.le_of_ble_eq_true rfl) (Nat.le_of_ble_eq_true rfl) (Nat.le_of_ble_eq_true rfl) (Nat.le_of_ble_eq_true rfl) dX10_init_61 (fun a5 ea5 => ?_)
  subst ea5
  refine c_ws (ws' := ((((([(h0, .inr (10, [.ref (a1 0), .ref (a2 0), .ref (a3 0), .ref q4, .null, .null, .null, .null, .null, .null, .null, .null, .null]))] ++ blk_1 (cyE E) a1) ++ blk_1 (cyE E) a2) ++ blk_1 (cyE E) a3) ++ [(q4, .inl (cyE E 4, 2, .inr (.inr (.inr (.inr (fun _ => none))))))]) ++ blk_1 (cyE E) a5)) rfl ?_
  refine c_aast 40 4 41 1 0 rfl (fun _ => rfl) rfl rfl (by unfold vp_in; decide) rfl dX10_init_64 ?_
  refine c_ws (ws' := ((((([(h0, .inr (10, [.ref (a1 0), .ref (a2 0), .ref (a3 0), .ref q4, .null, .null, .null, .null, .null, .null, .null, .null, .null]))] ++ blk_1 (cyE E) a1) ++ blk_1 (cyE E) a2) ++ blk_1 (cyE E) a3) ++ [(q4, .inl (cyE E 4, 2, .inr (.inr (.inr (.inr (va_up (fun _ => none) 0 (some (a5 0))))))))]) ++ blk_1 (cyE E) a5)) rfl ?_
  refine c_iinc (v := 1) (lv' := [(1, .int 1), (0, .ref h0)]) dX10_init_65 rfl (by decide) (by decide) rfl ?_
  refine c_goto (tgt := 47) dX10_init_68 (by decide) ?_
  refine c_iload dX10_init_47 rfl ?_
  refine c_iconst 2 dX10_init_48 rfl ?_
  refine c_geN (tgt := 71) dX10_init_49 (by decide) (by decide) ?_
  refine c_aload1 dX10_init_52 rfl ?_
  refine c_get 0 3 giX10 rfl rfl (by decide) qc_382 rfl rfl dX10_init_53 ?_
  refine c_iload dX10_init_56 rfl ?_
  refine c_new (ci := 1) (fs := [.int 0, .null, .null, .null, .null]) giX1 tyX1 tyX1_ok qc_126 qc_127 qc_95 rfl dfX1 (Nat.le_of_ble_eq_true rfl) (Nat.le_of_ble_eq_true rfl) dX10_init_57 (fun q6 => ?_)
  refine c_dup dX10_init_60 ?_
  refine c_call kinit_1 cwi_10_11 (Nat.le_of_ble_eq_true rfl) (Nat.le_of_ble_eq_true rfl) (Nat.le_of_ble_eq_true rfl) (Nat.le_of_ble_eq_true rfl) (Nat.le_of_ble_eq_true rfl) dX10_init_61 (fun a6 ea6 => ?_)
  subst ea6
  refine c_ws (ws' := (((((([(h0, .inr (10, [.ref (a1 0), .ref (a2 0), .ref (a3 0), .ref q4, .null, .null, .null, .null, .null, .null, .null, .null, .null]))] ++ blk_1 (cyE E) a1) ++ blk_1 (cyE E) a2) ++ blk_1 (cyE E) a3) ++ [(q4, .inl (cyE E 4, 2, .inr (.inr (.inr (.inr (va_up (fun _ => none) 0 (some (a5 0))))))))]) ++ blk_1 (cyE E) a5) ++ blk_1 (cyE E) a6)) rfl ?_
  refine c_aast 40 4 54 1 1 rfl (fun _ => rfl) rfl rfl (by unfold vp_in; decide) rfl dX10_init_64 ?_
  refine c_ws (ws' := (((((([(h0, .inr (10, [.ref (a1 0), .ref (a2 0), .ref (a3 0), .ref q4, .null, .null, .null, .null, .null, .null, .null, .null, .null]))] ++ blk_1 (cyE E) a1) ++ blk_1 (cyE E) a2) ++ blk_1 (cyE E) a3) ++ [(q4, .inl (cyE E 4, 2, .inr (.inr (.inr (.inr (va_up (va_up (fun _ => none) 0 (some (a5 0))) 1 (some (a6 0))))))))]) ++ blk_1 (cyE E) a5) ++ blk_1 (cyE E) a6)) rfl ?_
  refine c_iinc (v := 2) (lv' := [(1, .int 2), (0, .ref h0)]) dX10_init_65 rfl (by decide) (by decide) rfl ?_
  refine c_goto (tgt := 47) dX10_init_68 (by decide) ?_
  refine c_iload dX10_init_47 rfl ?_
  refine c_iconst 2 dX10_init_48 rfl ?_
  refine c_geY (tgt := 71) dX10_init_49 (by decide) (by decide) ?_
  refine c_aload1 dX10_init_71 rfl ?_
  refine c_iconst 2 dX10_init_72 rfl ?_
  refine c_newa 2 (atype := .boolean) (ty := .boolean) (N := 2) (a0 := (2, .inl (fun _ => 0))) qa_boolean rfl (ra_p (fun _ _ => rfl)) (fun _ => rfl) (fun _ => rfl) (by decide) rfl (Nat.le_of_ble_eq_true rfl) (Nat.le_of_ble_eq_true rfl) (Nat.le_of_ble_eq_true rfl) dX10_init_73 (fun q7 => ?_)
  refine c_ws (ws' := ((((((([(h0, .inr (10, [.ref (a1 0), .ref (a2 0), .ref (a3 0), .ref q4, .null, .null, .null, .null, .null, .null, .null, .null, .null]))] ++ blk_1 (cyE E) a1) ++ blk_1 (cyE E) a2) ++ blk_1 (cyE E) a3) ++ [(q4, .inl (cyE E 4, 2, .inr (.inr (.inr (.inr (va_up (va_up (fun _ => none) 0 (some (a5 0))) 1 (some (a6 0))))))))]) ++ blk_1 (cyE E) a5) ++ blk_1 (cyE E) a6) ++ [(q7, .inl (cyE E 2, 2, .inl (fun _ => 0)))])) rfl ?_
  refine c_put 0 4 (ty := (.array .boolean)) hnm giX10 tyX10 tyX10_ok nmX10 rfl rfl (by decide) qc_383 rfl rfl (by decide +kernel) rfl rfl (Nat.le_of_ble_eq_true rfl) dX10_init_75 ?_
  refine c_ws (ws' := ((((((([(h0, .inr (10, [.ref (a1 0), .ref (a2 0), .ref (a3 0), .ref q4, .ref q7, .null, .null, .null, .null, .null, .null, .null, .null]))] ++ blk_1 (cyE E) a1) ++ blk_1 (cyE E) a2) ++ blk_1 (cyE E) a3) ++ [(q4, .inl (cyE E 4, 2, .inr (.inr (.inr (.inr (va_up (va_up (fun _ => none) 0 (some (a5 0))) 1 (some (a6 0))))))))]) ++ blk_1 (cyE E) a5) ++ blk_1 (cyE E) a6) ++ [(q7, .inl (cyE E 2, 2, .inl (fun _ => 0)))])) rfl ?_
  refine c_aload1 dX10_init_78 rfl ?_
  refine c_new (ci := 6) (fs := [.null, .int 0]) giX6 tyX6 tyX6_ok qc_186 qc_187 qc_97 rfl dfX6 (Nat.le_of_ble_eq_true rfl) (Nat.le_of_ble_eq_true rfl) dX10_init_79 (fun q8 => ?_)
  refine c_dup dX10_init_82 ?_
  refine c_call kinit_6 cwi_10_32 (Nat.le_of_ble_eq_true rfl) (Nat.le_of_ble_eq_true rfl) (Nat.le_of_ble_eq_true rfl) (Nat.le_of_ble_eq_true rfl) (Nat.le_of_ble_eq_true rfl) dX10_init_83 (fun a8 ea8 => ?_)
  subst ea8
  refine c_ws (ws' := (((((((([(h0, .inr (10, [.ref (a1 0), .ref (a2 0), .ref (a3 0), .ref q4, .ref q7, .null, .null, .null, .null, .null, .null, .null, .null]))] ++ blk_1 (cyE E) a1) ++ blk_1 (cyE E) a2) ++ blk_1 (cyE E) a3) ++ [(q4, .inl (cyE E 4, 2, .inr (.inr (.inr (.inr (va_up (va_up (fun _ => none) 0 (some (a5 0))) 1 (some (a6 0))))))))]) ++ blk_1 (cyE E) a5) ++ blk_1 (cyE E) a6) ++ [(q7, .inl (cyE E 2, 2, .inl (fun _ => 0)))]) ++ blk_6 (cyE E) a8)) rfl ?_
  refine c_put 0 5 (ty := (.object "TrustClub$Past")) hnm giX10 tyX10 tyX10_ok nmX10 rfl rfl (by decide) qc_384 rfl rfl (by decide +kernel) rfl rfl (Nat.le_of_ble_eq_true rfl) dX10_init_86 ?_
  refine c_ws (ws' := (((((((([(h0, .inr (10, [.ref (a1 0), .ref (a2 0), .ref (a3 0), .ref q4, .ref q7, .ref (a8.1 0), .null, .null, .null, .null, .null, .null, .null]))] ++ blk_1 (cyE E) a1) ++ blk_1 (cyE E) a2) ++ blk_1 (cyE E) a3) ++ [(q4, .inl (cyE E 4, 2, .inr (.inr (.inr (.inr (va_up (va_up (fun _ => none) 0 (some (a5 0))) 1 (some (a6 0))))))))]) ++ blk_1 (cyE E) a5) ++ blk_1 (cyE E) a6) ++ [(q7, .inl (cyE E 2, 2, .inl (fun _ => 0)))]) ++ blk_6 (cyE E) a8)) rfl ?_
  refine c_aload1 dX10_init_89 rfl ?_
  refine c_new (ci := 9) (fs := [.null, .int 0]) giX9 tyX9 tyX9_ok qc_203 qc_204 qc_98 rfl dfX9 (Nat.le_of_ble_eq_true rfl) (Nat.le_of_ble_eq_true rfl) dX10_init_90 (fun q9 => ?_)
  refine c_dup dX10_init_93 ?_
  refine c_call kinit_9 cwi_10_39 (Nat.le_of_ble_eq_true rfl) (Nat.le_of_ble_eq_true rfl) (Nat.le_of_ble_eq_true rfl) (Nat.le_of_ble_eq_true rfl) (Nat.le_of_ble_eq_true rfl) dX10_init_94 (fun a9 ea9 => ?_)
  subst ea9
  refine c_ws (ws' := ((((((((([(h0, .inr (10, [.ref (a1 0), .ref (a2 0), .ref (a3 0), .ref q4, .ref q7, .ref (a8.1 0), .null, .null, .null, .null, .null, .null, .null]))] ++ blk_1 (cyE E) a1) ++ blk_1 (cyE E) a2) ++ blk_1 (cyE E) a3) ++ [(q4, .inl (cyE E 4, 2, .inr (.inr (.inr (.inr (va_up (va_up (fun _ => none) 0 (some (a5 0))) 1 (some (a6 0))))))))]) ++ blk_1 (cyE E) a5) ++ blk_1 (cyE E) a6) ++ [(q7, .inl (cyE E 2, 2, .inl (fun _ => 0)))]) ++ blk_6 (cyE E) a8) ++ blk_9 (cyE E) a9)) rfl ?_
  refine c_put 0 6 (ty := (.object "TrustClub$Text")) hnm giX10 tyX10 tyX10_ok nmX10 rfl rfl (by decide) qc_385 rfl rfl (by decide +kernel) rfl rfl (Nat.le_of_ble_eq_true rfl) dX10_init_97 ?_
  refine c_ws (ws' := ((((((((([(h0, .inr (10, [.ref (a1 0), .ref (a2 0), .ref (a3 0), .ref q4, .ref q7, .ref (a8.1 0), .ref (a9 0), .null, .null, .null, .null, .null, .null]))] ++ blk_1 (cyE E) a1) ++ blk_1 (cyE E) a2) ++ blk_1 (cyE E) a3) ++ [(q4, .inl (cyE E 4, 2, .inr (.inr (.inr (.inr (va_up (va_up (fun _ => none) 0 (some (a5 0))) 1 (some (a6 0))))))))]) ++ blk_1 (cyE E) a5) ++ blk_1 (cyE E) a6) ++ [(q7, .inl (cyE E 2, 2, .inl (fun _ => 0)))]) ++ blk_6 (cyE E) a8) ++ blk_9 (cyE E) a9)) rfl ?_
  refine c_aload1 dX10_init_100 rfl ?_
  refine c_new (ci := 0) (fs := [.null, .null, .null, .null, .int 0]) giX0 tyX0 tyX0_ok qc_218 qc_219 qc_99 rfl dfX0 (Nat.le_of_ble_eq_true rfl) (Nat.le_of_ble_eq_true rfl) dX10_init_101 (fun q10 => ?_)
  refine c_dup dX10_init_104 ?_
  refine c_call kinit_0 cwi_10_46 (Nat.le_of_ble_eq_true rfl) (Nat.le_of_ble_eq_true rfl) (Nat.le_of_ble_eq_true rfl) (Nat.le_of_ble_eq_true rfl) (Nat.le_of_ble_eq_true rfl) dX10_init_105 (fun a10 ea10 => ?_)
  subst ea10
  refine c_ws (ws' := (((((((((([(h0, .inr (10, [.ref (a1 0), .ref (a2 0), .ref (a3 0), .ref q4, .ref q7, .ref (a8.1 0), .ref (a9 0), .null, .null, .null, .null, .null, .null]))] ++ blk_1 (cyE E) a1) ++ blk_1 (cyE E) a2) ++ blk_1 (cyE E) a3) ++ [(q4, .inl (cyE E 4, 2, .inr (.inr (.inr (.inr (va_up (va_up (fun _ => none) 0 (some (a5 0))) 1 (some (a6 0))))))))]) ++ blk_1 (cyE E) a5) ++ blk_1 (cyE E) a6) ++ [(q7, .inl (cyE E 2, 2, .inl (fun _ => 0)))]) ++ blk_6 (cyE E) a8) ++ blk_9 (cyE E) a9) ++ blk_0 (cyE E) a10)) rfl ?_
  refine c_put 0 7 (ty := (.object "TrustClub$Acts")) hnm giX10 tyX10 tyX10_ok nmX10 rfl rfl (by decide) qc_386 rfl rfl (by decide +kernel) rfl rfl (Nat.le_of_ble_eq_true rfl) dX10_init_108 ?_
  refine c_ws (ws' := (((((((((([(h0, .inr (10, [.ref (a1 0), .ref (a2 0), .ref (a3 0), .ref q4, .ref q7, .ref (a8.1 0), .ref (a9 0), .ref (a10 0), .null, .null, .null, .null, .null]))] ++ blk_1 (cyE E) a1) ++ blk_1 (cyE E) a2) ++ blk_1 (cyE E) a3) ++ [(q4, .inl (cyE E 4, 2, .inr (.inr (.inr (.inr (va_up (va_up (fun _ => none) 0 (some (a5 0))) 1 (some (a6 0))))))))]) ++ blk_1 (cyE E) a5) ++ blk_1 (cyE E) a6) ++ [(q7, .inl (cyE E 2, 2, .inl (fun _ => 0)))]) ++ blk_6 (cyE E) a8) ++ blk_9 (cyE E) a9) ++ blk_0 (cyE E) a10)) rfl ?_
  refine c_aload1 dX10_init_111 rfl ?_
  refine c_new (ci := 5) (fs := [.null, .int 0]) giX5 tyX5 tyX5_ok qc_248 qc_249 qc_100 rfl dfX5 (Nat.le_of_ble_eq_true rfl) (Nat.le_of_ble_eq_true rfl) dX10_init_112 (fun q11 => ?_)
  refine c_dup dX10_init_115 ?_
  refine c_call kinit_5 cwi_10_53 (Nat.le_of_ble_eq_true rfl) (Nat.le_of_ble_eq_true rfl) (Nat.le_of_ble_eq_true rfl) (Nat.le_of_ble_eq_true rfl) (Nat.le_of_ble_eq_true rfl) dX10_init_116 (fun a11 ea11 => ?_)
  subst ea11
  refine c_ws (ws' := ((((((((((([(h0, .inr (10, [.ref (a1 0), .ref (a2 0), .ref (a3 0), .ref q4, .ref q7, .ref (a8.1 0), .ref (a9 0), .ref (a10 0), .null, .null, .null, .null, .null]))] ++ blk_1 (cyE E) a1) ++ blk_1 (cyE E) a2) ++ blk_1 (cyE E) a3) ++ [(q4, .inl (cyE E 4, 2, .inr (.inr (.inr (.inr (va_up (va_up (fun _ => none) 0 (some (a5 0))) 1 (some (a6 0))))))))]) ++ blk_1 (cyE E) a5) ++ blk_1 (cyE E) a6) ++ [(q7, .inl (cyE E 2, 2, .inl (fun _ => 0)))]) ++ blk_6 (cyE E) a8) ++ blk_9 (cyE E) a9) ++ blk_0 (cyE E) a10) ++ blk_5 (cyE E) a11)) rfl ?_
  refine c_put 0 8 (ty := (.object "TrustClub$Numbers")) hnm giX10 tyX10 tyX10_ok nmX10 rfl rfl (by decide) qc_387 rfl rfl (by decide +kernel) rfl rfl (Nat.le_of_ble_eq_true rfl) dX10_init_119 ?_
  refine c_ws (ws' := ((((((((((([(h0, .inr (10, [.ref (a1 0), .ref (a2 0), .ref (a3 0), .ref q4, .ref q7, .ref (a8.1 0), .ref (a9 0), .ref (a10 0), .ref (a11 0), .null, .null, .null, .null]))] ++ blk_1 (cyE E) a1) ++ blk_1 (cyE E) a2) ++ blk_1 (cyE E) a3) ++ [(q4, .inl (cyE E 4, 2, .inr (.inr (.inr (.inr (va_up (va_up (fun _ => none) 0 (some (a5 0))) 1 (some (a6 0))))))))]) ++ blk_1 (cyE E) a5) ++ blk_1 (cyE E) a6) ++ [(q7, .inl (cyE E 2, 2, .inl (fun _ => 0)))]) ++ blk_6 (cyE E) a8) ++ blk_9 (cyE E) a9) ++ blk_0 (cyE E) a10) ++ blk_5 (cyE E) a11)) rfl ?_
  refine c_aload1 dX10_init_122 rfl ?_
  refine c_new (ci := 4) (fs := [.int 0, .null, .null, .null, .null, .null, .null, .int 0, .null, .null, .int 0]) giX4 tyX4 tyX4_ok qc_264 qc_265 qc_101 rfl dfX4 (Nat.le_of_ble_eq_true rfl) (Nat.le_of_ble_eq_true rfl) dX10_init_123 (fun q12 => ?_)
  refine c_dup dX10_init_126 ?_
  refine c_call kinit_4 cwi_10_60 (Nat.le_of_ble_eq_true rfl) (Nat.le_of_ble_eq_true rfl) (Nat.le_of_ble_eq_true rfl) (Nat.le_of_ble_eq_true rfl) (Nat.le_of_ble_eq_true rfl) dX10_init_127 (fun a12 ea12 => ?_)
  subst ea12
  refine c_ws (ws' := (((((((((((([(h0, .inr (10, [.ref (a1 0), .ref (a2 0), .ref (a3 0), .ref q4, .ref q7, .ref (a8.1 0), .ref (a9 0), .ref (a10 0), .ref (a11 0), .null, .null, .null, .null]))] ++ blk_1 (cyE E) a1) ++ blk_1 (cyE E) a2) ++ blk_1 (cyE E) a3) ++ [(q4, .inl (cyE E 4, 2, .inr (.inr (.inr (.inr (va_up (va_up (fun _ => none) 0 (some (a5 0))) 1 (some (a6 0))))))))]) ++ blk_1 (cyE E) a5) ++ blk_1 (cyE E) a6) ++ [(q7, .inl (cyE E 2, 2, .inl (fun _ => 0)))]) ++ blk_6 (cyE E) a8) ++ blk_9 (cyE E) a9) ++ blk_0 (cyE E) a10) ++ blk_5 (cyE E) a11) ++ blk_4 (cyE E) a12)) rfl ?_
  refine c_put 0 9 (ty := (.object "TrustClub$Network")) hnm giX10 tyX10 tyX10_ok nmX10 rfl rfl (by decide) qc_388 rfl rfl (by decide +kernel) rfl rfl (Nat.le_of_ble_eq_true rfl) dX10_init_130 ?_
  refine c_ws (ws' := (((((((((((([(h0, .inr (10, [.ref (a1 0), .ref (a2 0), .ref (a3 0), .ref q4, .ref q7, .ref (a8.1 0), .ref (a9 0), .ref (a10 0), .ref (a11 0), .ref (a12 0), .null, .null, .null]))] ++ blk_1 (cyE E) a1) ++ blk_1 (cyE E) a2) ++ blk_1 (cyE E) a3) ++ [(q4, .inl (cyE E 4, 2, .inr (.inr (.inr (.inr (va_up (va_up (fun _ => none) 0 (some (a5 0))) 1 (some (a6 0))))))))]) ++ blk_1 (cyE E) a5) ++ blk_1 (cyE E) a6) ++ [(q7, .inl (cyE E 2, 2, .inl (fun _ => 0)))]) ++ blk_6 (cyE E) a8) ++ blk_9 (cyE E) a9) ++ blk_0 (cyE E) a10) ++ blk_5 (cyE E) a11) ++ blk_4 (cyE E) a12)) rfl ?_
  refine c_aload1 dX10_init_133 rfl ?_
  refine c_new (ci := 8) (fs := [.null, .null, .null, .int 0]) giX8 tyX8 tyX8_ok qc_309 qc_310 qc_102 rfl dfX8 (Nat.le_of_ble_eq_true rfl) (Nat.le_of_ble_eq_true rfl) dX10_init_134 (fun q13 => ?_)
  refine c_dup dX10_init_137 ?_
  refine c_call kinit_8 cwi_10_67 (Nat.le_of_ble_eq_true rfl) (Nat.le_of_ble_eq_true rfl) (Nat.le_of_ble_eq_true rfl) (Nat.le_of_ble_eq_true rfl) (Nat.le_of_ble_eq_true rfl) dX10_init_138 (fun a13 ea13 => ?_)
  subst ea13
  refine c_ws (ws' := ((((((((((((([(h0, .inr (10, [.ref (a1 0), .ref (a2 0), .ref (a3 0), .ref q4, .ref q7, .ref (a8.1 0), .ref (a9 0), .ref (a10 0), .ref (a11 0), .ref (a12 0), .null, .null, .null]))] ++ blk_1 (cyE E) a1) ++ blk_1 (cyE E) a2) ++ blk_1 (cyE E) a3) ++ [(q4, .inl (cyE E 4, 2, .inr (.inr (.inr (.inr (va_up (va_up (fun _ => none) 0 (some (a5 0))) 1 (some (a6 0))))))))]) ++ blk_1 (cyE E) a5) ++ blk_1 (cyE E) a6) ++ [(q7, .inl (cyE E 2, 2, .inl (fun _ => 0)))]) ++ blk_6 (cyE E) a8) ++ blk_9 (cyE E) a9) ++ blk_0 (cyE E) a10) ++ blk_5 (cyE E) a11) ++ blk_4 (cyE E) a12) ++ blk_8 (cyE E) a13)) rfl ?_
  refine c_put 0 10 (ty := (.object "TrustClub$Sequences")) hnm giX10 tyX10 tyX10_ok nmX10 rfl rfl (by decide) qc_389 rfl rfl (by decide +kernel) rfl rfl (Nat.le_of_ble_eq_true rfl) dX10_init_141 ?_
  refine c_ws (ws' := ((((((((((((([(h0, .inr (10, [.ref (a1 0), .ref (a2 0), .ref (a3 0), .ref q4, .ref q7, .ref (a8.1 0), .ref (a9 0), .ref (a10 0), .ref (a11 0), .ref (a12 0), .ref (a13.1 0), .null, .null]))] ++ blk_1 (cyE E) a1) ++ blk_1 (cyE E) a2) ++ blk_1 (cyE E) a3) ++ [(q4, .inl (cyE E 4, 2, .inr (.inr (.inr (.inr (va_up (va_up (fun _ => none) 0 (some (a5 0))) 1 (some (a6 0))))))))]) ++ blk_1 (cyE E) a5) ++ blk_1 (cyE E) a6) ++ [(q7, .inl (cyE E 2, 2, .inl (fun _ => 0)))]) ++ blk_6 (cyE E) a8) ++ blk_9 (cyE E) a9) ++ blk_0 (cyE E) a10) ++ blk_5 (cyE E) a11) ++ blk_4 (cyE E) a12) ++ blk_8 (cyE E) a13)) rfl ?_
  refine c_aload1 dX10_init_144 rfl ?_
  refine c_new (ci := 7) (fs := [.null, .null, .null, .int 0, .int 0]) giX7 tyX7 tyX7_ok qc_332 qc_333 qc_103 rfl dfX7 (Nat.le_of_ble_eq_true rfl) (Nat.le_of_ble_eq_true rfl) dX10_init_145 (fun q14 => ?_)
  refine c_dup dX10_init_148 ?_
  refine c_call kinit_7 cwi_10_74 (Nat.le_of_ble_eq_true rfl) (Nat.le_of_ble_eq_true rfl) (Nat.le_of_ble_eq_true rfl) (Nat.le_of_ble_eq_true rfl) (Nat.le_of_ble_eq_true rfl) dX10_init_149 (fun a14 ea14 => ?_)
  subst ea14
  refine c_ws (ws' := (((((((((((((([(h0, .inr (10, [.ref (a1 0), .ref (a2 0), .ref (a3 0), .ref q4, .ref q7, .ref (a8.1 0), .ref (a9 0), .ref (a10 0), .ref (a11 0), .ref (a12 0), .ref (a13.1 0), .null, .null]))] ++ blk_1 (cyE E) a1) ++ blk_1 (cyE E) a2) ++ blk_1 (cyE E) a3) ++ [(q4, .inl (cyE E 4, 2, .inr (.inr (.inr (.inr (va_up (va_up (fun _ => none) 0 (some (a5 0))) 1 (some (a6 0))))))))]) ++ blk_1 (cyE E) a5) ++ blk_1 (cyE E) a6) ++ [(q7, .inl (cyE E 2, 2, .inl (fun _ => 0)))]) ++ blk_6 (cyE E) a8) ++ blk_9 (cyE E) a9) ++ blk_0 (cyE E) a10) ++ blk_5 (cyE E) a11) ++ blk_4 (cyE E) a12) ++ blk_8 (cyE E) a13) ++ blk_7 (cyE E) a14)) rfl ?_
  refine c_put 0 11 (ty := (.object "TrustClub$Rings")) hnm giX10 tyX10 tyX10_ok nmX10 rfl rfl (by decide) qc_390 rfl rfl (by decide +kernel) rfl rfl (Nat.le_of_ble_eq_true rfl) dX10_init_152 ?_
  refine c_ws (ws' := (((((((((((((([(h0, .inr (10, [.ref (a1 0), .ref (a2 0), .ref (a3 0), .ref q4, .ref q7, .ref (a8.1 0), .ref (a9 0), .ref (a10 0), .ref (a11 0), .ref (a12 0), .ref (a13.1 0), .ref (a14 0), .null]))] ++ blk_1 (cyE E) a1) ++ blk_1 (cyE E) a2) ++ blk_1 (cyE E) a3) ++ [(q4, .inl (cyE E 4, 2, .inr (.inr (.inr (.inr (va_up (va_up (fun _ => none) 0 (some (a5 0))) 1 (some (a6 0))))))))]) ++ blk_1 (cyE E) a5) ++ blk_1 (cyE E) a6) ++ [(q7, .inl (cyE E 2, 2, .inl (fun _ => 0)))]) ++ blk_6 (cyE E) a8) ++ blk_9 (cyE E) a9) ++ blk_0 (cyE E) a10) ++ blk_5 (cyE E) a11) ++ blk_4 (cyE E) a12) ++ blk_8 (cyE E) a13) ++ blk_7 (cyE E) a14)) rfl ?_
  refine c_aload1 dX10_init_155 rfl ?_
  refine c_new (ci := 2) (fs := [.int 0, .int 0, .int 0, .int 0]) giX2 tyX2 tyX2_ok qc_356 qc_357 qc_104 rfl dfX2 (Nat.le_of_ble_eq_true rfl) (Nat.le_of_ble_eq_true rfl) dX10_init_156 (fun q15 => ?_)
  refine c_dup dX10_init_159 ?_
  refine c_callN kinit_2 cwi_10_81 (Nat.le_of_ble_eq_true rfl) (Nat.le_of_ble_eq_true rfl) (Nat.le_of_ble_eq_true rfl) (Nat.le_of_ble_eq_true rfl) (Nat.le_of_ble_eq_true rfl) dX10_init_160 (fun a15 ea15 => ?_)
  subst ea15
  refine c_ws (ws' := ((((((((((((((([(h0, .inr (10, [.ref (a1 0), .ref (a2 0), .ref (a3 0), .ref q4, .ref q7, .ref (a8.1 0), .ref (a9 0), .ref (a10 0), .ref (a11 0), .ref (a12 0), .ref (a13.1 0), .ref (a14 0), .null]))] ++ blk_1 (cyE E) a1) ++ blk_1 (cyE E) a2) ++ blk_1 (cyE E) a3) ++ [(q4, .inl (cyE E 4, 2, .inr (.inr (.inr (.inr (va_up (va_up (fun _ => none) 0 (some (a5 0))) 1 (some (a6 0))))))))]) ++ blk_1 (cyE E) a5) ++ blk_1 (cyE E) a6) ++ [(q7, .inl (cyE E 2, 2, .inl (fun _ => 0)))]) ++ blk_6 (cyE E) a8) ++ blk_9 (cyE E) a9) ++ blk_0 (cyE E) a10) ++ blk_5 (cyE E) a11) ++ blk_4 (cyE E) a12) ++ blk_8 (cyE E) a13) ++ blk_7 (cyE E) a14) ++ blk_2 (cyE E) a15)) rfl ?_
  refine c_put 0 12 (ty := (.object "TrustClub$Failing")) hnm giX10 tyX10 tyX10_ok nmX10 rfl rfl (by decide) qc_391 rfl rfl (by decide +kernel) rfl rfl (Nat.le_of_ble_eq_true rfl) dX10_init_163 ?_
  refine c_ws (ws' := ((((((((((((((([(h0, .inr (10, [.ref (a1 0), .ref (a2 0), .ref (a3 0), .ref q4, .ref q7, .ref (a8.1 0), .ref (a9 0), .ref (a10 0), .ref (a11 0), .ref (a12 0), .ref (a13.1 0), .ref (a14 0), .ref (a15 0)]))] ++ blk_1 (cyE E) a1) ++ blk_1 (cyE E) a2) ++ blk_1 (cyE E) a3) ++ [(q4, .inl (cyE E 4, 2, .inr (.inr (.inr (.inr (va_up (va_up (fun _ => none) 0 (some (a5 0))) 1 (some (a6 0))))))))]) ++ blk_1 (cyE E) a5) ++ blk_1 (cyE E) a6) ++ [(q7, .inl (cyE E 2, 2, .inl (fun _ => 0)))]) ++ blk_6 (cyE E) a8) ++ blk_9 (cyE E) a9) ++ blk_0 (cyE E) a10) ++ blk_5 (cyE E) a11) ++ blk_4 (cyE E) a12) ++ blk_8 (cyE E) a13) ++ blk_7 (cyE E) a14) ++ blk_2 (cyE E) a15)) rfl ?_
  exact c_ret ((fun k => [h0, q4, q7].getD k 0), (fun k => [a1, a2, a3, a5, a6, a9, a10, a11, a12, a14, a15].getD k (fun _ => 0)), a8, a13) hR (Nat.le_of_ble_eq_true rfl) (Nat.le_of_ble_eq_true rfl) rfl rfl dX10_init_166
def blk_11 (cy : Nat → ClassId) (a : Nat → Nat) : va_W := [(a 0, .inr (11, [.ref (a 1), .ref (a 2), .int 0, .ref (a 3), .int 0, .int 0, .int 0, .int 0, .int 0, .ref (a 4), .ref (a 5), .ref (a 6), .ref (a 7), .int 0, .int (-1), .ref (a 8), .int 0, .int 0, .int 0, .ref (a 9), .ref (a 10), .ref (a 11), .ref (a 12), .int 0, .ref (a 13), .int 0, .ref (a 14), .ref (a 15), .int 0, .int 0, .ref (a 16), .ref (a 17)])), (a 1, .inl (cy 0, 405, .inl (upd (fun _ => 0) 0 2))), (a 2, .inl (cy 1, 80, .inl (fun _ => 0))), (a 3, .inl (cy 3, 2400, .inr (.inl (fun _ => 0)))), (a 4, .inl (cy 0, 320, .inl (fun _ => 0))), (a 5, .inl (cy 0, 64, .inl (fun _ => 0))), (a 6, .inl (cy 0, 8, .inl (fun _ => 0))), (a 7, .inl (cy 0, 8, .inl (fun _ => 0))), (a 8, .inl (cy 0, 1620, .inl (fun _ => 0))), (a 9, .inl (cy 0, 8, .inl (fun _ => 0))), (a 10, .inl (cy 0, 5, .inl (fun _ => 0))), (a 11, .inl (cy 0, 5, .inl (fun _ => 0))), (a 12, .inl (cy 0, 2430, .inl (fun _ => 0))), (a 13, .inl (cy 0, 64, .inl (fun _ => 0))), (a 14, .inl (cy 0, 3240, .inl (fun _ => 0))), (a 15, .inl (cy 0, 405, .inl (fun _ => 0))), (a 16, .inl (cy 0, 810, .inl (fun _ => 0))), (a 17, .inl (cy 2, 2, .inl (fun _ => 0)))]
set_option maxHeartbeats 4000000 in
set_option maxRecDepth 8000 in
theorem kinit_11 : MC yX11_init cX11_init 1 1 40 17 11874 11 [.null, .null, .int 0, .null, .int 0, .int 0, .int 0, .int 0, .int 0, .null, .null, .null, .null, .int 0, .int 0, .null, .int 0, .int 0, .int 0, .null, .null, .null, .null, .int 0, .null, .int 0, .null, .null, .int 0, .int 0, .null, .null] (fun a : Nat → Nat => a 0) blk_11 := by
  refine m_C (own := RX11) (by decide +kernel) rfl rfl (by decide) (fun E h0 hR hnm => ?_)
  refine c_aload dX11_init_0 rfl ?_
  refine c_obj qc_1102 qo_i qo_c (Nat.le_of_ble_eq_true rfl) (Nat.le_of_ble_eq_true rfl) dX11_init_1 ?_
  refine c_aload dX11_init_4 rfl ?_
  refine c_sipush 405 dX11_init_5 rfl ?_
  refine c_newa 0 (atype := .int) (ty := .int) (N := 405) (a0 := (405, .inl (fun _ => 0))) qa_int rfl (ra_p (fun _ _ => rfl)) (fun _ => rfl) (fun _ => rfl) (by decide) rfl (Nat.le_of_ble_eq_true rfl) (Nat.le_of_ble_eq_true rfl) (Nat.le_of_ble_eq_true rfl) dX11_init_8 (fun q1 => ?_)
  refine c_ws (ws' := [(h0, .inr (11, [.null, .null, .int 0, .null, .int 0, .int 0, .int 0, .int 0, .int 0, .null, .null, .null, .null, .int 0, .int 0, .null, .int 0, .int 0, .int 0, .null, .null, .null, .null, .int 0, .null, .int 0, .null, .null, .int 0, .int 0, .null, .null])), (q1, .inl (cyE E 0, 405, .inl (fun _ => 0)))]) rfl ?_
  refine c_put 0 0 (ty := (.array .int)) hnm giX11 tyX11 tyX11_ok nmX11 rfl rfl (by decide) qc_1103 rfl rfl (by decide +kernel) rfl rfl (Nat.le_of_ble_eq_true rfl) dX11_init_10 ?_
  refine c_ws (ws' := [(h0, .inr (11, [.ref q1, .null, .int 0, .null, .int 0, .int 0, .int 0, .int 0, .int 0, .null, .null, .null, .null, .int 0, .int 0, .null, .int 0, .int 0, .int 0, .null, .null, .null, .null, .int 0, .null, .int 0, .null, .null, .int 0, .int 0, .null, .null])), (q1, .inl (cyE E 0, 405, .inl (fun _ => 0)))]) rfl ?_
  refine c_aload dX11_init_13 rfl ?_
  refine c_bipush 80 dX11_init_14 rfl ?_
  refine c_newa 1 (atype := .byte) (ty := .byte) (N := 80) (a0 := (80, .inl (fun _ => 0))) qa_byte rfl (ra_p (fun _ _ => rfl)) (fun _ => rfl) (fun _ => rfl) (by decide) rfl (Nat.le_of_ble_eq_true rfl) (Nat.le_of_ble_eq_true rfl) (Nat.le_of_ble_eq_true rfl) dX11_init_16 (fun q2 => ?_)
  refine c_ws (ws' := [(h0, .inr (11, [.ref q1, .null, .int 0, .null, .int 0, .int 0, .int 0, .int 0, .int 0, .null, .null, .null, .null, .int 0, .int 0, .null, .int 0, .int 0, .int 0, .null, .null, .null, .null, .int 0, .null, .int 0, .null, .null, .int 0, .int 0, .null, .null])), (q1, .inl (cyE E 0, 405, .inl (fun _ => 0))), (q2, .inl (cyE E 1, 80, .inl (fun _ => 0)))]) rfl ?_
  refine c_put 0 1 (ty := (.array .byte)) hnm giX11 tyX11 tyX11_ok nmX11 rfl rfl (by decide) qc_1104 rfl rfl (by decide +kernel) rfl rfl (Nat.le_of_ble_eq_true rfl) dX11_init_18 ?_
  refine c_ws (ws' := [(h0, .inr (11, [.ref q1, .ref q2, .int 0, .null, .int 0, .int 0, .int 0, .int 0, .int 0, .null, .null, .null, .null, .int 0, .int 0, .null, .int 0, .int 0, .int 0, .null, .null, .null, .null, .int 0, .null, .int 0, .null, .null, .int 0, .int 0, .null, .null])), (q1, .inl (cyE E 0, 405, .inl (fun _ => 0))), (q2, .inl (cyE E 1, 80, .inl (fun _ => 0)))]) rfl ?_
  refine c_aload dX11_init_21 rfl ?_
  refine c_sipush 2400 dX11_init_22 rfl ?_
  refine c_newa 3 (atype := .long) (ty := .long) (N := 2400) (a0 := (2400, .inr (.inl (fun _ => 0)))) qa_long rfl (ra_p (fun _ _ => rfl)) (fun _ => rfl) (fun _ => rfl) (by decide) rfl (Nat.le_of_ble_eq_true rfl) (Nat.le_of_ble_eq_true rfl) (Nat.le_of_ble_eq_true rfl) dX11_init_25 (fun q3 => ?_)
  refine c_ws (ws' := [(h0, .inr (11, [.ref q1, .ref q2, .int 0, .null, .int 0, .int 0, .int 0, .int 0, .int 0, .null, .null, .null, .null, .int 0, .int 0, .null, .int 0, .int 0, .int 0, .null, .null, .null, .null, .int 0, .null, .int 0, .null, .null, .int 0, .int 0, .null, .null])), (q1, .inl (cyE E 0, 405, .inl (fun _ => 0))), (q2, .inl (cyE E 1, 80, .inl (fun _ => 0))), (q3, .inl (cyE E 3, 2400, .inr (.inl (fun _ => 0))))]) rfl ?_
  refine c_put 0 3 (ty := (.array .long)) hnm giX11 tyX11 tyX11_ok nmX11 rfl rfl (by decide) qc_1106 rfl rfl (by decide +kernel) rfl rfl (Nat.le_of_ble_eq_true rfl) dX11_init_27 ?_
  refine c_ws (ws' := [(h0, .inr (11, [.ref q1, .ref q2, .int 0, .ref q3, .int 0, .int 0, .int 0, .int 0, .int 0, .null, .null, .null, .null, .int 0, .int 0, .null, .int 0, .int 0, .int 0, .null, .null, .null, .null, .int 0, .null, .int 0, .null, .null, .int 0, .int 0, .null, .null])), (q1, .inl (cyE E 0, 405, .inl (fun _ => 0))), (q2, .inl (cyE E 1, 80, .inl (fun _ => 0))), (q3, .inl (cyE E 3, 2400, .inr (.inl (fun _ => 0))))]) rfl ?_
  refine c_aload dX11_init_30 rfl ?_
  refine c_sipush 320 dX11_init_31 rfl ?_
  refine c_newa 0 (atype := .int) (ty := .int) (N := 320) (a0 := (320, .inl (fun _ => 0))) qa_int rfl (ra_p (fun _ _ => rfl)) (fun _ => rfl) (fun _ => rfl) (by decide) rfl (Nat.le_of_ble_eq_true rfl) (Nat.le_of_ble_eq_true rfl) (Nat.le_of_ble_eq_true rfl) dX11_init_34 (fun q4 => ?_)
  refine c_ws (ws' := [(h0, .inr (11, [.ref q1, .ref q2, .int 0, .ref q3, .int 0, .int 0, .int 0, .int 0, .int 0, .null, .null, .null, .null, .int 0, .int 0, .null, .int 0, .int 0, .int 0, .null, .null, .null, .null, .int 0, .null, .int 0, .null, .null, .int 0, .int 0, .null, .null])), (q1, .inl (cyE E 0, 405, .inl (fun _ => 0))), (q2, .inl (cyE E 1, 80, .inl (fun _ => 0))), (q3, .inl (cyE E 3, 2400, .inr (.inl (fun _ => 0)))), (q4, .inl (cyE E 0, 320, .inl (fun _ => 0)))]) rfl ?_
  refine c_put 0 9 (ty := (.array .int)) hnm giX11 tyX11 tyX11_ok nmX11 rfl rfl (by decide) qc_1112 rfl rfl (by decide +kernel) rfl rfl (Nat.le_of_ble_eq_true rfl) dX11_init_36 ?_
  refine c_ws (ws' := [(h0, .inr (11, [.ref q1, .ref q2, .int 0, .ref q3, .int 0, .int 0, .int 0, .int 0, .int 0, .ref q4, .null, .null, .null, .int 0, .int 0, .null, .int 0, .int 0, .int 0, .null, .null, .null, .null, .int 0, .null, .int 0, .null, .null, .int 0, .int 0, .null, .null])), (q1, .inl (cyE E 0, 405, .inl (fun _ => 0))), (q2, .inl (cyE E 1, 80, .inl (fun _ => 0))), (q3, .inl (cyE E 3, 2400, .inr (.inl (fun _ => 0)))), (q4, .inl (cyE E 0, 320, .inl (fun _ => 0)))]) rfl ?_
  refine c_aload dX11_init_39 rfl ?_
  refine c_bipush 64 dX11_init_40 rfl ?_
  refine c_newa 0 (atype := .int) (ty := .int) (N := 64) (a0 := (64, .inl (fun _ => 0))) qa_int rfl (ra_p (fun _ _ => rfl)) (fun _ => rfl) (fun _ => rfl) (by decide) rfl (Nat.le_of_ble_eq_true rfl) (Nat.le_of_ble_eq_true rfl) (Nat.le_of_ble_eq_true rfl) dX11_init_42 (fun q5 => ?_)
  refine c_ws (ws' := [(h0, .inr (11, [.ref q1, .ref q2, .int 0, .ref q3, .int 0, .int 0, .int 0, .int 0, .int 0, .ref q4, .null, .null, .null, .int 0, .int 0, .null, .int 0, .int 0, .int 0, .null, .null, .null, .null, .int 0, .null, .int 0, .null, .null, .int 0, .int 0, .null, .null])), (q1, .inl (cyE E 0, 405, .inl (fun _ => 0))), (q2, .inl (cyE E 1, 80, .inl (fun _ => 0))), (q3, .inl (cyE E 3, 2400, .inr (.inl (fun _ => 0)))), (q4, .inl (cyE E 0, 320, .inl (fun _ => 0))), (q5, .inl (cyE E 0, 64, .inl (fun _ => 0)))]) rfl ?_
  refine c_put 0 10 (ty := (.array .int)) hnm giX11 tyX11 tyX11_ok nmX11 rfl rfl (by decide) qc_1113 rfl rfl (by decide +kernel) rfl rfl (Nat.le_of_ble_eq_true rfl) dX11_init_44 ?_
  refine c_ws (ws' := [(h0, .inr (11, [.ref q1, .ref q2, .int 0, .ref q3, .int 0, .int 0, .int 0, .int 0, .int 0, .ref q4, .ref q5, .null, .null, .int 0, .int 0, .null, .int 0, .int 0, .int 0, .null, .null, .null, .null, .int 0, .null, .int 0, .null, .null, .int 0, .int 0, .null, .null])), (q1, .inl (cyE E 0, 405, .inl (fun _ => 0))), (q2, .inl (cyE E 1, 80, .inl (fun _ => 0))), (q3, .inl (cyE E 3, 2400, .inr (.inl (fun _ => 0)))), (q4, .inl (cyE E 0, 320, .inl (fun _ => 0))), (q5, .inl (cyE E 0, 64, .inl (fun _ => 0)))]) rfl ?_
  refine c_aload dX11_init_47 rfl ?_
  refine c_bipush 8 dX11_init_48 rfl ?_
  refine c_newa 0 (atype := .int) (ty := .int) (N := 8) (a0 := (8, .inl (fun _ => 0))) qa_int rfl (ra_p (fun _ _ => rfl)) (fun _ => rfl) (fun _ => rfl) (by decide) rfl (Nat.le_of_ble_eq_true rfl) (Nat.le_of_ble_eq_true rfl) (Nat.le_of_ble_eq_true rfl) dX11_init_50 (fun q6 => ?_)
  refine c_ws (ws' := [(h0, .inr (11, [.ref q1, .ref q2, .int 0, .ref q3, .int 0, .int 0, .int 0, .int 0, .int 0, .ref q4, .ref q5, .null, .null, .int 0, .int 0, .null, .int 0, .int 0, .int 0, .null, .null, .null, .null, .int 0, .null, .int 0, .null, .null, .int 0, .int 0, .null, .null])), (q1, .inl (cyE E 0, 405, .inl (fun _ => 0))), (q2, .inl (cyE E 1, 80, .inl (fun _ => 0))), (q3, .inl (cyE E 3, 2400, .inr (.inl (fun _ => 0)))), (q4, .inl (cyE E 0, 320, .inl (fun _ => 0))), (q5, .inl (cyE E 0, 64, .inl (fun _ => 0))), (q6, .inl (cyE E 0, 8, .inl (fun _ => 0)))]) rfl ?_
  refine c_put 0 11 (ty := (.array .int)) hnm giX11 tyX11 tyX11_ok nmX11 rfl rfl (by decide) qc_1114 rfl rfl (by decide +kernel) rfl rfl (Nat.le_of_ble_eq_true rfl) dX11_init_52 ?_
  refine c_ws (ws' := [(h0, .inr (11, [.ref q1, .ref q2, .int 0, .ref q3, .int 0, .int 0, .int 0, .int 0, .int 0, .ref q4, .ref q5, .ref q6, .null, .int 0, .int 0, .null, .int 0, .int 0, .int 0, .null, .null, .null, .null, .int 0, .null, .int 0, .null, .null, .int 0, .int 0, .null, .null])), (q1, .inl (cyE E 0, 405, .inl (fun _ => 0))), (q2, .inl (cyE E 1, 80, .inl (fun _ => 0))), (q3, .inl (cyE E 3, 2400, .inr (.inl (fun _ => 0)))), (q4, .inl (cyE E 0, 320, .inl (fun _ => 0))), (q5, .inl (cyE E 0, 64, .inl (fun _ => 0))), (q6, .inl (cyE E 0, 8, .inl (fun _ => 0)))]) rfl ?_
  refine c_aload dX11_init_55 rfl ?_
  refine c_bipush 8 dX11_init_56 rfl ?_
  refine c_newa 0 (atype := .int) (ty := .int) (N := 8) (a0 := (8, .inl (fun _ => 0))) qa_int rfl (ra_p (fun _ _ => rfl)) (fun _ => rfl) (fun _ => rfl) (by decide) rfl (Nat.le_of_ble_eq_true rfl) (Nat.le_of_ble_eq_true rfl) (Nat.le_of_ble_eq_true rfl) dX11_init_58 (fun q7 => ?_)
  refine c_ws (ws' := [(h0, .inr (11, [.ref q1, .ref q2, .int 0, .ref q3, .int 0, .int 0, .int 0, .int 0, .int 0, .ref q4, .ref q5, .ref q6, .null, .int 0, .int 0, .null, .int 0, .int 0, .int 0, .null, .null, .null, .null, .int 0, .null, .int 0, .null, .null, .int 0, .int 0, .null, .null])), (q1, .inl (cyE E 0, 405, .inl (fun _ => 0))), (q2, .inl (cyE E 1, 80, .inl (fun _ => 0))), (q3, .inl (cyE E 3, 2400, .inr (.inl (fun _ => 0)))), (q4, .inl (cyE E 0, 320, .inl (fun _ => 0))), (q5, .inl (cyE E 0, 64, .inl (fun _ => 0))), (q6, .inl (cyE E 0, 8, .inl (fun _ => 0))), (q7, .inl (cyE E 0, 8, .inl (fun _ => 0)))]) rfl ?_
  refine c_put 0 12 (ty := (.array .int)) hnm giX11 tyX11 tyX11_ok nmX11 rfl rfl (by decide) qc_1115 rfl rfl (by decide +kernel) rfl rfl (Nat.le_of_ble_eq_true rfl) dX11_init_60 ?_
  refine c_ws (ws' := [(h0, .inr (11, [.ref q1, .ref q2, .int 0, .ref q3, .int 0, .int 0, .int 0, .int 0, .int 0, .ref q4, .ref q5, .ref q6, .ref q7, .int 0, .int 0, .null, .int 0, .int 0, .int 0, .null, .null, .null, .null, .int 0, .null, .int 0, .null, .null, .int 0, .int 0, .null, .null])), (q1, .inl (cyE E 0, 405, .inl (fun _ => 0))), (q2, .inl (cyE E 1, 80, .inl (fun _ => 0))), (q3, .inl (cyE E 3, 2400, .inr (.inl (fun _ => 0)))), (q4, .inl (cyE E 0, 320, .inl (fun _ => 0))), (q5, .inl (cyE E 0, 64, .inl (fun _ => 0))), (q6, .inl (cyE E 0, 8, .inl (fun _ => 0))), (q7, .inl (cyE E 0, 8, .inl (fun _ => 0)))]) rfl ?_
  refine c_aload dX11_init_63 rfl ?_
  refine c_iconst (-1) dX11_init_64 rfl ?_
  refine c_put 0 14 (ty := .int) hnm giX11 tyX11 tyX11_ok nmX11 rfl rfl (by decide) qc_1117 rfl rfl (by decide +kernel) rfl rfl (Nat.le_of_ble_eq_true rfl) dX11_init_65 ?_
  refine c_ws (ws' := [(h0, .inr (11, [.ref q1, .ref q2, .int 0, .ref q3, .int 0, .int 0, .int 0, .int 0, .int 0, .ref q4, .ref q5, .ref q6, .ref q7, .int 0, .int (-1), .null, .int 0, .int 0, .int 0, .null, .null, .null, .null, .int 0, .null, .int 0, .null, .null, .int 0, .int 0, .null, .null])), (q1, .inl (cyE E 0, 405, .inl (fun _ => 0))), (q2, .inl (cyE E 1, 80, .inl (fun _ => 0))), (q3, .inl (cyE E 3, 2400, .inr (.inl (fun _ => 0)))), (q4, .inl (cyE E 0, 320, .inl (fun _ => 0))), (q5, .inl (cyE E 0, 64, .inl (fun _ => 0))), (q6, .inl (cyE E 0, 8, .inl (fun _ => 0))), (q7, .inl (cyE E 0, 8, .inl (fun _ => 0)))]) rfl ?_
  refine c_aload dX11_init_68 rfl ?_
  refine c_sipush 1620 dX11_init_69 rfl ?_
  refine c_newa 0 (atype := .int) (ty := .int) (N := 1620) (a0 := (1620, .inl (fun _ => 0))) qa_int rfl (ra_p (fun _ _ => rfl)) (fun _ => rfl) (fun _ => rfl) (by decide) rfl (Nat.le_of_ble_eq_true rfl) (Nat.le_of_ble_eq_true rfl) (Nat.le_of_ble_eq_true rfl) dX11_init_72 (fun q8 => ?_)
  refine c_ws (ws' := [(h0, .inr (11, [.ref q1, .ref q2, .int 0, .ref q3, .int 0, .int 0, .int 0, .int 0, .int 0, .ref q4, .ref q5, .ref q6, .ref q7, .int 0, .int (-1), .null, .int 0, .int 0, .int 0, .null, .null, .null, .null, .int 0, .null, .int 0, .null, .null, .int 0, .int 0, .null, .null])), (q1, .inl (cyE E 0, 405, .inl (fun _ => 0))), (q2, .inl (cyE E 1, 80, .inl (fun _ => 0))), (q3, .inl (cyE E 3, 2400, .inr (.inl (fun _ => 0)))), (q4, .inl (cyE E 0, 320, .inl (fun _ => 0))), (q5, .inl (cyE E 0, 64, .inl (fun _ => 0))), (q6, .inl (cyE E 0, 8, .inl (fun _ => 0))), (q7, .inl (cyE E 0, 8, .inl (fun _ => 0))), (q8, .inl (cyE E 0, 1620, .inl (fun _ => 0)))]) rfl ?_
  refine c_put 0 15 (ty := (.array .int)) hnm giX11 tyX11 tyX11_ok nmX11 rfl rfl (by decide) qc_1118 rfl rfl (by decide +kernel) rfl rfl (Nat.le_of_ble_eq_true rfl) dX11_init_74 ?_
  refine c_ws (ws' := [(h0, .inr (11, [.ref q1, .ref q2, .int 0, .ref q3, .int 0, .int 0, .int 0, .int 0, .int 0, .ref q4, .ref q5, .ref q6, .ref q7, .int 0, .int (-1), .ref q8, .int 0, .int 0, .int 0, .null, .null, .null, .null, .int 0, .null, .int 0, .null, .null, .int 0, .int 0, .null, .null])), (q1, .inl (cyE E 0, 405, .inl (fun _ => 0))), (q2, .inl (cyE E 1, 80, .inl (fun _ => 0))), (q3, .inl (cyE E 3, 2400, .inr (.inl (fun _ => 0)))), (q4, .inl (cyE E 0, 320, .inl (fun _ => 0))), (q5, .inl (cyE E 0, 64, .inl (fun _ => 0))), (q6, .inl (cyE E 0, 8, .inl (fun _ => 0))), (q7, .inl (cyE E 0, 8, .inl (fun _ => 0))), (q8, .inl (cyE E 0, 1620, .inl (fun _ => 0)))]) rfl ?_
  refine c_aload dX11_init_77 rfl ?_
  refine c_bipush 8 dX11_init_78 rfl ?_
  refine c_newa 0 (atype := .int) (ty := .int) (N := 8) (a0 := (8, .inl (fun _ => 0))) qa_int rfl (ra_p (fun _ _ => rfl)) (fun _ => rfl) (fun _ => rfl) (by decide) rfl (Nat.le_of_ble_eq_true rfl) (Nat.le_of_ble_eq_true rfl) (Nat.le_of_ble_eq_true rfl) dX11_init_80 (fun q9 => ?_)
  refine c_ws (ws' := [(h0, .inr (11, [.ref q1, .ref q2, .int 0, .ref q3, .int 0, .int 0, .int 0, .int 0, .int 0, .ref q4, .ref q5, .ref q6, .ref q7, .int 0, .int (-1), .ref q8, .int 0, .int 0, .int 0, .null, .null, .null, .null, .int 0, .null, .int 0, .null, .null, .int 0, .int 0, .null, .null])), (q1, .inl (cyE E 0, 405, .inl (fun _ => 0))), (q2, .inl (cyE E 1, 80, .inl (fun _ => 0))), (q3, .inl (cyE E 3, 2400, .inr (.inl (fun _ => 0)))), (q4, .inl (cyE E 0, 320, .inl (fun _ => 0))), (q5, .inl (cyE E 0, 64, .inl (fun _ => 0))), (q6, .inl (cyE E 0, 8, .inl (fun _ => 0))), (q7, .inl (cyE E 0, 8, .inl (fun _ => 0))), (q8, .inl (cyE E 0, 1620, .inl (fun _ => 0))), (q9, .inl (cyE E 0, 8, .inl (fun _ => 0)))]) rfl ?_
  refine c_put 0 19 (ty := (.array .int)) hnm giX11 tyX11 tyX11_ok nmX11 rfl rfl (by decide) qc_1122 rfl rfl (by decide +kernel) rfl rfl (Nat.le_of_ble_eq_true rfl) dX11_init_82 ?_
  refine c_ws (ws' := [(h0, .inr (11, [.ref q1, .ref q2, .int 0, .ref q3, .int 0, .int 0, .int 0, .int 0, .int 0, .ref q4, .ref q5, .ref q6, .ref q7, .int 0, .int (-1), .ref q8, .int 0, .int 0, .int 0, .ref q9, .null, .null, .null, .int 0, .null, .int 0, .null, .null, .int 0, .int 0, .null, .null])), (q1, .inl (cyE E 0, 405, .inl (fun _ => 0))), (q2, .inl (cyE E 1, 80, .inl (fun _ => 0))), (q3, .inl (cyE E 3, 2400, .inr (.inl (fun _ => 0)))), (q4, .inl (cyE E 0, 320, .inl (fun _ => 0))), (q5, .inl (cyE E 0, 64, .inl (fun _ => 0))), (q6, .inl (cyE E 0, 8, .inl (fun _ => 0))), (q7, .inl (cyE E 0, 8, .inl (fun _ => 0))), (q8, .inl (cyE E 0, 1620, .inl (fun _ => 0))), (q9, .inl (cyE E 0, 8, .inl (fun _ => 0)))]) rfl ?_
  refine c_aload dX11_init_85 rfl ?_
  refine c_iconst 5 dX11_init_86 rfl ?_
  refine c_newa 0 (atype := .int) (ty := .int) (N := 5) (a0 := (5, .inl (fun _ => 0))) qa_int rfl (ra_p (fun _ _ => rfl)) (fun _ => rfl) (fun _ => rfl) (by decide) rfl (Nat.le_of_ble_eq_true rfl) (Nat.le_of_ble_eq_true rfl) (Nat.le_of_ble_eq_true rfl) dX11_init_87 (fun q10 => ?_)
  refine c_ws (ws' := [(h0, .inr (11, [.ref q1, .ref q2, .int 0, .ref q3, .int 0, .int 0, .int 0, .int 0, .int 0, .ref q4, .ref q5, .ref q6, .ref q7, .int 0, .int (-1), .ref q8, .int 0, .int 0, .int 0, .ref q9, .null, .null, .null, .int 0, .null, .int 0, .null, .null, .int 0, .int 0, .null, .null])), (q1, .inl (cyE E 0, 405, .inl (fun _ => 0))), (q2, .inl (cyE E 1, 80, .inl (fun _ => 0))), (q3, .inl (cyE E 3, 2400, .inr (.inl (fun _ => 0)))), (q4, .inl (cyE E 0, 320, .inl (fun _ => 0))), (q5, .inl (cyE E 0, 64, .inl (fun _ => 0))), (q6, .inl (cyE E 0, 8, .inl (fun _ => 0))), (q7, .inl (cyE E 0, 8, .inl (fun _ => 0))), (q8, .inl (cyE E 0, 1620, .inl (fun _ => 0))), (q9, .inl (cyE E 0, 8, .inl (fun _ => 0))), (q10, .inl (cyE E 0, 5, .inl (fun _ => 0)))]) rfl ?_
  refine c_put 0 20 (ty := (.array .int)) hnm giX11 tyX11 tyX11_ok nmX11 rfl rfl (by decide) qc_1123 rfl rfl (by decide +kernel) rfl rfl (Nat.le_of_ble_eq_true rfl) dX11_init_89 ?_
  refine c_ws (ws' := [(h0, .inr (11, [.ref q1, .ref q2, .int 0, .ref q3, .int 0, .int 0, .int 0, .int 0, .int 0, .ref q4, .ref q5, .ref q6, .ref q7, .int 0, .int (-1), .ref q8, .int 0, .int 0, .int 0, .ref q9, .ref q10, .null, .null, .int 0, .null, .int 0, .null, .null, .int 0, .int 0, .null, .null])), (q1, .inl (cyE E 0, 405, .inl (fun _ => 0))), (q2, .inl (cyE E 1, 80, .inl (fun _ => 0))), (q3, .inl (cyE E 3, 2400, .inr (.inl (fun _ => 0)))), (q4, .inl (cyE E 0, 320, .inl (fun _ => 0))), (q5, .inl (cyE E 0, 64, .inl (fun _ => 0))), (q6, .inl (cyE E 0, 8, .inl (fun _ => 0))), (q7, .inl (cyE E 0, 8, .inl (fun _ => 0))), (q8, .inl (cyE E 0, 1620, .inl (fun _ => 0))), (q9, .inl (cyE E 0, 8, .inl (fun _ => 0))), (q10, .inl (cyE E 0, 5, .inl (fun _ => 0)))]) rfl ?_
  refine c_aload dX11_init_92 rfl ?_
  refine c_iconst 5 dX11_init_93 rfl ?_
  refine c_newa 0 (atype := .int) (ty := .int) (N := 5) (a0 := (5, .inl (fun _ => 0))) qa_int rfl (ra_p (fun _ _ => rfl)) (fun _ => rfl) (fun _ => rfl) (by decide) rfl (Nat.le_of_ble_eq_true rfl) (Nat.le_of_ble_eq_true rfl) (Nat.le_of_ble_eq_true rfl) dX11_init_94 (fun q11 => ?_)
  refine c_ws (ws' := [(h0, .inr (11, [.ref q1, .ref q2, .int 0, .ref q3, .int 0, .int 0, .int 0, .int 0, .int 0, .ref q4, .ref q5, .ref q6, .ref q7, .int 0, .int (-1), .ref q8, .int 0, .int 0, .int 0, .ref q9, .ref q10, .null, .null, .int 0, .null, .int 0, .null, .null, .int 0, .int 0, .null, .null])), (q1, .inl (cyE E 0, 405, .inl (fun _ => 0))), (q2, .inl (cyE E 1, 80, .inl (fun _ => 0))), (q3, .inl (cyE E 3, 2400, .inr (.inl (fun _ => 0)))), (q4, .inl (cyE E 0, 320, .inl (fun _ => 0))), (q5, .inl (cyE E 0, 64, .inl (fun _ => 0))), (q6, .inl (cyE E 0, 8, .inl (fun _ => 0))), (q7, .inl (cyE E 0, 8, .inl (fun _ => 0))), (q8, .inl (cyE E 0, 1620, .inl (fun _ => 0))), (q9, .inl (cyE E 0, 8, .inl (fun _ => 0))), (q10, .inl (cyE E 0, 5, .inl (fun _ => 0))), (q11, .inl (cyE E 0, 5, .inl (fun _ => 0)))]) rfl ?_
  refine c_put 0 21 (ty := (.array .int)) hnm giX11 tyX11 tyX11_ok nmX11 rfl rfl (by decide) qc_1124 rfl rfl (by decide +kernel) rfl rfl (Nat.le_of_ble_eq_true rfl) dX11_init_96 ?_
  refine c_ws (ws' := [(h0, .inr (11, [.ref q1, .ref q2, .int 0, .ref q3, .int 0, .int 0, .int 0, .int 0, .int 0, .ref q4, .ref q5, .ref q6, .ref q7, .int 0, .int (-1), .ref q8, .int 0, .int 0, .int 0, .ref q9, .ref q10, .ref q11, .null, .int 0, .null, .int 0, .null, .null, .int 0, .int 0, .null, .null])), (q1, .inl (cyE E 0, 405, .inl (fun _ => 0))), (q2, .inl (cyE E 1, 80, .inl (fun _ => 0))), (q3, .inl (cyE E 3, 2400, .inr (.inl (fun _ => 0)))), (q4, .inl (cyE E 0, 320, .inl (fun _ => 0))), (q5, .inl (cyE E 0, 64, .inl (fun _ => 0))), (q6, .inl (cyE E 0, 8, .inl (fun _ => 0))), (q7, .inl (cyE E 0, 8, .inl (fun _ => 0))), (q8, .inl (cyE E 0, 1620, .inl (fun _ => 0))), (q9, .inl (cyE E 0, 8, .inl (fun _ => 0))), (q10, .inl (cyE E 0, 5, .inl (fun _ => 0))), (q11, .inl (cyE E 0, 5, .inl (fun _ => 0)))]) rfl ?_
  refine c_aload dX11_init_99 rfl ?_
  refine c_sipush 2430 dX11_init_100 rfl ?_
  refine c_newa 0 (atype := .int) (ty := .int) (N := 2430) (a0 := (2430, .inl (fun _ => 0))) qa_int rfl (ra_p (fun _ _ => rfl)) (fun _ => rfl) (fun _ => rfl) (by decide) rfl (Nat.le_of_ble_eq_true rfl) (Nat.le_of_ble_eq_true rfl) (Nat.le_of_ble_eq_true rfl) dX11_init_103 (fun q12 => ?_)
  refine c_ws (ws' := [(h0, .inr (11, [.ref q1, .ref q2, .int 0, .ref q3, .int 0, .int 0, .int 0, .int 0, .int 0, .ref q4, .ref q5, .ref q6, .ref q7, .int 0, .int (-1), .ref q8, .int 0, .int 0, .int 0, .ref q9, .ref q10, .ref q11, .null, .int 0, .null, .int 0, .null, .null, .int 0, .int 0, .null, .null])), (q1, .inl (cyE E 0, 405, .inl (fun _ => 0))), (q2, .inl (cyE E 1, 80, .inl (fun _ => 0))), (q3, .inl (cyE E 3, 2400, .inr (.inl (fun _ => 0)))), (q4, .inl (cyE E 0, 320, .inl (fun _ => 0))), (q5, .inl (cyE E 0, 64, .inl (fun _ => 0))), (q6, .inl (cyE E 0, 8, .inl (fun _ => 0))), (q7, .inl (cyE E 0, 8, .inl (fun _ => 0))), (q8, .inl (cyE E 0, 1620, .inl (fun _ => 0))), (q9, .inl (cyE E 0, 8, .inl (fun _ => 0))), (q10, .inl (cyE E 0, 5, .inl (fun _ => 0))), (q11, .inl (cyE E 0, 5, .inl (fun _ => 0))), (q12, .inl (cyE E 0, 2430, .inl (fun _ => 0)))]) rfl ?_
  refine c_put 0 22 (ty := (.array .int)) hnm giX11 tyX11 tyX11_ok nmX11 rfl rfl (by decide) qc_1125 rfl rfl (by decide +kernel) rfl rfl (Nat.le_of_ble_eq_true rfl) dX11_init_105 ?_
  refine c_ws (ws' := [(h0, .inr (11, [.ref q1, .ref q2, .int 0, .ref q3, .int 0, .int 0, .int 0, .int 0, .int 0, .ref q4, .ref q5, .ref q6, .ref q7, .int 0, .int (-1), .ref q8, .int 0, .int 0, .int 0, .ref q9, .ref q10, .ref q11, .ref q12, .int 0, .null, .int 0, .null, .null, .int 0, .int 0, .null, .null])), (q1, .inl (cyE E 0, 405, .inl (fun _ => 0))), (q2, .inl (cyE E 1, 80, .inl (fun _ => 0))), (q3, .inl (cyE E 3, 2400, .inr (.inl (fun _ => 0)))), (q4, .inl (cyE E 0, 320, .inl (fun _ => 0))), (q5, .inl (cyE E 0, 64, .inl (fun _ => 0))), (q6, .inl (cyE E 0, 8, .inl (fun _ => 0))), (q7, .inl (cyE E 0, 8, .inl (fun _ => 0))), (q8, .inl (cyE E 0, 1620, .inl (fun _ => 0))), (q9, .inl (cyE E 0, 8, .inl (fun _ => 0))), (q10, .inl (cyE E 0, 5, .inl (fun _ => 0))), (q11, .inl (cyE E 0, 5, .inl (fun _ => 0))), (q12, .inl (cyE E 0, 2430, .inl (fun _ => 0)))]) rfl ?_
  refine c_aload dX11_init_108 rfl ?_
  refine c_bipush 64 dX11_init_109 rfl ?_
  refine c_newa 0 (atype := .int) (ty := .int) (N := 64) (a0 := (64, .inl (fun _ => 0))) qa_int rfl (ra_p (fun _ _ => rfl)) (fun _ => rfl) (fun _ => rfl) (by decide) rfl (Nat.le_of_ble_eq_true rfl) (Nat.le_of_ble_eq_true rfl) (Nat.le_of_ble_eq_true rfl) dX11_init_111 (fun q13 => ?_)
  refine c_ws (ws' := [(h0, .inr (11, [.ref q1, .ref q2, .int 0, .ref q3, .int 0, .int 0, .int 0, .int 0, .int 0, .ref q4, .ref q5, .ref q6, .ref q7, .int 0, .int (-1), .ref q8, .int 0, .int 0, .int 0, .ref q9, .ref q10, .ref q11, .ref q12, .int 0, .null, .int 0, .null, .null, .int 0, .int 0, .null, .null])), (q1, .inl (cyE E 0, 405, .inl (fun _ => 0))), (q2, .inl (cyE E 1, 80, .inl (fun _ => 0))), (q3, .inl (cyE E 3, 2400, .inr (.inl (fun _ => 0)))), (q4, .inl (cyE E 0, 320, .inl (fun _ => 0))), (q5, .inl (cyE E 0, 64, .inl (fun _ => 0))), (q6, .inl (cyE E 0, 8, .inl (fun _ => 0))), (q7, .inl (cyE E 0, 8, .inl (fun _ => 0))), (q8, .inl (cyE E 0, 1620, .inl (fun _ => 0))), (q9, .inl (cyE E 0, 8, .inl (fun _ => 0))), (q10, .inl (cyE E 0, 5, .inl (fun _ => 0))), (q11, .inl (cyE E 0, 5, .inl (fun _ => 0))), (q12, .inl (cyE E 0, 2430, .inl (fun _ => 0))), (q13, .inl (cyE E 0, 64, .inl (fun _ => 0)))]) rfl ?_
  refine c_put 0 24 (ty := (.array .int)) hnm giX11 tyX11 tyX11_ok nmX11 rfl rfl (by decide) qc_1127 rfl rfl (by decide +kernel) rfl rfl (Nat.le_of_ble_eq_true rfl) dX11_init_113 ?_
  refine c_ws (ws' := [(h0, .inr (11, [.ref q1, .ref q2, .int 0, .ref q3, .int 0, .int 0, .int 0, .int 0, .int 0, .ref q4, .ref q5, .ref q6, .ref q7, .int 0, .int (-1), .ref q8, .int 0, .int 0, .int 0, .ref q9, .ref q10, .ref q11, .ref q12, .int 0, .ref q13, .int 0, .null, .null, .int 0, .int 0, .null, .null])), (q1, .inl (cyE E 0, 405, .inl (fun _ => 0))), (q2, .inl (cyE E 1, 80, .inl (fun _ => 0))), (q3, .inl (cyE E 3, 2400, .inr (.inl (fun _ => 0)))), (q4, .inl (cyE E 0, 320, .inl (fun _ => 0))), (q5, .inl (cyE E 0, 64, .inl (fun _ => 0))), (q6, .inl (cyE E 0, 8, .inl (fun _ => 0))), (q7, .inl (cyE E 0, 8, .inl (fun _ => 0))), (q8, .inl (cyE E 0, 1620, .inl (fun _ => 0))), (q9, .inl (cyE E 0, 8, .inl (fun _ => 0))), (q10, .inl (cyE E 0, 5, .inl (fun _ => 0))), (q11, .inl (cyE E 0, 5, .inl (fun _ => 0))), (q12, .inl (cyE E 0, 2430, .inl (fun _ => 0))), (q13, .inl (cyE E 0, 64, .inl (fun _ => 0)))]) rfl ?_
  refine c_aload dX11_init_116 rfl ?_
  refine c_sipush 3240 dX11_init_117 rfl ?_
  refine c_newa 0 (atype := .int) (ty := .int) (N := 3240) (a0 := (3240, .inl (fun _ => 0))) qa_int rfl (ra_p (fun _ _ => rfl)) (fun _ => rfl) (fun _ => rfl) (by decide) rfl (Nat.le_of_ble_eq_true rfl) (Nat.le_of_ble_eq_true rfl) (Nat.le_of_ble_eq_true rfl) dX11_init_120 (fun q14 => ?_)
  refine c_ws (ws' := [(h0, .inr (11, [.ref q1, .ref q2, .int 0, .ref q3, .int 0, .int 0, .int 0, .int 0, .int 0, .ref q4, .ref q5, .ref q6, .ref q7, .int 0, .int (-1), .ref q8, .int 0, .int 0, .int 0, .ref q9, .ref q10, .ref q11, .ref q12, .int 0, .ref q13, .int 0, .null, .null, .int 0, .int 0, .null, .null])), (q1, .inl (cyE E 0, 405, .inl (fun _ => 0))), (q2, .inl (cyE E 1, 80, .inl (fun _ => 0))), (q3, .inl (cyE E 3, 2400, .inr (.inl (fun _ => 0)))), (q4, .inl (cyE E 0, 320, .inl (fun _ => 0))), (q5, .inl (cyE E 0, 64, .inl (fun _ => 0))), (q6, .inl (cyE E 0, 8, .inl (fun _ => 0))), (q7, .inl (cyE E 0, 8, .inl (fun _ => 0))), (q8, .inl (cyE E 0, 1620, .inl (fun _ => 0))), (q9, .inl (cyE E 0, 8, .inl (fun _ => 0))), (q10, .inl (cyE E 0, 5, .inl (fun _ => 0))), (q11, .inl (cyE E 0, 5, .inl (fun _ => 0))), (q12, .inl (cyE E 0, 2430, .inl (fun _ => 0))), (q13, .inl (cyE E 0, 64, .inl (fun _ => 0))), (q14, .inl (cyE E 0, 3240, .inl (fun _ => 0)))]) rfl ?_
  refine c_put 0 26 (ty := (.array .int)) hnm giX11 tyX11 tyX11_ok nmX11 rfl rfl (by decide) qc_1129 rfl rfl (by decide +kernel) rfl rfl (Nat.le_of_ble_eq_true rfl) dX11_init_122 ?_
  refine c_ws (ws' := [(h0, .inr (11, [.ref q1, .ref q2, .int 0, .ref q3, .int 0, .int 0, .int 0, .int 0, .int 0, .ref q4, .ref q5, .ref q6, .ref q7, .int 0, .int (-1), .ref q8, .int 0, .int 0, .int 0, .ref q9, .ref q10, .ref q11, .ref q12, .int 0, .ref q13, .int 0, .ref q14, .null, .int 0, .int 0, .null, .null])), (q1, .inl (cyE E 0, 405, .inl (fun _ => 0))), (q2, .inl (cyE E 1, 80, .inl (fun _ => 0))), (q3, .inl (cyE E 3, 2400, .inr (.inl (fun _ => 0)))), (q4, .inl (cyE E 0, 320, .inl (fun _ => 0))), (q5, .inl (cyE E 0, 64, .inl (fun _ => 0))), (q6, .inl (cyE E 0, 8, .inl (fun _ => 0))), (q7, .inl (cyE E 0, 8, .inl (fun _ => 0))), (q8, .inl (cyE E 0, 1620, .inl (fun _ => 0))), (q9, .inl (cyE E 0, 8, .inl (fun _ => 0))), (q10, .inl (cyE E 0, 5, .inl (fun _ => 0))), (q11, .inl (cyE E 0, 5, .inl (fun _ => 0))), (q12, .inl (cyE E 0, 2430, .inl (fun _ => 0))), (q13, .inl (cyE E 0, 64, .inl (fun _ => 0))), (q14, .inl (cyE E 0, 3240, .inl (fun _ => 0)))]) rfl ?_
  refine c_aload dX11_init_125 rfl ?_
  refine c_sipush 405 dX11_init_126 rfl ?_
  refine c_newa 0 (atype := .int) (ty := .int) (N := 405) (a0 := (405, .inl (fun _ => 0))) qa_int rfl (ra_p (fun _ _ => rfl)) (fun _ => rfl) (fun _ => rfl) (by decide) rfl (Nat.le_of_ble_eq_true rfl) (Nat.le_of_ble_eq_true rfl) (Nat.le_of_ble_eq_true rfl) dX11_init_129 (fun q15 => ?_)
  refine c_ws (ws' := [(h0, .inr (11, [.ref q1, .ref q2, .int 0, .ref q3, .int 0, .int 0, .int 0, .int 0, .int 0, .ref q4, .ref q5, .ref q6, .ref q7, .int 0, .int (-1), .ref q8, .int 0, .int 0, .int 0, .ref q9, .ref q10, .ref q11, .ref q12, .int 0, .ref q13, .int 0, .ref q14, .null, .int 0, .int 0, .null, .null])), (q1, .inl (cyE E 0, 405, .inl (fun _ => 0))), (q2, .inl (cyE E 1, 80, .inl (fun _ => 0))), (q3, .inl (cyE E 3, 2400, .inr (.inl (fun _ => 0)))), (q4, .inl (cyE E 0, 320, .inl (fun _ => 0))), (q5, .inl (cyE E 0, 64, .inl (fun _ => 0))), (q6, .inl (cyE E 0, 8, .inl (fun _ => 0))), (q7, .inl (cyE E 0, 8, .inl (fun _ => 0))), (q8, .inl (cyE E 0, 1620, .inl (fun _ => 0))), (q9, .inl (cyE E 0, 8, .inl (fun _ => 0))), (q10, .inl (cyE E 0, 5, .inl (fun _ => 0))), (q11, .inl (cyE E 0, 5, .inl (fun _ => 0))), (q12, .inl (cyE E 0, 2430, .inl (fun _ => 0))), (q13, .inl (cyE E 0, 64, .inl (fun _ => 0))), (q14, .inl (cyE E 0, 3240, .inl (fun _ => 0))), (q15, .inl (cyE E 0, 405, .inl (fun _ => 0)))]) rfl ?_
  refine c_put 0 27 (ty := (.array .int)) hnm giX11 tyX11 tyX11_ok nmX11 rfl rfl (by decide) qc_1130 rfl rfl (by decide +kernel) rfl rfl (Nat.le_of_ble_eq_true rfl) dX11_init_131 ?_
  refine c_ws (ws' := [(h0, .inr (11, [.ref q1, .ref q2, .int 0, .ref q3, .int 0, .int 0, .int 0, .int 0, .int 0, .ref q4, .ref q5, .ref q6, .ref q7, .int 0, .int (-1), .ref q8, .int 0, .int 0, .int 0, .ref q9, .ref q10, .ref q11, .ref q12, .int 0, .ref q13, .int 0, .ref q14, .ref q15, .int 0, .int 0, .null, .null])), (q1, .inl (cyE E 0, 405, .inl (fun _ => 0))), (q2, .inl (cyE E 1, 80, .inl (fun _ => 0))), (q3, .inl (cyE E 3, 2400, .inr (.inl (fun _ => 0)))), (q4, .inl (cyE E 0, 320, .inl (fun _ => 0))), (q5, .inl (cyE E 0, 64, .inl (fun _ => 0))), (q6, .inl (cyE E 0, 8, .inl (fun _ => 0))), (q7, .inl (cyE E 0, 8, .inl (fun _ => 0))), (q8, .inl (cyE E 0, 1620, .inl (fun _ => 0))), (q9, .inl (cyE E 0, 8, .inl (fun _ => 0))), (q10, .inl (cyE E 0, 5, .inl (fun _ => 0))), (q11, .inl (cyE E 0, 5, .inl (fun _ => 0))), (q12, .inl (cyE E 0, 2430, .inl (fun _ => 0))), (q13, .inl (cyE E 0, 64, .inl (fun _ => 0))), (q14, .inl (cyE E 0, 3240, .inl (fun _ => 0))), (q15, .inl (cyE E 0, 405, .inl (fun _ => 0)))]) rfl ?_
  refine c_aload dX11_init_134 rfl ?_
  refine c_sipush 810 dX11_init_135 rfl ?_
  refine c_newa 0 (atype := .int) (ty := .int) (N := 810) (a0 := (810, .inl (fun _ => 0))) qa_int rfl (ra_p (fun _ _ => rfl)) (fun _ => rfl) (fun _ => rfl) (by decide) rfl (Nat.le_of_ble_eq_true rfl) (Nat.le_of_ble_eq_true rfl) (Nat.le_of_ble_eq_true rfl) dX11_init_138 (fun q16 => ?_)
  refine c_ws (ws' := [(h0, .inr (11, [.ref q1, .ref q2, .int 0, .ref q3, .int 0, .int 0, .int 0, .int 0, .int 0, .ref q4, .ref q5, .ref q6, .ref q7, .int 0, .int (-1), .ref q8, .int 0, .int 0, .int 0, .ref q9, .ref q10, .ref q11, .ref q12, .int 0, .ref q13, .int 0, .ref q14, .ref q15, .int 0, .int 0, .null, .null])), (q1, .inl (cyE E 0, 405, .inl (fun _ => 0))), (q2, .inl (cyE E 1, 80, .inl (fun _ => 0))), (q3, .inl (cyE E 3, 2400, .inr (.inl (fun _ => 0)))), (q4, .inl (cyE E 0, 320, .inl (fun _ => 0))), (q5, .inl (cyE E 0, 64, .inl (fun _ => 0))), (q6, .inl (cyE E 0, 8, .inl (fun _ => 0))), (q7, .inl (cyE E 0, 8, .inl (fun _ => 0))), (q8, .inl (cyE E 0, 1620, .inl (fun _ => 0))), (q9, .inl (cyE E 0, 8, .inl (fun _ => 0))), (q10, .inl (cyE E 0, 5, .inl (fun _ => 0))), (q11, .inl (cyE E 0, 5, .inl (fun _ => 0))), (q12, .inl (cyE E 0, 2430, .inl (fun _ => 0))), (q13, .inl (cyE E 0, 64, .inl (fun _ => 0))), (q14, .inl (cyE E 0, 3240, .inl (fun _ => 0))), (q15, .inl (cyE E 0, 405, .inl (fun _ => 0))), (q16, .inl (cyE E 0, 810, .inl (fun _ => 0)))]) rfl ?_
  refine c_put 0 30 (ty := (.array .int)) hnm giX11 tyX11 tyX11_ok nmX11 rfl rfl (by decide) qc_1133 rfl rfl (by decide +kernel) rfl rfl (Nat.le_of_ble_eq_true rfl) dX11_init_140 ?_
  refine c_ws (ws' := [(h0, .inr (11, [.ref q1, .ref q2, .int 0, .ref q3, .int 0, .int 0, .int 0, .int 0, .int 0, .ref q4, .ref q5, .ref q6, .ref q7, .int 0, .int (-1), .ref q8, .int 0, .int 0, .int 0, .ref q9, .ref q10, .ref q11, .ref q12, .int 0, .ref q13, .int 0, .ref q14, .ref q15, .int 0, .int 0, .ref q16, .null])), (q1, .inl (cyE E 0, 405, .inl (fun _ => 0))), (q2, .inl (cyE E 1, 80, .inl (fun _ => 0))), (q3, .inl (cyE E 3, 2400, .inr (.inl (fun _ => 0)))), (q4, .inl (cyE E 0, 320, .inl (fun _ => 0))), (q5, .inl (cyE E 0, 64, .inl (fun _ => 0))), (q6, .inl (cyE E 0, 8, .inl (fun _ => 0))), (q7, .inl (cyE E 0, 8, .inl (fun _ => 0))), (q8, .inl (cyE E 0, 1620, .inl (fun _ => 0))), (q9, .inl (cyE E 0, 8, .inl (fun _ => 0))), (q10, .inl (cyE E 0, 5, .inl (fun _ => 0))), (q11, .inl (cyE E 0, 5, .inl (fun _ => 0))), (q12, .inl (cyE E 0, 2430, .inl (fun _ => 0))), (q13, .inl (cyE E 0, 64, .inl (fun _ => 0))), (q14, .inl (cyE E 0, 3240, .inl (fun _ => 0))), (q15, .inl (cyE E 0, 405, .inl (fun _ => 0))), (q16, .inl (cyE E 0, 810, .inl (fun _ => 0)))]) rfl ?_
  refine c_aload dX11_init_143 rfl ?_
  refine c_iconst 2 dX11_init_144 rfl ?_
  refine c_newa 2 (atype := .boolean) (ty := .boolean) (N := 2) (a0 := (2, .inl (fun _ => 0))) qa_boolean rfl (ra_p (fun _ _ => rfl)) (fun _ => rfl) (fun _ => rfl) (by decide) rfl (Nat.le_of_ble_eq_true rfl) (Nat.le_of_ble_eq_true rfl) (Nat.le_of_ble_eq_true rfl) dX11_init_145 (fun q17 => ?_)
  refine c_ws (ws' := [(h0, .inr (11, [.ref q1, .ref q2, .int 0, .ref q3, .int 0, .int 0, .int 0, .int 0, .int 0, .ref q4, .ref q5, .ref q6, .ref q7, .int 0, .int (-1), .ref q8, .int 0, .int 0, .int 0, .ref q9, .ref q10, .ref q11, .ref q12, .int 0, .ref q13, .int 0, .ref q14, .ref q15, .int 0, .int 0, .ref q16, .null])), (q1, .inl (cyE E 0, 405, .inl (fun _ => 0))), (q2, .inl (cyE E 1, 80, .inl (fun _ => 0))), (q3, .inl (cyE E 3, 2400, .inr (.inl (fun _ => 0)))), (q4, .inl (cyE E 0, 320, .inl (fun _ => 0))), (q5, .inl (cyE E 0, 64, .inl (fun _ => 0))), (q6, .inl (cyE E 0, 8, .inl (fun _ => 0))), (q7, .inl (cyE E 0, 8, .inl (fun _ => 0))), (q8, .inl (cyE E 0, 1620, .inl (fun _ => 0))), (q9, .inl (cyE E 0, 8, .inl (fun _ => 0))), (q10, .inl (cyE E 0, 5, .inl (fun _ => 0))), (q11, .inl (cyE E 0, 5, .inl (fun _ => 0))), (q12, .inl (cyE E 0, 2430, .inl (fun _ => 0))), (q13, .inl (cyE E 0, 64, .inl (fun _ => 0))), (q14, .inl (cyE E 0, 3240, .inl (fun _ => 0))), (q15, .inl (cyE E 0, 405, .inl (fun _ => 0))), (q16, .inl (cyE E 0, 810, .inl (fun _ => 0))), (q17, .inl (cyE E 2, 2, .inl (fun _ => 0)))]) rfl ?_
  refine c_put 0 31 (ty := (.array .boolean)) hnm giX11 tyX11 tyX11_ok nmX11 rfl rfl (by decide) qc_1134 rfl rfl (by decide +kernel) rfl rfl (Nat.le_of_ble_eq_true rfl) dX11_init_147 ?_
  refine c_ws (ws' := [(h0, .inr (11, [.ref q1, .ref q2, .int 0, .ref q3, .int 0, .int 0, .int 0, .int 0, .int 0, .ref q4, .ref q5, .ref q6, .ref q7, .int 0, .int (-1), .ref q8, .int 0, .int 0, .int 0, .ref q9, .ref q10, .ref q11, .ref q12, .int 0, .ref q13, .int 0, .ref q14, .ref q15, .int 0, .int 0, .ref q16, .ref q17])), (q1, .inl (cyE E 0, 405, .inl (fun _ => 0))), (q2, .inl (cyE E 1, 80, .inl (fun _ => 0))), (q3, .inl (cyE E 3, 2400, .inr (.inl (fun _ => 0)))), (q4, .inl (cyE E 0, 320, .inl (fun _ => 0))), (q5, .inl (cyE E 0, 64, .inl (fun _ => 0))), (q6, .inl (cyE E 0, 8, .inl (fun _ => 0))), (q7, .inl (cyE E 0, 8, .inl (fun _ => 0))), (q8, .inl (cyE E 0, 1620, .inl (fun _ => 0))), (q9, .inl (cyE E 0, 8, .inl (fun _ => 0))), (q10, .inl (cyE E 0, 5, .inl (fun _ => 0))), (q11, .inl (cyE E 0, 5, .inl (fun _ => 0))), (q12, .inl (cyE E 0, 2430, .inl (fun _ => 0))), (q13, .inl (cyE E 0, 64, .inl (fun _ => 0))), (q14, .inl (cyE E 0, 3240, .inl (fun _ => 0))), (q15, .inl (cyE E 0, 405, .inl (fun _ => 0))), (q16, .inl (cyE E 0, 810, .inl (fun _ => 0))), (q17, .inl (cyE E 2, 2, .inl (fun _ => 0)))]) rfl ?_
  refine c_aload dX11_init_150 rfl ?_
  refine c_get 0 0 giX11 rfl rfl (by decide) qc_1103 rfl rfl dX11_init_151 ?_
  refine c_iconst 0 dX11_init_154 rfl ?_
  refine c_iconst 2 dX11_init_155 rfl ?_
  refine c_iast 1 0 rfl (by unfold vp_in; decide) rfl dX11_init_156 ?_
  refine c_ws (ws' := [(h0, .inr (11, [.ref q1, .ref q2, .int 0, .ref q3, .int 0, .int 0, .int 0, .int 0, .int 0, .ref q4, .ref q5, .ref q6, .ref q7, .int 0, .int (-1), .ref q8, .int 0, .int 0, .int 0, .ref q9, .ref q10, .ref q11, .ref q12, .int 0, .ref q13, .int 0, .ref q14, .ref q15, .int 0, .int 0, .ref q16, .ref q17])), (q1, .inl (cyE E 0, 405, .inl (upd (fun _ => 0) 0 2))), (q2, .inl (cyE E 1, 80, .inl (fun _ => 0))), (q3, .inl (cyE E 3, 2400, .inr (.inl (fun _ => 0)))), (q4, .inl (cyE E 0, 320, .inl (fun _ => 0))), (q5, .inl (cyE E 0, 64, .inl (fun _ => 0))), (q6, .inl (cyE E 0, 8, .inl (fun _ => 0))), (q7, .inl (cyE E 0, 8, .inl (fun _ => 0))), (q8, .inl (cyE E 0, 1620, .inl (fun _ => 0))), (q9, .inl (cyE E 0, 8, .inl (fun _ => 0))), (q10, .inl (cyE E 0, 5, .inl (fun _ => 0))), (q11, .inl (cyE E 0, 5, .inl (fun _ => 0))), (q12, .inl (cyE E 0, 2430, .inl (fun _ => 0))), (q13, .inl (cyE E 0, 64, .inl (fun _ => 0))), (q14, .inl (cyE E 0, 3240, .inl (fun _ => 0))), (q15, .inl (cyE E 0, 405, .inl (fun _ => 0))), (q16, .inl (cyE E 0, 810, .inl (fun _ => 0))), (q17, .inl (cyE E 2, 2, .inl (fun _ => 0)))]) rfl ?_
  exact c_ret (fun k => [h0, q1, q2, q3, q4, q5, q6, q7, q8, q9, q10, q11, q12, q13, q14, q15, q16, q17].getD k 0) hR (Nat.le_of_ble_eq_true rfl) (Nat.le_of_ble_eq_true rfl) rfl rfl dX11_init_157
