def wX11_row (l1 : Int) (σ : Mem) (Q : Int → Mem → Prop) : Prop := (∀ m1 : Mem, m1 = up2 σ 300 5 0 → (wX11_in l1 0 (w32 ((m1 300 4) - 1)) m1 (fun y3 m2 => ((y3 = 0 → (wX11_lost  m2 (fun y5 m4 => Q y5 m4))) ∧ (¬ y3 = 0 → ((0 ≤ l1 ∧ l1 < 2400) ∧ Q (m2 304 l1.toNat) m2))))))
set_option maxHeartbeats 1000000 in
theorem kX11_row {l1 : Int} {σ : Mem} {Q : Int → Mem → Prop} (h : wX11_row l1 σ Q) (l : Launch) (D : va_G) (cy : Nat → ClassId) (ad : Nat → Nat) : ML l yX11_row cX11_row 2 (some .long) 1 22 D cy ad [vR 300, vI l1] σ Q := by
  refine m_L (own := RX11) (lv := [(0, vR 300), (1, vI l1)]) (by decide +kernel) rfl (Nat.le_of_ble_eq_true rfl) rfl (fun E hR => ?_) l D cy ad
  unfold wX11_row at h
  refine g_aload_n dX11_row_0 rfl ?_
  refine g_iconst dX11_row_1 0 rfl (by decide) ?_
  refine g_putI fp_11_68 kd_300 rfl dX11_row_2 ?_
  refine g_nm (fun m1 em1 => ?_)
  replace h := h m1 em1
  refine g_iload_n dX11_row_5 rfl ?_
  refine g_iconst dX11_row_6 0 rfl (by decide) ?_
  refine g_aload_n dX11_row_7 rfl ?_
  refine g_getI fl_11_71 kd_300 rfl dX11_row_8 ?_
  refine g_iconst dX11_row_11 1 rfl (by decide) ?_
  refine g_isub dX11_row_12 ?_
  refine g_cSi (st := []) (av := [vI l1, vI 0, vI (w32 ((m1 300 4) - 1))]) (kX11_in h) cw_RX11_74 (by decide) (by decide) (Nat.le_of_ble_eq_true rfl) rfl dX11_row_13 (fun y3 m2 h => ?_)
  obtain ⟨hA, hB⟩ := h
  refine g_if_eq (tgt := 28) dX11_row_16 (by decide) (fun hc => ?_) (fun hc => ?_)
  · replace h := hA hc
    refine g_aload_n dX11_row_28 rfl ?_
    refine g_cVi (st := []) (av := []) (kX11_lost h) kd_300 rfl cw_RX11_166 (by decide) (by decide) (Nat.le_of_ble_eq_true rfl) rfl dX11_row_29 (fun y5 m4 h => ?_)
    refine g_i2l dX11_row_32 ?_
    exact g_lret hR dX11_row_33 h
  · replace h := hB hc
    refine g_aload_n dX11_row_19 rfl ?_
    refine g_getR (r := 304) fl_11_17 kd_300 rfl dX11_row_20 ?_
    refine g_iload_n dX11_row_23 rfl ?_
    obtain ⟨hin, h⟩ := h
    refine g_lald kd_304 hin dX11_row_24 ?_
    refine g_goto (tgt := 33) dX11_row_25 (by decide) ?_
    exact g_lret hR dX11_row_33 h
