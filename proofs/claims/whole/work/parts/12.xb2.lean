def wX7_find_128 (b1 : Nat) (Q : Int → Mem → Prop) (σ : Mem) : Prop := (wX7_leastOwed b1 σ (fun y2 m1 => (∀ m3 : Mem, m3 = up2 m1 32 4 y2 → Q 1 m3)))
def wX7_find_83 (b1 : Nat) (K83 : (Int × Int × Int) → Mem → Prop) (Q : Int → Mem → Prop) (l2 : Int) (l3 : Int) (l4 : Int) (σ : Mem) : Prop := ((σ 32 3 ≤ l4 → wX7_find_128 b1 Q σ) ∧ (¬ σ 32 3 ≤ l4 → ((8 ≤ l4 → wX7_find_128 b1 Q σ) ∧ (¬ 8 ≤ l4 → (wX7_nextTowards b1 l2 l3 (w32 ((σ 32 3) - l4)) σ (fun y2 m1 => ((0 ≤ l4 ∧ l4 < 8) ∧ (∀ m3 : Mem, m3 = up2 m1 35 l4.toNat y2 → (∀ x4 : Int, x4 = w32 (l4 + 1) → K83 (l2, y2, x4) m3)))))))))
def wLX7_find_83 (b1 : Nat) (Q : Int → Mem → Prop) (l2 : Int) (l3 : Int) (l4 : Int) (σ : Mem) : Prop := ∃ n, lp (fun (K83 : (Int × Int × Int) → Mem → Prop) (x : Int × Int × Int) (σ : Mem) => wX7_find_83 b1 K83 Q x.1 x.2.1 x.2.2 σ) n (l2, l3, l4) σ
def wX7_find_10 (b1 : Nat) (K10 : (Int × Int) → Mem → Prop) (Q : Int → Mem → Prop) (l2 : Int) (l3 : Int) (σ : Mem) : Prop := ((σ b1 0 ≤ l3 → ((0 ≤ l2 → (wX7_measure b1 l2 σ (fun m1 => (∀ m2 : Mem, m2 = up2 m1 35 0 l2 → wLX7_find_83 b1 Q l2 l2 1 m2)))) ∧ (¬ 0 ≤ l2 → (∀ m3 : Mem, m3 = up2 σ 32 3 0 → Q 0 m3)))) ∧ (¬ σ b1 0 ≤ l3 → (wX7_lengthFrom b1 l3 σ (fun y5 m4 => ((y5 ≤ 0 → (∀ x6 : Int, x6 = w32 (l3 + 1) → K10 (l2, x6) m4)) ∧ (¬ y5 ≤ 0 → ((m4 32 3 ≤ y5 → (∀ x7 : Int, x7 = w32 (l3 + 1) → K10 (l2, x7) m4)) ∧ (¬ m4 32 3 ≤ y5 → (∀ m8 : Mem, m8 = up2 m4 32 3 y5 → (∀ x9 : Int, x9 = w32 (l3 + 1) → K10 (l3, x9) m8))))))))))
def wLX7_find_10 (b1 : Nat) (Q : Int → Mem → Prop) (l2 : Int) (l3 : Int) (σ : Mem) : Prop := ∃ n, lp (fun (K10 : (Int × Int) → Mem → Prop) (x : Int × Int) (σ : Mem) => wX7_find_10 b1 K10 Q x.1 x.2 σ) n (l2, l3) σ
def wX7_find (b1 : Nat) (σ : Mem) (Q : Int → Mem → Prop) : Prop := (∀ m1 : Mem, m1 = up2 σ 32 3 9 → wLX7_find_10 b1 Q ((-1)) 0 m1)
set_option maxHeartbeats 1000000 in
theorem bX7_find_128 {E : TE} {b1 : Nat} (hb1 : isBk b1) {Q : Int → Mem → Prop} (hR : RI E (some .boolean) Q) {σ : Mem} (h : wX7_find_128 b1 Q σ) : GW E cX7_find 5 RX7 3 73 σ 128 [(0, vR 32), (1, vR b1)] [] := by
  unfold wX7_find_128 at h
  refine g_aload_n dX7_find_128 rfl ?_
  refine g_aload_n dX7_find_129 rfl ?_
  refine g_aload_n dX7_find_130 rfl ?_
  refine g_cVi (st := [vR 32]) (av := [vR b1]) (kX7_leastOwed hb1 h) kd_32 rfl cw_RX7_42 (by decide) (by decide) (Nat.le_of_ble_eq_true rfl) rfl dX7_find_131 (fun y2 m1 h => ?_)
  refine g_putI fp_7_46 kd_32 rfl dX7_find_134 ?_
  refine g_nm (fun m3 em3 => ?_)
  replace h := h m3 em3
  refine g_iconst dX7_find_137 1 rfl (by decide) ?_
  exact g_zret hR dX7_find_138 (by decide) h
set_option maxHeartbeats 1000000 in
theorem bX7_find_83 {E : TE} {b1 : Nat} (hb1 : isBk b1) {K83 : (Int × Int × Int) → Mem → Prop} (hK83 : ∀ (x : Int × Int × Int) (σ : Mem), K83 x σ → GW E cX7_find 5 RX7 3 73 σ 83 [(0, vR 32), (1, vR b1), (2, vI x.1), (3, vI x.2.1), (4, vI x.2.2)] []) {Q : Int → Mem → Prop} (hR : RI E (some .boolean) Q) {l2 : Int} {l3 : Int} {l4 : Int} {σ : Mem} (h : wX7_find_83 b1 K83 Q l2 l3 l4 σ) : GW E cX7_find 5 RX7 3 73 σ 83 [(0, vR 32), (1, vR b1), (2, vI l2), (3, vI l3), (4, vI l4)] [] := by
  unfold wX7_find_83 at h
  refine g_iload dX7_find_83 rfl ?_
  refine g_aload_n dX7_find_85 rfl ?_
  refine g_getI fl_7_21 kd_32 rfl dX7_find_86 ?_
  obtain ⟨hA, hB⟩ := h
  refine g_icmp_ge (tgt := 128) dX7_find_89 (by decide) (fun hc => ?_) (fun hc => ?_)
  · replace h := hA hc
    refine g_lv (lv' := [(0, vR 32), (1, vR b1)]) [0, 1] rfl ?_
    exact bX7_find_128 hb1 hR h
  · replace h := hB hc
    refine g_iload dX7_find_92 rfl ?_
    refine g_bipush dX7_find_94 8 rfl (by decide) ?_
    obtain ⟨hA, hB⟩ := h
    refine g_icmp_ge (tgt := 128) dX7_find_96 (by decide) (fun hc => ?_) (fun hc => ?_)
    · replace h := hA hc
      refine g_lv (lv' := [(0, vR 32), (1, vR b1)]) [0, 1] rfl ?_
      exact bX7_find_128 hb1 hR h
    · replace h := hB hc
      refine g_aload_n dX7_find_99 rfl ?_
      refine g_aload_n dX7_find_100 rfl ?_
      refine g_iload_n dX7_find_101 rfl ?_
      refine g_iload_n dX7_find_102 rfl ?_
      refine g_aload_n dX7_find_103 rfl ?_
      refine g_getI fl_7_21 kd_32 rfl dX7_find_104 ?_
      refine g_iload dX7_find_107 rfl ?_
      refine g_isub dX7_find_109 ?_
      refine g_cVi (st := []) (av := [vR b1, vI l2, vI l3, vI (w32 ((σ 32 3) - l4))]) (kX7_nextTowards hb1 h) kd_32 rfl cw_RX7_38 (by decide) (by decide) (Nat.le_of_ble_eq_true rfl) rfl dX7_find_110 (fun y2 m1 h => ?_)
      refine g_istore_n (lv' := [(3, vI y2), (0, vR 32), (1, vR b1), (2, vI l2), (4, vI l4)]) dX7_find_113 (by decide) rfl ?_
      refine g_aload_n dX7_find_114 rfl ?_
      refine g_getR (r := 35) fl_7_18 kd_32 rfl dX7_find_115 ?_
      refine g_iload dX7_find_118 rfl ?_
      refine g_iload_n dX7_find_120 rfl ?_
      obtain ⟨hin, h⟩ := h
      refine g_iast kd_35 hin dX7_find_121 ?_
      refine g_nm (fun m3 em3 => ?_)
      replace h := h m3 em3
      refine g_iinc (lv' := [(4, vI (w32 (l4 + 1))), (3, vI y2), (0, vR 32), (1, vR b1), (2, vI l2)]) dX7_find_122 rfl (by decide) rfl ?_
      refine g_loc (a := w32 (l4 + 1)) (i := 4) (lv := [(3, vI y2), (0, vR 32), (1, vR b1), (2, vI l2)]) (fun x4 ex4 => ?_)
      replace h := h x4 ex4
      refine g_goto (tgt := 83) dX7_find_125 (by decide) ?_
      refine g_lv (lv' := [(0, vR 32), (1, vR b1), (2, vI l2), (3, vI y2), (4, vI x4)]) [2, 3, 4, 1, 0] rfl ?_
      exact hK83 ((l2, y2, x4)) m3 h
theorem eX7_find_83 {E : TE} {b1 : Nat} (hb1 : isBk b1) {Q : Int → Mem → Prop} (hR : RI E (some .boolean) Q) {l2 : Int} {l3 : Int} {l4 : Int} {σ : Mem} (h : wLX7_find_83 b1 Q l2 l3 l4 σ) : GW E cX7_find 5 RX7 3 73 σ 83 [(0, vR 32), (1, vR b1), (2, vI l2), (3, vI l3), (4, vI l4)] [] := by
  obtain ⟨n, h⟩ := h
  exact lp_GW (P := fun (x : Int × Int × Int) (σ : Mem) => GW E cX7_find 5 RX7 3 73 σ 83 [(0, vR 32), (1, vR b1), (2, vI x.1), (3, vI x.2.1), (4, vI x.2.2)] []) (fun K hK x σ h  => bX7_find_83 hb1 hK hR h) n _ σ h 
set_option maxHeartbeats 1000000 in
theorem bX7_find_10 {E : TE} {b1 : Nat} (hb1 : isBk b1) {K10 : (Int × Int) → Mem → Prop} (hK10 : ∀ (x : Int × Int) (σ : Mem), K10 x σ → GW E cX7_find 5 RX7 3 73 σ 10 [(0, vR 32), (1, vR b1), (2, vI x.1), (3, vI x.2)] []) {Q : Int → Mem → Prop} (hR : RI E (some .boolean) Q) {l2 : Int} {l3 : Int} {σ : Mem} (h : wX7_find_10 b1 K10 Q l2 l3 σ) : GW E cX7_find 5 RX7 3 73 σ 10 [(0, vR 32), (1, vR b1), (2, vI l2), (3, vI l3)] [] := by
  unfold wX7_find_10 at h
  refine g_iload_n dX7_find_10 rfl ?_
  refine g_aload_n dX7_find_11 rfl ?_
  refine g_getI fl_7_25 (kd_bk0 hb1) rfl dX7_find_12 ?_
  obtain ⟨hA, hB⟩ := h
  refine g_icmp_ge (tgt := 54) dX7_find_15 (by decide) (fun hc => ?_) (fun hc => ?_)
  · replace h := hA hc
    refine g_iload_n dX7_find_54 rfl ?_
    obtain ⟨hA, hB⟩ := h
    refine g_if_ge (tgt := 65) dX7_find_55 (by decide) (fun hc => ?_) (fun hc => ?_)
    · replace h := hA hc
      refine g_aload_n dX7_find_65 rfl ?_
      refine g_aload_n dX7_find_66 rfl ?_
      refine g_iload_n dX7_find_67 rfl ?_
      refine g_cVv (st := []) (av := [vR b1, vI l2]) (kX7_measure hb1 h) kd_32 rfl cw_RX7_34 (by decide) (by decide) (Nat.le_of_ble_eq_true rfl) rfl dX7_find_68 (fun m1 h => ?_)
      refine g_iload_n dX7_find_71 rfl ?_
      refine g_istore_n (lv' := [(3, vI l2), (0, vR 32), (1, vR b1), (2, vI l2)]) dX7_find_72 (by decide) rfl ?_
      refine g_aload_n dX7_find_73 rfl ?_
      refine g_getR (r := 35) fl_7_18 kd_32 rfl dX7_find_74 ?_
      refine g_iconst dX7_find_77 0 rfl (by decide) ?_
      refine g_iload_n dX7_find_78 rfl ?_
      refine g_iast kd_35 (by decide) dX7_find_79 ?_
      refine g_nm (fun m2 em2 => ?_)
      replace h := h m2 em2
      refine g_iconst dX7_find_80 1 rfl (by decide) ?_
      refine g_istore (lv' := [(4, vI 1), (3, vI l2), (0, vR 32), (1, vR b1), (2, vI l2)]) dX7_find_81 (by decide) rfl ?_
      refine g_lv (lv' := [(0, vR 32), (1, vR b1), (2, vI l2), (3, vI l2), (4, vI 1)]) [2, 3, 4, 1, 0] rfl ?_
      exact eX7_find_83 hb1 hR h
    · replace h := hB hc
      refine g_aload_n dX7_find_58 rfl ?_
      refine g_iconst dX7_find_59 0 rfl (by decide) ?_
      refine g_putI fp_7_21 kd_32 rfl dX7_find_60 ?_
      refine g_nm (fun m3 em3 => ?_)
      replace h := h m3 em3
      refine g_iconst dX7_find_63 0 rfl (by decide) ?_
      exact g_zret hR dX7_find_64 (by decide) h
  · replace h := hB hc
    refine g_aload_n dX7_find_18 rfl ?_
    refine g_aload_n dX7_find_19 rfl ?_
    refine g_iload_n dX7_find_20 rfl ?_
    refine g_cVi (st := []) (av := [vR b1, vI l3]) (kX7_lengthFrom hb1 h) kd_32 rfl cw_RX7_30 (by decide) (by decide) (Nat.le_of_ble_eq_true rfl) rfl dX7_find_21 (fun y5 m4 h => ?_)
    refine g_istore (lv' := [(4, vI y5), (0, vR 32), (1, vR b1), (2, vI l2), (3, vI l3)]) dX7_find_24 (by decide) rfl ?_
    refine g_iload dX7_find_26 rfl ?_
    obtain ⟨hA, hB⟩ := h
    refine g_if_le (tgt := 48) dX7_find_28 (by decide) (fun hc => ?_) (fun hc => ?_)
    · replace h := hA hc
      refine g_iinc (lv' := [(3, vI (w32 (l3 + 1))), (4, vI y5), (0, vR 32), (1, vR b1), (2, vI l2)]) dX7_find_48 rfl (by decide) rfl ?_
      refine g_loc (a := w32 (l3 + 1)) (i := 3) (lv := [(4, vI y5), (0, vR 32), (1, vR b1), (2, vI l2)]) (fun x6 ex6 => ?_)
      replace h := h x6 ex6
      refine g_goto (tgt := 10) dX7_find_51 (by decide) ?_
      refine g_lv (lv' := [(0, vR 32), (1, vR b1), (2, vI l2), (3, vI x6)]) [2, 3, 4, 0] rfl ?_
      exact hK10 ((l2, x6)) m4 h
    · replace h := hB hc
      refine g_iload dX7_find_31 rfl ?_
      refine g_aload_n dX7_find_33 rfl ?_
      refine g_getI fl_7_21 kd_32 rfl dX7_find_34 ?_
      obtain ⟨hA, hB⟩ := h
      refine g_icmp_ge (tgt := 48) dX7_find_37 (by decide) (fun hc => ?_) (fun hc => ?_)
      · replace h := hA hc
        refine g_iinc (lv' := [(3, vI (w32 (l3 + 1))), (4, vI y5), (0, vR 32), (1, vR b1), (2, vI l2)]) dX7_find_48 rfl (by decide) rfl ?_
        refine g_loc (a := w32 (l3 + 1)) (i := 3) (lv := [(4, vI y5), (0, vR 32), (1, vR b1), (2, vI l2)]) (fun x7 ex7 => ?_)
        replace h := h x7 ex7
        refine g_goto (tgt := 10) dX7_find_51 (by decide) ?_
        refine g_lv (lv' := [(0, vR 32), (1, vR b1), (2, vI l2), (3, vI x7)]) [2, 3, 4, 0] rfl ?_
        exact hK10 ((l2, x7)) m4 h
      · replace h := hB hc
        refine g_aload_n dX7_find_40 rfl ?_
        refine g_iload dX7_find_41 rfl ?_
        refine g_putI fp_7_21 kd_32 rfl dX7_find_43 ?_
        refine g_nm (fun m8 em8 => ?_)
        replace h := h m8 em8
        refine g_iload_n dX7_find_46 rfl ?_
        refine g_istore_n (lv' := [(2, vI l3), (4, vI y5), (0, vR 32), (1, vR b1), (3, vI l3)]) dX7_find_47 (by decide) rfl ?_
        refine g_iinc (lv' := [(3, vI (w32 (l3 + 1))), (2, vI l3), (4, vI y5), (0, vR 32), (1, vR b1)]) dX7_find_48 rfl (by decide) rfl ?_
        refine g_loc (a := w32 (l3 + 1)) (i := 3) (lv := [(2, vI l3), (4, vI y5), (0, vR 32), (1, vR b1)]) (fun x9 ex9 => ?_)
        replace h := h x9 ex9
        refine g_goto (tgt := 10) dX7_find_51 (by decide) ?_
        refine g_lv (lv' := [(0, vR 32), (1, vR b1), (2, vI l3), (3, vI x9)]) [3, 4, 1, 0] rfl ?_
        exact hK10 ((l3, x9)) m8 h
theorem eX7_find_10 {E : TE} {b1 : Nat} (hb1 : isBk b1) {Q : Int → Mem → Prop} (hR : RI E (some .boolean) Q) {l2 : Int} {l3 : Int} {σ : Mem} (h : wLX7_find_10 b1 Q l2 l3 σ) : GW E cX7_find 5 RX7 3 73 σ 10 [(0, vR 32), (1, vR b1), (2, vI l2), (3, vI l3)] [] := by
  obtain ⟨n, h⟩ := h
  exact lp_GW (P := fun (x : Int × Int) (σ : Mem) => GW E cX7_find 5 RX7 3 73 σ 10 [(0, vR 32), (1, vR b1), (2, vI x.1), (3, vI x.2)] []) (fun K hK x σ h  => bX7_find_10 hb1 hK hR h) n _ σ h 
set_option maxHeartbeats 1000000 in
theorem kX7_find {b1 : Nat} (hb1 : isBk b1) {σ : Mem} {Q : Int → Mem → Prop} (h : wX7_find b1 σ Q) (l : Launch) (D : va_G) (cy : Nat → ClassId) (ad : Nat → Nat) : MI l yX7_find cX7_find 5 (some .boolean) 3 73 D cy ad [vR 32, vR b1] σ Q := by
  refine m_I (own := RX7) (lv := [(0, vR 32), (1, vR b1)]) (by decide +kernel) rfl (Nat.le_of_ble_eq_true rfl) rfl (fun E hR => ?_) l D cy ad
  unfold wX7_find at h
  refine g_iconst dX7_find_0 (-1) rfl (by decide) ?_
  refine g_istore_n (lv' := [(2, vI ((-1))), (0, vR 32), (1, vR b1)]) dX7_find_1 (by decide) rfl ?_
  refine g_aload_n dX7_find_2 rfl ?_
  refine g_bipush dX7_find_3 9 rfl (by decide) ?_
  refine g_putI fp_7_21 kd_32 rfl dX7_find_5 ?_
  refine g_nm (fun m1 em1 => ?_)
  replace h := h m1 em1
  refine g_iconst dX7_find_8 0 rfl (by decide) ?_
  refine g_istore_n (lv' := [(3, vI 0), (2, vI ((-1))), (0, vR 32), (1, vR b1)]) dX7_find_9 (by decide) rfl ?_
  refine g_lv (lv' := [(0, vR 32), (1, vR b1), (2, vI ((-1))), (3, vI 0)]) [2, 3, 1, 0] rfl ?_
  exact eX7_find_10 hb1 hR h
def wX7_settleAll_18 (b1 : Nat) (K2 : Int → Mem → Prop) (K18 : (Int × Int) → Mem → Prop) (Q : Int → Mem → Prop) (l2 : Int) (l3 : Int) (σ : Mem) : Prop := ((σ 32 3 ≤ l3 → (∀ x1 : Int, x1 = w32 (l2 + 1) → K2 x1 σ)) ∧ (¬ σ 32 3 ≤ l3 → (wX7_nextOnRing l3 σ (fun y3 m2 => (wX7_memberAt l3 m2 (fun y5 m4 => (wX1_payStraight b1 y3 y5 (m4 32 4) m4 (fun m6 => (∀ x7 : Int, x7 = w32 (l3 + 1) → K18 (l2, x7) m6)))))))))
def wLX7_settleAll_18 (b1 : Nat) (K2 : Int → Mem → Prop) (Q : Int → Mem → Prop) (l2 : Int) (l3 : Int) (σ : Mem) : Prop := ∃ n, lp (fun (K18 : (Int × Int) → Mem → Prop) (x : Int × Int) (σ : Mem) => wX7_settleAll_18 b1 K2 K18 Q x.1 x.2 σ) n (l2, l3) σ
def wX7_settleAll_2 (b1 : Nat) (K2 : Int → Mem → Prop) (Q : Int → Mem → Prop) (l2 : Int) (σ : Mem) : Prop := ((64 ≤ l2 → Q l2 σ) ∧ (¬ 64 ≤ l2 → (wX7_find b1 σ (fun y2 m1 => ((y2 = 0 → Q l2 m1) ∧ (¬ y2 = 0 → wLX7_settleAll_18 b1 K2 Q l2 0 m1))))))
def wLX7_settleAll_2 (b1 : Nat) (Q : Int → Mem → Prop) (l2 : Int) (σ : Mem) : Prop := ∃ n, lp (fun (K2 : Int → Mem → Prop) (x : Int) (σ : Mem) => wX7_settleAll_2 b1 K2 Q x σ) n l2 σ
def wX7_settleAll (b1 : Nat) (σ : Mem) (Q : Int → Mem → Prop) : Prop := wLX7_settleAll_2 b1 Q 0 σ
set_option maxHeartbeats 1000000 in
theorem bX7_settleAll_18 {E : TE} {b1 : Nat} (hb1 : isBk b1) {K2 : Int → Mem → Prop} {K18 : (Int × Int) → Mem → Prop} (hK2 : ∀ (x : Int) (σ : Mem), K2 x σ → GW E cX7_settleAll 4 RX7 4 97 σ 2 [(0, vR 32), (1, vR b1), (2, vI x)] []) (hK18 : ∀ (x : Int × Int) (σ : Mem), K18 x σ → GW E cX7_settleAll 4 RX7 4 97 σ 18 [(0, vR 32), (1, vR b1), (2, vI x.1), (3, vI x.2)] []) {Q : Int → Mem → Prop} (hR : RI E (some .int) Q) {l2 : Int} {l3 : Int} {σ : Mem} (h : wX7_settleAll_18 b1 K2 K18 Q l2 l3 σ) : GW E cX7_settleAll 4 RX7 4 97 σ 18 [(0, vR 32), (1, vR b1), (2, vI l2), (3, vI l3)] [] := by
  unfold wX7_settleAll_18 at h
  refine g_iload_n dX7_settleAll_18 rfl ?_
  refine g_aload_n dX7_settleAll_19 rfl ?_
  refine g_getI fl_7_21 kd_32 rfl dX7_settleAll_20 ?_
  obtain ⟨hA, hB⟩ := h
  refine g_icmp_ge (tgt := 50) dX7_settleAll_23 (by decide) (fun hc => ?_) (fun hc => ?_)
  · replace h := hA hc
    refine g_iinc (lv' := [(2, vI (w32 (l2 + 1))), (0, vR 32), (1, vR b1), (3, vI l3)]) dX7_settleAll_50 rfl (by decide) rfl ?_
    refine g_loc (a := w32 (l2 + 1)) (i := 2) (lv := [(0, vR 32), (1, vR b1), (3, vI l3)]) (fun x1 ex1 => ?_)
    replace h := h x1 ex1
    refine g_goto (tgt := 2) dX7_settleAll_53 (by decide) ?_
    refine g_lv (lv' := [(0, vR 32), (1, vR b1), (2, vI x1)]) [1, 2, 0] rfl ?_
    exact hK2 x1 σ h
  · replace h := hB hc
    refine g_aload_n dX7_settleAll_26 rfl ?_
    refine g_aload_n dX7_settleAll_27 rfl ?_
    refine g_iload_n dX7_settleAll_28 rfl ?_
    refine g_cVi (st := [vR b1]) (av := [vI l3]) (kX7_nextOnRing h) kd_32 rfl cw_RX7_64 (by decide) (by decide) (Nat.le_of_ble_eq_true rfl) rfl dX7_settleAll_29 (fun y3 m2 h => ?_)
    refine g_aload_n dX7_settleAll_32 rfl ?_
    refine g_iload_n dX7_settleAll_33 rfl ?_
    refine g_cVi (st := [vI y3, vR b1]) (av := [vI l3]) (kX7_memberAt h) kd_32 rfl cw_RX7_60 (by decide) (by decide) (Nat.le_of_ble_eq_true rfl) rfl dX7_settleAll_34 (fun y5 m4 h => ?_)
    refine g_aload_n dX7_settleAll_37 rfl ?_
    refine g_getI fl_7_46 kd_32 rfl dX7_settleAll_38 ?_
    refine g_cVv (st := []) (av := [vI y3, vI y5, vI (m4 32 4)]) (kX1_payStraight hb1 h) (kd_bk0 hb1) rfl cw_RX7_76 (by decide) (by decide) (Nat.le_of_ble_eq_true rfl) rfl dX7_settleAll_41 (fun m6 h => ?_)
    refine g_iinc (lv' := [(3, vI (w32 (l3 + 1))), (0, vR 32), (1, vR b1), (2, vI l2)]) dX7_settleAll_44 rfl (by decide) rfl ?_
    refine g_loc (a := w32 (l3 + 1)) (i := 3) (lv := [(0, vR 32), (1, vR b1), (2, vI l2)]) (fun x7 ex7 => ?_)
    replace h := h x7 ex7
    refine g_goto (tgt := 18) dX7_settleAll_47 (by decide) ?_
    refine g_lv (lv' := [(0, vR 32), (1, vR b1), (2, vI l2), (3, vI x7)]) [1, 2, 3, 0] rfl ?_
    exact hK18 ((l2, x7)) m6 h
theorem eX7_settleAll_18 {E : TE} {b1 : Nat} (hb1 : isBk b1) {K2 : Int → Mem → Prop} (hK2 : ∀ (x : Int) (σ : Mem), K2 x σ → GW E cX7_settleAll 4 RX7 4 97 σ 2 [(0, vR 32), (1, vR b1), (2, vI x)] []) {Q : Int → Mem → Prop} (hR : RI E (some .int) Q) {l2 : Int} {l3 : Int} {σ : Mem} (h : wLX7_settleAll_18 b1 K2 Q l2 l3 σ) : GW E cX7_settleAll 4 RX7 4 97 σ 18 [(0, vR 32), (1, vR b1), (2, vI l2), (3, vI l3)] [] := by
  obtain ⟨n, h⟩ := h
  exact lp_GW (P := fun (x : Int × Int) (σ : Mem) => GW E cX7_settleAll 4 RX7 4 97 σ 18 [(0, vR 32), (1, vR b1), (2, vI x.1), (3, vI x.2)] []) (fun K hK x σ h  => bX7_settleAll_18 hb1 hK2 hK hR h) n _ σ h 
set_option maxHeartbeats 1000000 in
theorem bX7_settleAll_2 {E : TE} {b1 : Nat} (hb1 : isBk b1) {K2 : Int → Mem → Prop} (hK2 : ∀ (x : Int) (σ : Mem), K2 x σ → GW E cX7_settleAll 4 RX7 4 97 σ 2 [(0, vR 32), (1, vR b1), (2, vI x)] []) {Q : Int → Mem → Prop} (hR : RI E (some .int) Q) {l2 : Int} {σ : Mem} (h : wX7_settleAll_2 b1 K2 Q l2 σ) : GW E cX7_settleAll 4 RX7 4 97 σ 2 [(0, vR 32), (1, vR b1), (2, vI l2)] [] := by
  unfold wX7_settleAll_2 at h
  refine g_iload_n dX7_settleAll_2 rfl ?_
  refine g_bipush dX7_settleAll_3 64 rfl (by decide) ?_
  obtain ⟨hA, hB⟩ := h
  refine g_icmp_ge (tgt := 56) dX7_settleAll_5 (by decide) (fun hc => ?_) (fun hc => ?_)
  · replace h := hA hc
    refine g_iload_n dX7_settleAll_56 rfl ?_
    exact g_iret hR dX7_settleAll_57 h
  · replace h := hB hc
    refine g_aload_n dX7_settleAll_8 rfl ?_
    refine g_aload_n dX7_settleAll_9 rfl ?_
    refine g_cVi (st := []) (av := [vR b1]) (kX7_find hb1 h) kd_32 rfl cw_RX7_72 (by decide) (by decide) (Nat.le_of_ble_eq_true rfl) rfl dX7_settleAll_10 (fun y2 m1 h => ?_)
    obtain ⟨hA, hB⟩ := h
    refine g_if_eq (tgt := 56) dX7_settleAll_13 (by decide) (fun hc => ?_) (fun hc => ?_)
    · replace h := hA hc
      refine g_iload_n dX7_settleAll_56 rfl ?_
      exact g_iret hR dX7_settleAll_57 h
    · replace h := hB hc
      refine g_iconst dX7_settleAll_16 0 rfl (by decide) ?_
      refine g_istore_n (lv' := [(3, vI 0), (0, vR 32), (1, vR b1), (2, vI l2)]) dX7_settleAll_17 (by decide) rfl ?_
      refine g_lv (lv' := [(0, vR 32), (1, vR b1), (2, vI l2), (3, vI 0)]) [1, 2, 3, 0] rfl ?_
      exact eX7_settleAll_18 hb1 hK2 hR h
theorem eX7_settleAll_2 {E : TE} {b1 : Nat} (hb1 : isBk b1) {Q : Int → Mem → Prop} (hR : RI E (some .int) Q) {l2 : Int} {σ : Mem} (h : wLX7_settleAll_2 b1 Q l2 σ) : GW E cX7_settleAll 4 RX7 4 97 σ 2 [(0, vR 32), (1, vR b1), (2, vI l2)] [] := by
  obtain ⟨n, h⟩ := h
  exact lp_GW (P := fun (x : Int) (σ : Mem) => GW E cX7_settleAll 4 RX7 4 97 σ 2 [(0, vR 32), (1, vR b1), (2, vI x)] []) (fun K hK x σ h  => bX7_settleAll_2 hb1 hK hR h) n _ σ h 
set_option maxHeartbeats 1000000 in
theorem kX7_settleAll {b1 : Nat} (hb1 : isBk b1) {σ : Mem} {Q : Int → Mem → Prop} (h : wX7_settleAll b1 σ Q) (l : Launch) (D : va_G) (cy : Nat → ClassId) (ad : Nat → Nat) : MI l yX7_settleAll cX7_settleAll 4 (some .int) 4 97 D cy ad [vR 32, vR b1] σ Q := by
  refine m_I (own := RX7) (lv := [(0, vR 32), (1, vR b1)]) (by decide +kernel) rfl (Nat.le_of_ble_eq_true rfl) rfl (fun E hR => ?_) l D cy ad
  unfold wX7_settleAll at h
  refine g_iconst dX7_settleAll_0 0 rfl (by decide) ?_
  refine g_istore_n (lv' := [(2, vI 0), (0, vR 32), (1, vR b1)]) dX7_settleAll_1 (by decide) rfl ?_
  refine g_lv (lv' := [(0, vR 32), (1, vR b1), (2, vI 0)]) [1, 2, 0] rfl ?_
  exact eX7_settleAll_2 hb1 hR h
def wX2_lossOf_36 (b0 : Nat) (K5 : (Int × Int × Int × Int) → Mem → Prop) (Q : Int → Mem → Prop) (l1 : Int) (l2 : Int) (l4 : Int) (s0 : Int) (s1 : Int) (σ : Mem) : Prop := (∀ x1 : Int, x1 = w32 (s1 + s0) → (∀ x2 : Int, x2 = w32 (l4 + 1) → K5 (l1, l2, x1, x2) σ))
def wX2_lossOf_5 (b0 : Nat) (K5 : (Int × Int × Int × Int) → Mem → Prop) (Q : Int → Mem → Prop) (l1 : Int) (l2 : Int) (l3 : Int) (l4 : Int) (σ : Mem) : Prop := ((σ b0 0 ≤ l4 → Q l3 σ) ∧ (¬ σ b0 0 ≤ l4 → ((¬ band (bshr l2 l4) 1 = 1 → wX2_lossOf_36 b0 K5 Q l1 l2 l4 0 l3 σ) ∧ (band (bshr l2 l4) 1 = 1 → (wX1_owed b0 l4 l1 σ (fun y2 m1 => wX2_lossOf_36 b0 K5 Q l1 l2 l4 y2 l3 m1))))))
def wLX2_lossOf_5 (b0 : Nat) (Q : Int → Mem → Prop) (l1 : Int) (l2 : Int) (l3 : Int) (l4 : Int) (σ : Mem) : Prop := ∃ n, lp (fun (K5 : (Int × Int × Int × Int) → Mem → Prop) (x : Int × Int × Int × Int) (σ : Mem) => wX2_lossOf_5 b0 K5 Q x.1 x.2.1 x.2.2.1 x.2.2.2 σ) n (l1, l2, l3, l4) σ
def wX2_lossOf (b0 : Nat) (l1 : Int) (l2 : Int) (σ : Mem) (Q : Int → Mem → Prop) : Prop := wLX2_lossOf_5 b0 Q l1 l2 0 0 σ
set_option maxHeartbeats 1000000 in
theorem bX2_lossOf_36 {E : TE} {b0 : Nat} (hb0 : isBk b0) {K5 : (Int × Int × Int × Int) → Mem → Prop} (hK5 : ∀ (x : Int × Int × Int × Int) (σ : Mem), K5 x σ → GW E cX2_lossOf 5 RX2 2 46 σ 5 [(0, vR b0), (1, vI x.1), (2, vI x.2.1), (3, vI x.2.2.1), (4, vI x.2.2.2)] []) {Q : Int → Mem → Prop} (hR : RI E (some .int) Q) {l1 : Int} {l2 : Int} {l4 : Int} {s0 : Int} {s1 : Int} {σ : Mem} (h : wX2_lossOf_36 b0 K5 Q l1 l2 l4 s0 s1 σ) : GW E cX2_lossOf 5 RX2 2 46 σ 36 [(0, vR b0), (1, vI l1), (2, vI l2), (4, vI l4)] [vI s0, vI s1] := by
  unfold wX2_lossOf_36 at h
  refine g_iadd dX2_lossOf_36 ?_
  refine g_topI (fun x1 ex1 => ?_)
  replace h := h x1 ex1
  refine g_istore_n (lv' := [(3, vI x1), (0, vR b0), (1, vI l1), (2, vI l2), (4, vI l4)]) dX2_lossOf_37 (by decide) rfl ?_
  refine g_iinc (lv' := [(4, vI (w32 (l4 + 1))), (3, vI x1), (0, vR b0), (1, vI l1), (2, vI l2)]) dX2_lossOf_38 rfl (by decide) rfl ?_
  refine g_loc (a := w32 (l4 + 1)) (i := 4) (lv := [(3, vI x1), (0, vR b0), (1, vI l1), (2, vI l2)]) (fun x2 ex2 => ?_)
  replace h := h x2 ex2
  refine g_goto (tgt := 5) dX2_lossOf_41 (by decide) ?_
  refine g_lv (lv' := [(0, vR b0), (1, vI l1), (2, vI l2), (3, vI x1), (4, vI x2)]) [2, 3, 4, 1, 0] rfl ?_
  exact hK5 ((l1, l2, x1, x2)) σ h
set_option maxHeartbeats 1000000 in
theorem bX2_lossOf_5 {E : TE} {b0 : Nat} (hb0 : isBk b0) {K5 : (Int × Int × Int × Int) → Mem → Prop} (hK5 : ∀ (x : Int × Int × Int × Int) (σ : Mem), K5 x σ → GW E cX2_lossOf 5 RX2 2 46 σ 5 [(0, vR b0), (1, vI x.1), (2, vI x.2.1), (3, vI x.2.2.1), (4, vI x.2.2.2)] []) {Q : Int → Mem → Prop} (hR : RI E (some .int) Q) {l1 : Int} {l2 : Int} {l3 : Int} {l4 : Int} {σ : Mem} (h : wX2_lossOf_5 b0 K5 Q l1 l2 l3 l4 σ) : GW E cX2_lossOf 5 RX2 2 46 σ 5 [(0, vR b0), (1, vI l1), (2, vI l2), (3, vI l3), (4, vI l4)] [] := by
  unfold wX2_lossOf_5 at h
  refine g_iload dX2_lossOf_5 rfl ?_
  refine g_aload_n dX2_lossOf_7 rfl ?_
  refine g_getI fl_2_28 (kd_bk0 hb0) rfl dX2_lossOf_8 ?_
  obtain ⟨hA, hB⟩ := h
  refine g_icmp_ge (tgt := 44) dX2_lossOf_11 (by decide) (fun hc => ?_) (fun hc => ?_)
  · replace h := hA hc
    refine g_iload_n dX2_lossOf_44 rfl ?_
    exact g_iret hR dX2_lossOf_45 h
  · replace h := hB hc
    refine g_iload_n dX2_lossOf_14 rfl ?_
    refine g_iload_n dX2_lossOf_15 rfl ?_
    refine g_iload dX2_lossOf_16 rfl ?_
    refine g_ishr dX2_lossOf_18 ?_
    refine g_iconst dX2_lossOf_19 1 rfl (by decide) ?_
    refine g_iand dX2_lossOf_20 ?_
    refine g_iconst dX2_lossOf_21 1 rfl (by decide) ?_
    obtain ⟨hA, hB⟩ := h
    refine g_icmp_ne (tgt := 35) dX2_lossOf_22 (by decide) (fun hc => ?_) (fun hc => ?_)
    · replace h := hA hc
      refine g_iconst dX2_lossOf_35 0 rfl (by decide) ?_
      refine g_lv (lv' := [(0, vR b0), (1, vI l1), (2, vI l2), (4, vI l4)]) [0, 1, 2, 4] rfl ?_
      exact bX2_lossOf_36 hb0 hK5 hR h
    · replace h := hB hc
      refine g_aload_n dX2_lossOf_25 rfl ?_
      refine g_iload dX2_lossOf_26 rfl ?_
      refine g_iload_n dX2_lossOf_28 rfl ?_
      refine g_cVi (st := [vI l3]) (av := [vI l4, vI l1]) (kX1_owed hb0 h) (kd_bk0 hb0) rfl cw_RX2_41 (by decide) (by decide) (Nat.le_of_ble_eq_true rfl) rfl dX2_lossOf_29 (fun y2 m1 h => ?_)
      refine g_goto (tgt := 36) dX2_lossOf_32 (by decide) ?_
      refine g_lv (lv' := [(0, vR b0), (1, vI l1), (2, vI l2), (4, vI l4)]) [0, 1, 2, 4] rfl ?_
      exact bX2_lossOf_36 hb0 hK5 hR h
theorem eX2_lossOf_5 {E : TE} {b0 : Nat} (hb0 : isBk b0) {Q : Int → Mem → Prop} (hR : RI E (some .int) Q) {l1 : Int} {l2 : Int} {l3 : Int} {l4 : Int} {σ : Mem} (h : wLX2_lossOf_5 b0 Q l1 l2 l3 l4 σ) : GW E cX2_lossOf 5 RX2 2 46 σ 5 [(0, vR b0), (1, vI l1), (2, vI l2), (3, vI l3), (4, vI l4)] [] := by
  obtain ⟨n, h⟩ := h
  exact lp_GW (P := fun (x : Int × Int × Int × Int) (σ : Mem) => GW E cX2_lossOf 5 RX2 2 46 σ 5 [(0, vR b0), (1, vI x.1), (2, vI x.2.1), (3, vI x.2.2.1), (4, vI x.2.2.2)] []) (fun K hK x σ h  => bX2_lossOf_5 hb0 hK hR h) n _ σ h 
set_option maxHeartbeats 1000000 in
theorem kX2_lossOf {b0 : Nat} {l1 : Int} {l2 : Int} (hb0 : isBk b0) {σ : Mem} {Q : Int → Mem → Prop} (h : wX2_lossOf b0 l1 l2 σ Q) (l : Launch) (D : va_G) (cy : Nat → ClassId) (ad : Nat → Nat) : MI l yX2_lossOf cX2_lossOf 5 (some .int) 2 46 D cy ad [vR b0, vI l1, vI l2] σ Q := by
  refine m_I (own := RX2) (lv := [(0, vR b0), (1, vI l1), (2, vI l2)]) (by decide +kernel) rfl (Nat.le_of_ble_eq_true rfl) rfl (fun E hR => ?_) l D cy ad
  unfold wX2_lossOf at h
  refine g_iconst dX2_lossOf_0 0 rfl (by decide) ?_
  refine g_istore_n (lv' := [(3, vI 0), (0, vR b0), (1, vI l1), (2, vI l2)]) dX2_lossOf_1 (by decide) rfl ?_
  refine g_iconst dX2_lossOf_2 0 rfl (by decide) ?_
  refine g_istore (lv' := [(4, vI 0), (3, vI 0), (0, vR b0), (1, vI l1), (2, vI l2)]) dX2_lossOf_3 (by decide) rfl ?_
  refine g_lv (lv' := [(0, vR b0), (1, vI l1), (2, vI l2), (3, vI 0), (4, vI 0)]) [2, 3, 4, 1, 0] rfl ?_
  exact eX2_lossOf_5 hb0 hR h
def wX2_nextToFail_4 (b0 : Nat) (K4 : (Int × Int × Int) → Mem → Prop) (Q : Int → Mem → Prop) (l1 : Int) (l2 : Int) (l3 : Int) (σ : Mem) : Prop := ((σ b0 0 ≤ l3 → Q l2 σ) ∧ (¬ σ b0 0 ≤ l3 → ((8 ≤ l3 → Q l2 σ) ∧ (¬ 8 ≤ l3 → ((¬ band (bshr l1 l3) 1 = 0 → (∀ x1 : Int, x1 = w32 (l3 + 1) → K4 (l1, l2, x1) σ)) ∧ (band (bshr l1 l3) 1 = 0 → (wX2_lossOf b0 l3 l1 σ (fun y3 m2 => ((0 ≤ l3 ∧ l3 < 8) ∧ ((y3 ≤ m2 (b0 + 3) l3.toNat → (∀ x4 : Int, x4 = w32 (l3 + 1) → K4 (l1, l2, x4) m2)) ∧ (¬ y3 ≤ m2 (b0 + 3) l3.toNat → (∀ x5 : Int, x5 = bor l2 (bshl 1 l3) → (∀ x6 : Int, x6 = w32 (l3 + 1) → K4 (l1, x5, x6) m2)))))))))))))
def wLX2_nextToFail_4 (b0 : Nat) (Q : Int → Mem → Prop) (l1 : Int) (l2 : Int) (l3 : Int) (σ : Mem) : Prop := ∃ n, lp (fun (K4 : (Int × Int × Int) → Mem → Prop) (x : Int × Int × Int) (σ : Mem) => wX2_nextToFail_4 b0 K4 Q x.1 x.2.1 x.2.2 σ) n (l1, l2, l3) σ
def wX2_nextToFail (b0 : Nat) (l1 : Int) (σ : Mem) (Q : Int → Mem → Prop) : Prop := wLX2_nextToFail_4 b0 Q l1 0 0 σ
set_option maxHeartbeats 1000000 in
theorem bX2_nextToFail_4 {E : TE} {b0 : Nat} (hb0 : isBk b0) {K4 : (Int × Int × Int) → Mem → Prop} (hK4 : ∀ (x : Int × Int × Int) (σ : Mem), K4 x σ → GW E cX2_nextToFail 4 RX2 3 70 σ 4 [(0, vR b0), (1, vI x.1), (2, vI x.2.1), (3, vI x.2.2)] []) {Q : Int → Mem → Prop} (hR : RI E (some .int) Q) {l1 : Int} {l2 : Int} {l3 : Int} {σ : Mem} (h : wX2_nextToFail_4 b0 K4 Q l1 l2 l3 σ) : GW E cX2_nextToFail 4 RX2 3 70 σ 4 [(0, vR b0), (1, vI l1), (2, vI l2), (3, vI l3)] [] := by
  unfold wX2_nextToFail_4 at h
  refine g_iload_n dX2_nextToFail_4 rfl ?_
  refine g_aload_n dX2_nextToFail_5 rfl ?_
  refine g_getI fl_2_28 (kd_bk0 hb0) rfl dX2_nextToFail_6 ?_
  obtain ⟨hA, hB⟩ := h
  refine g_icmp_ge (tgt := 53) dX2_nextToFail_9 (by decide) (fun hc => ?_) (fun hc => ?_)
  · replace h := hA hc
    refine g_iload_n dX2_nextToFail_53 rfl ?_
    exact g_iret hR dX2_nextToFail_54 h
  · replace h := hB hc
    refine g_iload_n dX2_nextToFail_12 rfl ?_
    refine g_bipush dX2_nextToFail_13 8 rfl (by decide) ?_
    obtain ⟨hA, hB⟩ := h
    refine g_icmp_ge (tgt := 53) dX2_nextToFail_15 (by decide) (fun hc => ?_) (fun hc => ?_)
    · replace h := hA hc
      refine g_iload_n dX2_nextToFail_53 rfl ?_
      exact g_iret hR dX2_nextToFail_54 h
    · replace h := hB hc
      refine g_iload_n dX2_nextToFail_18 rfl ?_
      refine g_iload_n dX2_nextToFail_19 rfl ?_
      refine g_ishr dX2_nextToFail_20 ?_
      refine g_iconst dX2_nextToFail_21 1 rfl (by decide) ?_
      refine g_iand dX2_nextToFail_22 ?_
      obtain ⟨hA, hB⟩ := h
      refine g_if_ne (tgt := 47) dX2_nextToFail_23 (by decide) (fun hc => ?_) (fun hc => ?_)
      · replace h := hA hc
        refine g_iinc (lv' := [(3, vI (w32 (l3 + 1))), (0, vR b0), (1, vI l1), (2, vI l2)]) dX2_nextToFail_47 rfl (by decide) rfl ?_
        refine g_loc (a := w32 (l3 + 1)) (i := 3) (lv := [(0, vR b0), (1, vI l1), (2, vI l2)]) (fun x1 ex1 => ?_)
        replace h := h x1 ex1
        refine g_goto (tgt := 4) dX2_nextToFail_50 (by decide) ?_
        refine g_lv (lv' := [(0, vR b0), (1, vI l1), (2, vI l2), (3, vI x1)]) [1, 2, 3, 0] rfl ?_
        exact hK4 ((l1, l2, x1)) σ h
      · replace h := hB hc
        refine g_aload_n dX2_nextToFail_26 rfl ?_
        refine g_iload_n dX2_nextToFail_27 rfl ?_
        refine g_iload_n dX2_nextToFail_28 rfl ?_
        refine g_cSi (st := []) (av := [vR b0, vI l3, vI l1]) (kX2_lossOf hb0 h) cw_RX2_33 (by decide) (by decide) (Nat.le_of_ble_eq_true rfl) rfl dX2_nextToFail_29 (fun y3 m2 h => ?_)
        refine g_aload_n dX2_nextToFail_32 rfl ?_
        refine g_getR (r := b0 + 3) fl_2_37 (kd_bk0 hb0) rfl dX2_nextToFail_33 ?_
        refine g_iload_n dX2_nextToFail_36 rfl ?_
        obtain ⟨hin, h⟩ := h
        refine g_iald (kd_bk3 hb0) hin dX2_nextToFail_37 ?_
        obtain ⟨hA, hB⟩ := h
        refine g_icmp_le (tgt := 47) dX2_nextToFail_38 (by decide) (fun hc => ?_) (fun hc => ?_)
        · replace h := hA hc
          refine g_iinc (lv' := [(3, vI (w32 (l3 + 1))), (0, vR b0), (1, vI l1), (2, vI l2)]) dX2_nextToFail_47 rfl (by decide) rfl ?_
          refine g_loc (a := w32 (l3 + 1)) (i := 3) (lv := [(0, vR b0), (1, vI l1), (2, vI l2)]) (fun x4 ex4 => ?_)
          replace h := h x4 ex4
          refine g_goto (tgt := 4) dX2_nextToFail_50 (by decide) ?_
          refine g_lv (lv' := [(0, vR b0), (1, vI l1), (2, vI l2), (3, vI x4)]) [1, 2, 3, 0] rfl ?_
          exact hK4 ((l1, l2, x4)) m2 h
        · replace h := hB hc
          refine g_iload_n dX2_nextToFail_41 rfl ?_
          refine g_iconst dX2_nextToFail_42 1 rfl (by decide) ?_
          refine g_iload_n dX2_nextToFail_43 rfl ?_
          refine g_ishl dX2_nextToFail_44 ?_
          refine g_ior dX2_nextToFail_45 ?_
          refine g_topI (fun x5 ex5 => ?_)
          replace h := h x5 ex5
          refine g_istore_n (lv' := [(2, vI x5), (0, vR b0), (1, vI l1), (3, vI l3)]) dX2_nextToFail_46 (by decide) rfl ?_
          refine g_iinc (lv' := [(3, vI (w32 (l3 + 1))), (2, vI x5), (0, vR b0), (1, vI l1)]) dX2_nextToFail_47 rfl (by decide) rfl ?_
          refine g_loc (a := w32 (l3 + 1)) (i := 3) (lv := [(2, vI x5), (0, vR b0), (1, vI l1)]) (fun x6 ex6 => ?_)
          replace h := h x6 ex6
          refine g_goto (tgt := 4) dX2_nextToFail_50 (by decide) ?_
          refine g_lv (lv' := [(0, vR b0), (1, vI l1), (2, vI x5), (3, vI x6)]) [2, 3, 1, 0] rfl ?_
          exact hK4 ((l1, x5, x6)) m2 h
theorem eX2_nextToFail_4 {E : TE} {b0 : Nat} (hb0 : isBk b0) {Q : Int → Mem → Prop} (hR : RI E (some .int) Q) {l1 : Int} {l2 : Int} {l3 : Int} {σ : Mem} (h : wLX2_nextToFail_4 b0 Q l1 l2 l3 σ) : GW E cX2_nextToFail 4 RX2 3 70 σ 4 [(0, vR b0), (1, vI l1), (2, vI l2), (3, vI l3)] [] := by
  obtain ⟨n, h⟩ := h
  exact lp_GW (P := fun (x : Int × Int × Int) (σ : Mem) => GW E cX2_nextToFail 4 RX2 3 70 σ 4 [(0, vR b0), (1, vI x.1), (2, vI x.2.1), (3, vI x.2.2)] []) (fun K hK x σ h  => bX2_nextToFail_4 hb0 hK hR h) n _ σ h 
set_option maxHeartbeats 1000000 in
theorem kX2_nextToFail {b0 : Nat} {l1 : Int} (hb0 : isBk b0) {σ : Mem} {Q : Int → Mem → Prop} (h : wX2_nextToFail b0 l1 σ Q) (l : Launch) (D : va_G) (cy : Nat → ClassId) (ad : Nat → Nat) : MI l yX2_nextToFail cX2_nextToFail 4 (some .int) 3 70 D cy ad [vR b0, vI l1] σ Q := by
  refine m_I (own := RX2) (lv := [(0, vR b0), (1, vI l1)]) (by decide +kernel) rfl (Nat.le_of_ble_eq_true rfl) rfl (fun E hR => ?_) l D cy ad
  unfold wX2_nextToFail at h
  refine g_iconst dX2_nextToFail_0 0 rfl (by decide) ?_
  refine g_istore_n (lv' := [(2, vI 0), (0, vR b0), (1, vI l1)]) dX2_nextToFail_1 (by decide) rfl ?_
  refine g_iconst dX2_nextToFail_2 0 rfl (by decide) ?_
  refine g_istore_n (lv' := [(3, vI 0), (2, vI 0), (0, vR b0), (1, vI l1)]) dX2_nextToFail_3 (by decide) rfl ?_
  refine g_lv (lv' := [(0, vR b0), (1, vI l1), (2, vI 0), (3, vI 0)]) [2, 3, 1, 0] rfl ?_
  exact eX2_nextToFail_4 hb0 hR h
def wX2_run_134 (b1 : Nat) (K79 : Int → Mem → Prop) (Q : Mem → Prop) (l4 : Int) (s0 : Int) (s1 : Int) (σ : Mem) : Prop := (∀ m1 : Mem, m1 = up2 σ 36 3 (w32 (s1 + s0)) → (∀ x2 : Int, x2 = w32 (l4 + 1) → K79 x2 m1))
def wX2_run_79 (b1 : Nat) (K79 : Int → Mem → Prop) (Q : Mem → Prop) (l4 : Int) (σ : Mem) : Prop := ((σ b1 0 ≤ l4 → Q σ) ∧ (¬ σ b1 0 ≤ l4 → (wX2_lossOf b1 l4 (σ 36 0) σ (fun y2 m1 => (∀ m3 : Mem, m3 = up2 m1 36 2 (w32 ((m1 36 2) + y2)) → ((¬ band (bshr (m3 36 0) l4) 1 = 0 → wX2_run_134 b1 K79 Q l4 0 (m3 36 3) m3) ∧ (band (bshr (m3 36 0) l4) 1 = 0 → wX2_run_134 b1 K79 Q l4 y2 (m3 36 3) m3)))))))
def wLX2_run_79 (b1 : Nat) (Q : Mem → Prop) (l4 : Int) (σ : Mem) : Prop := ∃ n, lp (fun (K79 : Int → Mem → Prop) (x : Int) (σ : Mem) => wX2_run_79 b1 K79 Q x σ) n l4 σ
def wX2_run_66 (b1 : Nat) (Q : Mem → Prop) (σ : Mem) : Prop := (∀ m1 : Mem, m1 = up2 σ 36 2 0 → (∀ m2 : Mem, m2 = up2 m1 36 3 0 → wLX2_run_79 b1 Q 0 m2))
def wX2_run_21 (b1 : Nat) (K21 : Int → Mem → Prop) (Q : Mem → Prop) (l3 : Int) (σ : Mem) : Prop := ((l3 = 0 → wX2_run_66 b1 Q σ) ∧ (¬ l3 = 0 → ((8 ≤ σ 36 1 → wX2_run_66 b1 Q σ) ∧ (¬ 8 ≤ σ 36 1 → (∀ m1 : Mem, m1 = up2 σ 36 0 (bor (σ 36 0) l3) → (∀ m2 : Mem, m2 = up2 m1 36 1 (w32 ((m1 36 1) + 1)) → (wX2_nextToFail b1 (m2 36 0) m2 (fun y4 m3 => K21 y4 m3))))))))
def wLX2_run_21 (b1 : Nat) (Q : Mem → Prop) (l3 : Int) (σ : Mem) : Prop := ∃ n, lp (fun (K21 : Int → Mem → Prop) (x : Int) (σ : Mem) => wX2_run_21 b1 K21 Q x σ) n l3 σ
def wX2_run (b1 : Nat) (l2 : Int) (σ : Mem) (Q : Mem → Prop) : Prop := (∀ m1 : Mem, m1 = up2 σ 36 0 (bshl 1 l2) → (∀ m2 : Mem, m2 = up2 m1 36 1 0 → (wX2_nextToFail b1 (m2 36 0) m2 (fun y4 m3 => wLX2_run_21 b1 Q y4 m3))))
set_option maxHeartbeats 1000000 in
theorem bX2_run_134 {E : TE} {b1 : Nat} (hb1 : isBk b1) {K79 : Int → Mem → Prop} (hK79 : ∀ (x : Int) (σ : Mem), K79 x σ → GW E cX2_run 6 RX2 4 93 σ 79 [(0, vR 36), (1, vR b1), (4, vI x)] []) {Q : Mem → Prop} (hR : RV E none Q) {l4 : Int} {s0 : Int} {s1 : Int} {σ : Mem} (h : wX2_run_134 b1 K79 Q l4 s0 s1 σ) : GW E cX2_run 6 RX2 4 93 σ 134 [(0, vR 36), (1, vR b1), (4, vI l4)] [vI s0, vI s1, vR 36] := by
  unfold wX2_run_134 at h
  refine g_iadd dX2_run_134 ?_
  refine g_putI fp_2_25 kd_36 rfl dX2_run_135 ?_
  refine g_nm (fun m1 em1 => ?_)
  replace h := h m1 em1
  refine g_iinc (lv' := [(4, vI (w32 (l4 + 1))), (0, vR 36), (1, vR b1)]) dX2_run_138 rfl (by decide) rfl ?_
  refine g_loc (a := w32 (l4 + 1)) (i := 4) (lv := [(0, vR 36), (1, vR b1)]) (fun x2 ex2 => ?_)
  replace h := h x2 ex2
  refine g_goto (tgt := 79) dX2_run_141 (by decide) ?_
  refine g_lv (lv' := [(0, vR 36), (1, vR b1), (4, vI x2)]) [1, 2, 0] rfl ?_
  exact hK79 x2 m1 h
set_option maxHeartbeats 1000000 in
theorem bX2_run_79 {E : TE} {b1 : Nat} (hb1 : isBk b1) {K79 : Int → Mem → Prop} (hK79 : ∀ (x : Int) (σ : Mem), K79 x σ → GW E cX2_run 6 RX2 4 93 σ 79 [(0, vR 36), (1, vR b1), (4, vI x)] []) {Q : Mem → Prop} (hR : RV E none Q) {l4 : Int} {σ : Mem} (h : wX2_run_79 b1 K79 Q l4 σ) : GW E cX2_run 6 RX2 4 93 σ 79 [(0, vR 36), (1, vR b1), (4, vI l4)] [] := by
  unfold wX2_run_79 at h
  refine g_iload dX2_run_79 rfl ?_
  refine g_aload_n dX2_run_81 rfl ?_
  refine g_getI fl_2_28 (kd_bk0 hb1) rfl dX2_run_82 ?_
  obtain ⟨hA, hB⟩ := h
  refine g_icmp_ge (tgt := 144) dX2_run_85 (by decide) (fun hc => ?_) (fun hc => ?_)
  · replace h := hA hc
    exact g_vret hR dX2_run_144 h
  · replace h := hB hc
    refine g_aload_n dX2_run_88 rfl ?_
    refine g_iload dX2_run_89 rfl ?_
    refine g_aload_n dX2_run_91 rfl ?_
    refine g_getI fl_2_9 kd_36 rfl dX2_run_92 ?_
    refine g_cSi (st := []) (av := [vR b1, vI l4, vI (σ 36 0)]) (kX2_lossOf hb1 h) cw_RX2_33 (by decide) (by decide) (Nat.le_of_ble_eq_true rfl) rfl dX2_run_95 (fun y2 m1 h => ?_)
    refine g_istore (lv' := [(5, vI y2), (0, vR 36), (1, vR b1), (4, vI l4)]) dX2_run_98 (by decide) rfl ?_
    refine g_aload_n dX2_run_100 rfl ?_
    refine g_dup dX2_run_101 rfl ?_
    refine g_getI fl_2_22 kd_36 rfl dX2_run_102 ?_
    refine g_iload dX2_run_105 rfl ?_
    refine g_iadd dX2_run_107 ?_
    refine g_putI fp_2_22 kd_36 rfl dX2_run_108 ?_
    refine g_nm (fun m3 em3 => ?_)
    replace h := h m3 em3
    refine g_aload_n dX2_run_111 rfl ?_
    refine g_dup dX2_run_112 rfl ?_
    refine g_getI fl_2_25 kd_36 rfl dX2_run_113 ?_
    refine g_aload_n dX2_run_116 rfl ?_
    refine g_getI fl_2_9 kd_36 rfl dX2_run_117 ?_
    refine g_iload dX2_run_120 rfl ?_
    refine g_ishr dX2_run_122 ?_
    refine g_iconst dX2_run_123 1 rfl (by decide) ?_
    refine g_iand dX2_run_124 ?_
    obtain ⟨hA, hB⟩ := h
    refine g_if_ne (tgt := 133) dX2_run_125 (by decide) (fun hc => ?_) (fun hc => ?_)
    · replace h := hA hc
      refine g_iconst dX2_run_133 0 rfl (by decide) ?_
      refine g_lv (lv' := [(0, vR 36), (1, vR b1), (4, vI l4)]) [1, 2, 3] rfl ?_
      exact bX2_run_134 hb1 hK79 hR h
    · replace h := hB hc
      refine g_iload dX2_run_128 rfl ?_
      refine g_goto (tgt := 134) dX2_run_130 (by decide) ?_
      refine g_lv (lv' := [(0, vR 36), (1, vR b1), (4, vI l4)]) [1, 2, 3] rfl ?_
      exact bX2_run_134 hb1 hK79 hR h
theorem eX2_run_79 {E : TE} {b1 : Nat} (hb1 : isBk b1) {Q : Mem → Prop} (hR : RV E none Q) {l4 : Int} {σ : Mem} (h : wLX2_run_79 b1 Q l4 σ) : GW E cX2_run 6 RX2 4 93 σ 79 [(0, vR 36), (1, vR b1), (4, vI l4)] [] := by
  obtain ⟨n, h⟩ := h
  exact lp_GW (P := fun (x : Int) (σ : Mem) => GW E cX2_run 6 RX2 4 93 σ 79 [(0, vR 36), (1, vR b1), (4, vI x)] []) (fun K hK x σ h  => bX2_run_79 hb1 hK hR h) n _ σ h 
set_option maxHeartbeats 1000000 in
theorem bX2_run_66 {E : TE} {b1 : Nat} (hb1 : isBk b1) {Q : Mem → Prop} (hR : RV E none Q) {σ : Mem} (h : wX2_run_66 b1 Q σ) : GW E cX2_run 6 RX2 4 93 σ 66 [(0, vR 36), (1, vR b1)] [] := by
  unfold wX2_run_66 at h
  refine g_aload_n dX2_run_66 rfl ?_
  refine g_iconst dX2_run_67 0 rfl (by decide) ?_
  refine g_putI fp_2_22 kd_36 rfl dX2_run_68 ?_
  refine g_nm (fun m1 em1 => ?_)
  replace h := h m1 em1
  refine g_aload_n dX2_run_71 rfl ?_
  refine g_iconst dX2_run_72 0 rfl (by decide) ?_
  refine g_putI fp_2_25 kd_36 rfl dX2_run_73 ?_
  refine g_nm (fun m2 em2 => ?_)
  replace h := h m2 em2
  refine g_iconst dX2_run_76 0 rfl (by decide) ?_
  refine g_istore (lv' := [(4, vI 0), (0, vR 36), (1, vR b1)]) dX2_run_77 (by decide) rfl ?_
  refine g_lv (lv' := [(0, vR 36), (1, vR b1), (4, vI 0)]) [1, 2, 0] rfl ?_
  exact eX2_run_79 hb1 hR h
set_option maxHeartbeats 1000000 in
theorem bX2_run_21 {E : TE} {b1 : Nat} (hb1 : isBk b1) {K21 : Int → Mem → Prop} (hK21 : ∀ (x : Int) (σ : Mem), K21 x σ → GW E cX2_run 6 RX2 4 93 σ 21 [(0, vR 36), (1, vR b1), (3, vI x)] []) {Q : Mem → Prop} (hR : RV E none Q) {l3 : Int} {σ : Mem} (h : wX2_run_21 b1 K21 Q l3 σ) : GW E cX2_run 6 RX2 4 93 σ 21 [(0, vR 36), (1, vR b1), (3, vI l3)] [] := by
  unfold wX2_run_21 at h
  refine g_iload_n dX2_run_21 rfl ?_
  obtain ⟨hA, hB⟩ := h
  refine g_if_eq (tgt := 66) dX2_run_22 (by decide) (fun hc => ?_) (fun hc => ?_)
  · replace h := hA hc
    refine g_lv (lv' := [(0, vR 36), (1, vR b1)]) [0, 1] rfl ?_
    exact bX2_run_66 hb1 hR h
  · replace h := hB hc
    refine g_aload_n dX2_run_25 rfl ?_
    refine g_getI fl_2_15 kd_36 rfl dX2_run_26 ?_
    refine g_bipush dX2_run_29 8 rfl (by decide) ?_
    obtain ⟨hA, hB⟩ := h
    refine g_icmp_ge (tgt := 66) dX2_run_31 (by decide) (fun hc => ?_) (fun hc => ?_)
    · replace h := hA hc
      refine g_lv (lv' := [(0, vR 36), (1, vR b1)]) [0, 1] rfl ?_
      exact bX2_run_66 hb1 hR h
    · replace h := hB hc
      refine g_aload_n dX2_run_34 rfl ?_
      refine g_dup dX2_run_35 rfl ?_
      refine g_getI fl_2_9 kd_36 rfl dX2_run_36 ?_
      refine g_iload_n dX2_run_39 rfl ?_
      refine g_ior dX2_run_40 ?_
      refine g_putI fp_2_9 kd_36 rfl dX2_run_41 ?_
      refine g_nm (fun m1 em1 => ?_)
      replace h := h m1 em1
      refine g_aload_n dX2_run_44 rfl ?_
      refine g_dup dX2_run_45 rfl ?_
      refine g_getI fl_2_15 kd_36 rfl dX2_run_46 ?_
      refine g_iconst dX2_run_49 1 rfl (by decide) ?_
      refine g_iadd dX2_run_50 ?_
      refine g_putI fp_2_15 kd_36 rfl dX2_run_51 ?_
      refine g_nm (fun m2 em2 => ?_)
      replace h := h m2 em2
      refine g_aload_n dX2_run_54 rfl ?_
      refine g_aload_n dX2_run_55 rfl ?_
      refine g_getI fl_2_9 kd_36 rfl dX2_run_56 ?_
      refine g_cSi (st := []) (av := [vR b1, vI (m2 36 0)]) (kX2_nextToFail hb1 h) cw_RX2_18 (by decide) (by decide) (Nat.le_of_ble_eq_true rfl) rfl dX2_run_59 (fun y4 m3 h => ?_)
      refine g_istore_n (lv' := [(3, vI y4), (0, vR 36), (1, vR b1)]) dX2_run_62 (by decide) rfl ?_
      refine g_goto (tgt := 21) dX2_run_63 (by decide) ?_
      refine g_lv (lv' := [(0, vR 36), (1, vR b1), (3, vI y4)]) [1, 2, 0] rfl ?_
      exact hK21 y4 m3 h
theorem eX2_run_21 {E : TE} {b1 : Nat} (hb1 : isBk b1) {Q : Mem → Prop} (hR : RV E none Q) {l3 : Int} {σ : Mem} (h : wLX2_run_21 b1 Q l3 σ) : GW E cX2_run 6 RX2 4 93 σ 21 [(0, vR 36), (1, vR b1), (3, vI l3)] [] := by
  obtain ⟨n, h⟩ := h
  exact lp_GW (P := fun (x : Int) (σ : Mem) => GW E cX2_run 6 RX2 4 93 σ 21 [(0, vR 36), (1, vR b1), (3, vI x)] []) (fun K hK x σ h  => bX2_run_21 hb1 hK hR h) n _ σ h 
set_option maxHeartbeats 1000000 in
theorem kX2_run {b1 : Nat} {l2 : Int} (hb1 : isBk b1) {σ : Mem} {Q : Mem → Prop} (h : wX2_run b1 l2 σ Q) (l : Launch) (D : va_G) (cy : Nat → ClassId) (ad : Nat → Nat) : MV l yX2_run cX2_run 6 none 4 93 D cy ad [vR 36, vR b1, vI l2] σ Q := by
  refine m_V (own := RX2) (lv := [(0, vR 36), (1, vR b1), (2, vI l2)]) (by decide +kernel) rfl (Nat.le_of_ble_eq_true rfl) rfl (fun E hR => ?_) l D cy ad
  unfold wX2_run at h
  refine g_aload_n dX2_run_0 rfl ?_
  refine g_iconst dX2_run_1 1 rfl (by decide) ?_
  refine g_iload_n dX2_run_2 rfl ?_
  refine g_ishl dX2_run_3 ?_
  refine g_putI fp_2_9 kd_36 rfl dX2_run_4 ?_
  refine g_nm (fun m1 em1 => ?_)
  replace h := h m1 em1
  refine g_aload_n dX2_run_7 rfl ?_
  refine g_iconst dX2_run_8 0 rfl (by decide) ?_
  refine g_putI fp_2_15 kd_36 rfl dX2_run_9 ?_
  refine g_nm (fun m2 em2 => ?_)
  replace h := h m2 em2
  refine g_aload_n dX2_run_12 rfl ?_
  refine g_aload_n dX2_run_13 rfl ?_
  refine g_getI fl_2_9 kd_36 rfl dX2_run_14 ?_
  refine g_cSi (st := []) (av := [vR b1, vI (m2 36 0)]) (kX2_nextToFail hb1 h) cw_RX2_18 (by decide) (by decide) (Nat.le_of_ble_eq_true rfl) rfl dX2_run_17 (fun y4 m3 h => ?_)
  refine g_istore_n (lv' := [(3, vI y4), (0, vR 36), (1, vR b1), (2, vI l2)]) dX2_run_20 (by decide) rfl ?_
  refine g_lv (lv' := [(0, vR 36), (1, vR b1), (3, vI y4)]) [1, 2, 0] rfl ?_
  exact eX2_run_21 hb1 hR h
def wX8_goOn_29 (R : Int → Int → Mem → (Mem → Prop) → Prop) (Q : Mem → Prop) (σ : Mem) : Prop := (∀ m1 : Mem, m1 = up2 σ 23 3 (w32 ((σ 23 3) + 1)) → Q m1)
def wX8_goOn_66 (R : Int → Int → Mem → (Mem → Prop) → Prop) (K66 : (Int × Int × Int) → Mem → Prop) (Q : Mem → Prop) (l3 : Int) (l4 : Int) (l5 : Int) (σ : Mem) : Prop := ((σ 7 4 ≤ l5 → Q σ) ∧ (¬ σ 7 4 ≤ l5 → ((¬ band (bshr l4 l5) 1 = 1 → ((0 ≤ l3 ∧ l3 < 5) ∧ (∀ m2 : Mem, m2 = upA σ 15 (acp (σ (25 + l3.toNat)) (σ 15) 0 0 64) → ((0 ≤ l5 ∧ l5 < 80) ∧ (∀ x3 : Int, x3 = m2 11 l5.toNat → ((0 ≤ l5 ∧ l5 < 80) ∧ ((0 ≤ l5 ∧ l5 < 80) ∧ (wX4_send (m2 9 l5.toNat) (m2 10 l5.toNat) x3 m2 (fun y5 m4 => ((¬ y5 = x3 → (∀ x6 : Int, x6 = w32 (l5 + 1) → K66 (l3, l4, x6) m4)) ∧ (y5 = x3 → ((0 ≤ l3 ∧ l3 < 5) ∧ (∀ m7 : Mem, m7 = up2 m4 30 l3.toNat l5 → (R (w32 (l3 + 1)) (bor l4 (bshl 1 l5)) m7 (fun m8 => (∀ x9 : Int, x9 = w32 (l5 + 1) → K66 (l3, l4, x9) m8)))))))))))))))) ∧ (band (bshr l4 l5) 1 = 1 → (∀ x10 : Int, x10 = w32 (l5 + 1) → K66 (l3, l4, x10) σ)))))
def wLX8_goOn_66 (R : Int → Int → Mem → (Mem → Prop) → Prop) (Q : Mem → Prop) (l3 : Int) (l4 : Int) (l5 : Int) (σ : Mem) : Prop := ∃ n, lp (fun (K66 : (Int × Int × Int) → Mem → Prop) (x : Int × Int × Int) (σ : Mem) => wX8_goOn_66 R K66 Q x.1 x.2.1 x.2.2 σ) n (l3, l4, l5) σ
def wBX8_goOn (R : Int → Int → Mem → (Mem → Prop) → Prop) (l3 : Int) (l4 : Int) (σ : Mem) (Q : Mem → Prop) : Prop := ((l3 < σ 7 4 → ((l3 < 5 → ((0 ≤ l3 ∧ l3 < 5) ∧ (∀ m2 : Mem, m2 = upA σ (25 + l3.toNat) (acp (σ 15) (σ (25 + l3.toNat)) 0 0 64) → wLX8_goOn_66 R Q l3 l4 0 m2))) ∧ (¬ l3 < 5 → Q σ))) ∧ (¬ l3 < σ 7 4 → ((¬ σ 23 3 = 0 → wX8_goOn_29 R Q σ) ∧ (σ 23 3 = 0 → (∀ m3 : Mem, m3 = upA σ 31 (acp (σ 30) (σ 31) 0 0 5) → wX8_goOn_29 R Q m3)))))
def wRX8_goOn : Nat → Int → Int → Mem → (Mem → Prop) → Prop
  | 0, _, _, _, _ => False
  | d + 1, l3, l4, σ, Q => wBX8_goOn (wRX8_goOn d) l3 l4 σ Q
def wX8_goOn (l3 : Int) (l4 : Int) (σ : Mem) (Q : Mem → Prop) : Prop := wRX8_goOn 10 l3 l4 σ Q
set_option maxHeartbeats 1000000 in
theorem bX8_goOn_29 {E : TE} {fr lo fr2 lo2 : Nat} (hfl : 4 ≤ fr ∧ 99 ≤ lo ∧ fr2 + 1 ≤ fr ∧ 8 + (7 + 11) + lo2 ≤ lo) {R : Int → Int → Mem → (Mem → Prop) → Prop} (hRec : ∀ {l3 l4 : Int} {σ : Mem} {Q : Mem → Prop}, R l3 l4 σ Q → ∀ (l : Launch) (D : va_G) (cy : Nat → ClassId) (ad : Nat → Nat), MV l yX8_goOn cX8_goOn 7 none fr2 lo2 D cy ad [vR 23, vR 14, vR 7, vI l3, vI l4] σ Q) {Q : Mem → Prop} (hR : RV E none Q) {σ : Mem} (h : wX8_goOn_29 R Q σ) : GW E cX8_goOn 7 RX8 fr lo σ 29 [(0, vR 23)] [] := by
  unfold wX8_goOn_29 at h
  refine g_aload_n dX8_goOn_29 rfl ?_
  refine g_dup dX8_goOn_30 rfl ?_
  refine g_getI fl_8_23 kd_23 rfl dX8_goOn_31 ?_
  refine g_iconst dX8_goOn_34 1 rfl (by decide) ?_
  refine g_iadd dX8_goOn_35 ?_
  refine g_putI fp_8_23 kd_23 rfl dX8_goOn_36 ?_
  refine g_nm (fun m1 em1 => ?_)
  replace h := h m1 em1
  exact g_vret hR dX8_goOn_39 h
set_option maxHeartbeats 1000000 in
theorem bX8_goOn_66 {E : TE} {fr lo fr2 lo2 : Nat} (hfl : 4 ≤ fr ∧ 99 ≤ lo ∧ fr2 + 1 ≤ fr ∧ 8 + (7 + 11) + lo2 ≤ lo) {R : Int → Int → Mem → (Mem → Prop) → Prop} (hRec : ∀ {l3 l4 : Int} {σ : Mem} {Q : Mem → Prop}, R l3 l4 σ Q → ∀ (l : Launch) (D : va_G) (cy : Nat → ClassId) (ad : Nat → Nat), MV l yX8_goOn cX8_goOn 7 none fr2 lo2 D cy ad [vR 23, vR 14, vR 7, vI l3, vI l4] σ Q) {K66 : (Int × Int × Int) → Mem → Prop} (hK66 : ∀ (x : Int × Int × Int) (σ : Mem), K66 x σ → GW E cX8_goOn 7 RX8 fr lo σ 66 [(0, vR 23), (1, vR 14), (2, vR 7), (3, vI x.1), (4, vI x.2.1), (5, vI x.2.2)] []) {Q : Mem → Prop} (hR : RV E none Q) {l3 : Int} {l4 : Int} {l5 : Int} {σ : Mem} (h : wX8_goOn_66 R K66 Q l3 l4 l5 σ) : GW E cX8_goOn 7 RX8 fr lo σ 66 [(0, vR 23), (1, vR 14), (2, vR 7), (3, vI l3), (4, vI l4), (5, vI l5)] [] := by
  unfold wX8_goOn_66 at h
  refine g_iload dX8_goOn_66 rfl ?_
  refine g_aload_n dX8_goOn_68 rfl ?_
  refine g_getI fl_8_31 kd_7 rfl dX8_goOn_69 ?_
  obtain ⟨hA, hB⟩ := h
  refine g_icmp_ge (tgt := 170) dX8_goOn_72 (by decide) (fun hc => ?_) (fun hc => ?_)
  · replace h := hA hc
    exact g_vret hR dX8_goOn_170 h
  · replace h := hB hc
    refine g_iload dX8_goOn_75 rfl ?_
    refine g_iload dX8_goOn_77 rfl ?_
    refine g_ishr dX8_goOn_79 ?_
    refine g_iconst dX8_goOn_80 1 rfl (by decide) ?_
    refine g_iand dX8_goOn_81 ?_
    refine g_iconst dX8_goOn_82 1 rfl (by decide) ?_
    obtain ⟨hA, hB⟩ := h
    refine g_icmp_ne (tgt := 89) dX8_goOn_83 (by decide) (fun hc => ?_) (fun hc => ?_)
    · replace h := hA hc
      refine g_aload_n dX8_goOn_89 rfl ?_
      refine g_getR (r := 24) fl_8_11 kd_23 rfl dX8_goOn_90 ?_
      refine g_iload_n dX8_goOn_93 rfl ?_
      obtain ⟨hin, h⟩ := h
      have hi1 := hin
      refine g_aald7 kd_24 hin (sa_r hi1) dX8_goOn_94 ?_
      refine g_iconst dX8_goOn_95 0 rfl (by decide) ?_
      refine g_aload_n dX8_goOn_96 rfl ?_
      refine g_getR (r := 15) fl_8_42 kd_14 rfl dX8_goOn_97 ?_
      refine g_iconst dX8_goOn_100 0 rfl (by decide) ?_
      refine g_bipush dX8_goOn_101 64 rfl (by decide) ?_
      refine g_acopy q_816 q_480 q_479 q_106 (sa_kd hi1) kd_15 (by decide) (by omega) (Nat.le_trans (Nat.le_of_ble_eq_true rfl : _ ≤ 64) (by omega)) dX8_goOn_103 ?_
      refine g_nm (fun m2 em2 => ?_)
      replace h := h m2 em2
      refine g_aload_n dX8_goOn_106 rfl ?_
      refine g_getR (r := 11) fl_8_47 kd_7 rfl dX8_goOn_107 ?_
      refine g_iload dX8_goOn_110 rfl ?_
      obtain ⟨hin, h⟩ := h
      refine g_iald kd_11 hin dX8_goOn_112 ?_
      refine g_topI (fun x3 ex3 => ?_)
      replace h := h x3 ex3
      refine g_istore (lv' := [(6, vI x3), (0, vR 23), (1, vR 14), (2, vR 7), (3, vI l3), (4, vI l4), (5, vI l5)]) dX8_goOn_113 (by decide) rfl ?_
      refine g_aload_n dX8_goOn_115 rfl ?_
      refine g_aload_n dX8_goOn_116 rfl ?_
      refine g_getR (r := 9) fl_8_50 kd_7 rfl dX8_goOn_117 ?_
      refine g_iload dX8_goOn_120 rfl ?_
      obtain ⟨hin, h⟩ := h
      refine g_iald kd_9 hin dX8_goOn_122 ?_
      refine g_aload_n dX8_goOn_123 rfl ?_
      refine g_getR (r := 10) fl_8_53 kd_7 rfl dX8_goOn_124 ?_
      refine g_iload dX8_goOn_127 rfl ?_
      obtain ⟨hin, h⟩ := h
      refine g_iald kd_10 hin dX8_goOn_129 ?_
      refine g_iload dX8_goOn_130 rfl ?_
      refine g_cVi (st := []) (av := [vI (m2 9 l5.toNat), vI (m2 10 l5.toNat), vI x3]) (kX4_send h) kd_14 rfl cw_RX8_56 (by omega) (by omega) (Nat.le_of_ble_eq_true rfl) rfl dX8_goOn_132 (fun y5 m4 h => ?_)
      refine g_iload dX8_goOn_135 rfl ?_
      obtain ⟨hA, hB⟩ := h
      refine g_icmp_ne (tgt := 164) dX8_goOn_137 (by decide) (fun hc => ?_) (fun hc => ?_)
      · replace h := hA hc
        refine g_iinc (lv' := [(5, vI (w32 (l5 + 1))), (6, vI x3), (0, vR 23), (1, vR 14), (2, vR 7), (3, vI l3), (4, vI l4)]) dX8_goOn_164 rfl (by decide) rfl ?_
        refine g_loc (a := w32 (l5 + 1)) (i := 5) (lv := [(6, vI x3), (0, vR 23), (1, vR 14), (2, vR 7), (3, vI l3), (4, vI l4)]) (fun x6 ex6 => ?_)
        replace h := h x6 ex6
        refine g_goto (tgt := 66) dX8_goOn_167 (by decide) ?_
        refine g_lv (lv' := [(0, vR 23), (1, vR 14), (2, vR 7), (3, vI l3), (4, vI l4), (5, vI x6)]) [2, 3, 4, 5, 6, 0] rfl ?_
        exact hK66 ((l3, l4, x6)) m4 h
      · replace h := hB hc
        refine g_aload_n dX8_goOn_140 rfl ?_
        refine g_getR (r := 30) fl_8_16 kd_23 rfl dX8_goOn_141 ?_
        refine g_iload_n dX8_goOn_144 rfl ?_
        refine g_iload dX8_goOn_145 rfl ?_
        obtain ⟨hin, h⟩ := h
        refine g_iast kd_30 hin dX8_goOn_147 ?_
        refine g_nm (fun m7 em7 => ?_)
        replace h := h m7 em7
        refine g_aload_n dX8_goOn_148 rfl ?_
        refine g_aload_n dX8_goOn_149 rfl ?_
        refine g_aload_n dX8_goOn_150 rfl ?_
        refine g_iload_n dX8_goOn_151 rfl ?_
        refine g_iconst dX8_goOn_152 1 rfl (by decide) ?_
        refine g_iadd dX8_goOn_153 ?_
        refine g_iload dX8_goOn_154 rfl ?_
        refine g_iconst dX8_goOn_156 1 rfl (by decide) ?_
        refine g_iload dX8_goOn_157 rfl ?_
        refine g_ishl dX8_goOn_159 ?_
        refine g_ior dX8_goOn_160 ?_
        refine g_cVv (st := []) (av := [vR 14, vR 7, vI (w32 (l3 + 1)), vI (bor l4 (bshl 1 l5))]) (hRec h) kd_23 rfl cw_RX8_27 (by omega) (by omega) (Nat.le_of_ble_eq_true rfl) rfl dX8_goOn_161 (fun m8 h => ?_)
        refine g_iinc (lv' := [(5, vI (w32 (l5 + 1))), (6, vI x3), (0, vR 23), (1, vR 14), (2, vR 7), (3, vI l3), (4, vI l4)]) dX8_goOn_164 rfl (by decide) rfl ?_
        refine g_loc (a := w32 (l5 + 1)) (i := 5) (lv := [(6, vI x3), (0, vR 23), (1, vR 14), (2, vR 7), (3, vI l3), (4, vI l4)]) (fun x9 ex9 => ?_)
        replace h := h x9 ex9
        refine g_goto (tgt := 66) dX8_goOn_167 (by decide) ?_
        refine g_lv (lv' := [(0, vR 23), (1, vR 14), (2, vR 7), (3, vI l3), (4, vI l4), (5, vI x9)]) [2, 3, 4, 5, 6, 0] rfl ?_
        exact hK66 ((l3, l4, x9)) m8 h
    · replace h := hB hc
      refine g_goto (tgt := 164) dX8_goOn_86 (by decide) ?_
      refine g_iinc (lv' := [(5, vI (w32 (l5 + 1))), (0, vR 23), (1, vR 14), (2, vR 7), (3, vI l3), (4, vI l4)]) dX8_goOn_164 rfl (by decide) rfl ?_
      refine g_loc (a := w32 (l5 + 1)) (i := 5) (lv := [(0, vR 23), (1, vR 14), (2, vR 7), (3, vI l3), (4, vI l4)]) (fun x10 ex10 => ?_)
      replace h := h x10 ex10
      refine g_goto (tgt := 66) dX8_goOn_167 (by decide) ?_
      refine g_lv (lv' := [(0, vR 23), (1, vR 14), (2, vR 7), (3, vI l3), (4, vI l4), (5, vI x10)]) [1, 2, 3, 4, 5, 0] rfl ?_
      exact hK66 ((l3, l4, x10)) σ h
theorem eX8_goOn_66 {E : TE} {fr lo fr2 lo2 : Nat} (hfl : 4 ≤ fr ∧ 99 ≤ lo ∧ fr2 + 1 ≤ fr ∧ 8 + (7 + 11) + lo2 ≤ lo) {R : Int → Int → Mem → (Mem → Prop) → Prop} (hRec : ∀ {l3 l4 : Int} {σ : Mem} {Q : Mem → Prop}, R l3 l4 σ Q → ∀ (l : Launch) (D : va_G) (cy : Nat → ClassId) (ad : Nat → Nat), MV l yX8_goOn cX8_goOn 7 none fr2 lo2 D cy ad [vR 23, vR 14, vR 7, vI l3, vI l4] σ Q) {Q : Mem → Prop} (hR : RV E none Q) {l3 : Int} {l4 : Int} {l5 : Int} {σ : Mem} (h : wLX8_goOn_66 R Q l3 l4 l5 σ) : GW E cX8_goOn 7 RX8 fr lo σ 66 [(0, vR 23), (1, vR 14), (2, vR 7), (3, vI l3), (4, vI l4), (5, vI l5)] [] := by
  obtain ⟨n, h⟩ := h
  exact lp_GW (P := fun (x : Int × Int × Int) (σ : Mem) => GW E cX8_goOn 7 RX8 fr lo σ 66 [(0, vR 23), (1, vR 14), (2, vR 7), (3, vI x.1), (4, vI x.2.1), (5, vI x.2.2)] []) (fun K hK x σ h  => bX8_goOn_66 hfl hRec hK hR h) n _ σ h 
set_option maxHeartbeats 1000000 in
theorem kBX8_goOn {fr lo fr2 lo2 : Nat} (hfl : 4 ≤ fr ∧ 99 ≤ lo ∧ fr2 + 1 ≤ fr ∧ 8 + (7 + 11) + lo2 ≤ lo) {R : Int → Int → Mem → (Mem → Prop) → Prop} (hRec : ∀ {l3 l4 : Int} {σ : Mem} {Q : Mem → Prop}, R l3 l4 σ Q → ∀ (l : Launch) (D : va_G) (cy : Nat → ClassId) (ad : Nat → Nat), MV l yX8_goOn cX8_goOn 7 none fr2 lo2 D cy ad [vR 23, vR 14, vR 7, vI l3, vI l4] σ Q) {l3 : Int} {l4 : Int} {σ : Mem} {Q : Mem → Prop} (h : wBX8_goOn R l3 l4 σ Q) (l : Launch) (D : va_G) (cy : Nat → ClassId) (ad : Nat → Nat) : MV l yX8_goOn cX8_goOn 7 none fr lo D cy ad [vR 23, vR 14, vR 7, vI l3, vI l4] σ Q := by
  refine m_V (own := RX8) (lv := [(0, vR 23), (1, vR 14), (2, vR 7), (3, vI l3), (4, vI l4)]) (by decide +kernel) rfl (Nat.le_of_ble_eq_true rfl) rfl (fun E hR => ?_) l D cy ad
  unfold wBX8_goOn at h
  refine g_iload_n dX8_goOn_0 rfl ?_
  refine g_aload_n dX8_goOn_1 rfl ?_
  refine g_getI fl_8_31 kd_7 rfl dX8_goOn_2 ?_
  obtain ⟨hA, hB⟩ := h
  refine g_icmp_lt (tgt := 40) dX8_goOn_5 (by decide) (fun hc => ?_) (fun hc => ?_)
  · replace h := hA hc
    refine g_iload_n dX8_goOn_40 rfl ?_
    refine g_iconst dX8_goOn_41 5 rfl (by decide) ?_
    obtain ⟨hA, hB⟩ := h
    refine g_icmp_lt (tgt := 46) dX8_goOn_42 (by decide) (fun hc => ?_) (fun hc => ?_)
    · replace h := hA hc
      refine g_aload_n dX8_goOn_46 rfl ?_
      refine g_getR (r := 15) fl_8_42 kd_14 rfl dX8_goOn_47 ?_
      refine g_iconst dX8_goOn_50 0 rfl (by decide) ?_
      refine g_aload_n dX8_goOn_51 rfl ?_
      refine g_getR (r := 24) fl_8_11 kd_23 rfl dX8_goOn_52 ?_
      refine g_iload_n dX8_goOn_55 rfl ?_
      obtain ⟨hin, h⟩ := h
      have hi1 := hin
      refine g_aald7 kd_24 hin (sa_r hi1) dX8_goOn_56 ?_
      refine g_iconst dX8_goOn_57 0 rfl (by decide) ?_
      refine g_bipush dX8_goOn_58 64 rfl (by decide) ?_
      refine g_acopy q_816 q_480 q_479 q_106 kd_15 (sa_kd hi1) (by decide) (by omega) (Nat.le_trans (Nat.le_of_ble_eq_true rfl : _ ≤ 64) (by omega)) dX8_goOn_60 ?_
      refine g_nm (fun m2 em2 => ?_)
      replace h := h m2 em2
      refine g_iconst dX8_goOn_63 0 rfl (by decide) ?_
      refine g_istore (lv' := [(5, vI 0), (0, vR 23), (1, vR 14), (2, vR 7), (3, vI l3), (4, vI l4)]) dX8_goOn_64 (by decide) rfl ?_
      refine g_lv (lv' := [(0, vR 23), (1, vR 14), (2, vR 7), (3, vI l3), (4, vI l4), (5, vI 0)]) [1, 2, 3, 4, 5, 0] rfl ?_
      exact eX8_goOn_66 hfl hRec hR h
    · replace h := hB hc
      exact g_vret hR dX8_goOn_45 h
  · replace h := hB hc
    refine g_aload_n dX8_goOn_8 rfl ?_
    refine g_getI fl_8_23 kd_23 rfl dX8_goOn_9 ?_
    obtain ⟨hA, hB⟩ := h
    refine g_if_ne (tgt := 29) dX8_goOn_12 (by decide) (fun hc => ?_) (fun hc => ?_)
    · replace h := hA hc
      refine g_lv (lv' := [(0, vR 23)]) [0] rfl ?_
      exact bX8_goOn_29 hfl hRec hR h
    · replace h := hB hc
      refine g_aload_n dX8_goOn_15 rfl ?_
      refine g_getR (r := 30) fl_8_16 kd_23 rfl dX8_goOn_16 ?_
      refine g_iconst dX8_goOn_19 0 rfl (by decide) ?_
      refine g_aload_n dX8_goOn_20 rfl ?_
      refine g_getR (r := 31) fl_8_20 kd_23 rfl dX8_goOn_21 ?_
      refine g_iconst dX8_goOn_24 0 rfl (by decide) ?_
      refine g_iconst dX8_goOn_25 5 rfl (by decide) ?_
      refine g_acopy q_816 q_480 q_479 q_106 kd_30 kd_31 (by decide) (by omega) (Nat.le_trans (Nat.le_of_ble_eq_true rfl : _ ≤ 64) (by omega)) dX8_goOn_26 ?_
      refine g_nm (fun m3 em3 => ?_)
      replace h := h m3 em3
      refine g_lv (lv' := [(0, vR 23)]) [0] rfl ?_
      exact bX8_goOn_29 hfl hRec hR h
theorem kRX8_goOn : ∀ (d : Nat) {l3 l4 : Int} {σ : Mem} {Q : Mem → Prop}, wRX8_goOn d l3 l4 σ Q → ∀ (l : Launch) (D : va_G) (cy : Nat → ClassId) (ad : Nat → Nat), MV l yX8_goOn cX8_goOn 7 none (4 + d) (99 + d * 26) D cy ad [vR 23, vR 14, vR 7, vI l3, vI l4] σ Q
  | 0, _, _, _, _, h => h.elim
  | d + 1, _, _, _, _, h => kBX8_goOn (R := wRX8_goOn d) (fr2 := 4 + d) (lo2 := 99 + d * 26) ⟨by omega, by omega, by omega, by omega⟩ (fun h => kRX8_goOn d h) h
theorem kX8_goOn {l3 l4 : Int} {σ : Mem} {Q : Mem → Prop} (h : wX8_goOn l3 l4 σ Q) (l : Launch) (D : va_G) (cy : Nat → ClassId) (ad : Nat → Nat) : MV l yX8_goOn cX8_goOn 7 none 14 359 D cy ad [vR 23, vR 14, vR 7, vI l3, vI l4] σ Q := kRX8_goOn 10 h l D cy ad
def wX8_search (σ : Mem) (Q : Mem → Prop) : Prop := (∀ m1 : Mem, m1 = up2 σ 23 3 0 → (wX8_goOn 0 0 m1 (fun m2 => Q m2)))
set_option maxHeartbeats 1000000 in
theorem kX8_search {σ : Mem} {Q : Mem → Prop} (h : wX8_search σ Q) (l : Launch) (D : va_G) (cy : Nat → ClassId) (ad : Nat → Nat) : MV l yX8_search cX8_search 3 none 15 385 D cy ad [vR 23, vR 14, vR 7] σ Q := by
  refine m_V (own := RX8) (lv := [(0, vR 23), (1, vR 14), (2, vR 7)]) (by decide +kernel) rfl (Nat.le_of_ble_eq_true rfl) rfl (fun E hR => ?_) l D cy ad
  unfold wX8_search at h
  refine g_aload_n dX8_search_0 rfl ?_
  refine g_iconst dX8_search_1 0 rfl (by decide) ?_
  refine g_putI fp_8_23 kd_23 rfl dX8_search_2 ?_
  refine g_nm (fun m1 em1 => ?_)
  replace h := h m1 em1
  refine g_aload_n dX8_search_5 rfl ?_
  refine g_aload_n dX8_search_6 rfl ?_
  refine g_aload_n dX8_search_7 rfl ?_
  refine g_iconst dX8_search_8 0 rfl (by decide) ?_
  refine g_iconst dX8_search_9 0 rfl (by decide) ?_
  refine g_cVv (st := []) (av := [vR 14, vR 7, vI 0, vI 0]) (kX8_goOn h) kd_23 rfl cw_RX8_27 (by decide) (by decide) (Nat.le_of_ble_eq_true rfl) rfl dX8_search_10 (fun m2 h => ?_)
  exact g_vret hR dX8_search_13 h
