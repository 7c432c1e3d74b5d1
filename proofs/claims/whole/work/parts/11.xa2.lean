def wX0_readDay_85 (K7 : Int → Mem → Prop) (Q : Int → Mem → Prop) (l2 : Int) (l3 : Int) (l4 : Int) (l5 : Int) (s0 : Int) (σ : Mem) : Prop := ((0 ≤ s0 → (∀ x1 : Int, x1 = w32 (l2 + l4) → (wX0_digitsOf l3 σ (fun y3 m2 => (wX9_numberAt x1 y3 m2 (fun y5 m4 => ((0 ≤ y5 → (∀ x6 : Int, x6 = w32 (x1 + y3) → (wX0_add l3 l5 s0 y5 m4 (fun m7 => K7 x6 m7)))) ∧ (¬ 0 ≤ y5 → Q y5 m4)))))))) ∧ (¬ 0 ≤ s0 → Q (w32 (((-1)) - (w32 (l2 + 1)))) σ))
def wX0_readDay_55 (K7 : Int → Mem → Prop) (Q : Int → Mem → Prop) (l2 : Int) (l3 : Int) (l4 : Int) (s0 : Int) (σ : Mem) : Prop := ((0 ≤ s0 → ((l4 ≤ 1 → wX0_readDay_85 K7 Q l2 l3 l4 s0 0 σ) ∧ (¬ l4 ≤ 1 → (wX9_letterAt (w32 (l2 + 1)) 8 σ (fun y2 m1 => wX0_readDay_85 K7 Q l2 l3 l4 s0 y2 m1))))) ∧ (¬ 0 ≤ s0 → Q (w32 (((-1)) - l2)) σ))
def wX0_readDay_7 (K7 : Int → Mem → Prop) (Q : Int → Mem → Prop) (l2 : Int) (σ : Mem) : Prop := ((σ 5 1 ≤ l2 → Q (σ 7 4) σ) ∧ (¬ σ 5 1 ≤ l2 → (wX9_signAt l2 σ (fun y2 m1 => (wX0_lettersOf y2 m1 (fun y4 m3 => ((0 ≤ y4 → (∀ x5 : Int, x5 = w32 (l2 + 1) → ((y4 ≤ 0 → wX0_readDay_55 K7 Q x5 y2 y4 0 m3) ∧ (¬ y4 ≤ 0 → (wX9_letterAt x5 8 m3 (fun y7 m6 => wX0_readDay_55 K7 Q x5 y2 y4 y7 m6)))))) ∧ (¬ 0 ≤ y4 → Q (w32 (((-1)) - l2)) m3))))))))
def wLX0_readDay_7 (Q : Int → Mem → Prop) (l2 : Int) (σ : Mem) : Prop := ∃ n, lp (fun (K7 : Int → Mem → Prop) (x : Int) (σ : Mem) => wX0_readDay_7 K7 Q x σ) n l2 σ
def wX0_readDay (σ : Mem) (Q : Int → Mem → Prop) : Prop := (∀ m1 : Mem, m1 = up2 σ 7 4 0 → wLX0_readDay_7 Q 0 m1)
set_option maxHeartbeats 1000000 in
theorem bX0_readDay_85 {E : TE} {K7 : Int → Mem → Prop} (hK7 : ∀ (x : Int) (σ : Mem), K7 x σ → GW E cX0_readDay 9 RX0 3 68 σ 7 [(0, vR 7), (1, vR 5), (2, vI x)] []) {Q : Int → Mem → Prop} (hR : RI E (some .int) Q) {l2 : Int} {l3 : Int} {l4 : Int} {l5 : Int} {s0 : Int} {σ : Mem} (h : wX0_readDay_85 K7 Q l2 l3 l4 l5 s0 σ) : GW E cX0_readDay 9 RX0 3 68 σ 85 [(0, vR 7), (1, vR 5), (2, vI l2), (3, vI l3), (4, vI l4), (5, vI l5)] [vI s0] := by
  unfold wX0_readDay_85 at h
  refine g_istore (lv' := [(6, vI s0), (0, vR 7), (1, vR 5), (2, vI l2), (3, vI l3), (4, vI l4), (5, vI l5)]) dX0_readDay_85 (by decide) rfl ?_
  refine g_iload dX0_readDay_87 rfl ?_
  obtain ⟨hA, hB⟩ := h
  refine g_if_ge (tgt := 98) dX0_readDay_89 (by decide) (fun hc => ?_) (fun hc => ?_)
  · replace h := hA hc
    refine g_iload_n dX0_readDay_98 rfl ?_
    refine g_iload dX0_readDay_99 rfl ?_
    refine g_iadd dX0_readDay_101 ?_
    refine g_topI (fun x1 ex1 => ?_)
    replace h := h x1 ex1
    refine g_istore_n (lv' := [(2, vI x1), (6, vI s0), (0, vR 7), (1, vR 5), (3, vI l3), (4, vI l4), (5, vI l5)]) dX0_readDay_102 (by decide) rfl ?_
    refine g_iload_n dX0_readDay_103 rfl ?_
    refine g_cSi (st := []) (av := [vI l3]) (kX0_digitsOf h) cw_RX0_51 (by decide) (by decide) (Nat.le_of_ble_eq_true rfl) rfl dX0_readDay_104 (fun y3 m2 h => ?_)
    refine g_istore (lv' := [(7, vI y3), (2, vI x1), (6, vI s0), (0, vR 7), (1, vR 5), (3, vI l3), (4, vI l4), (5, vI l5)]) dX0_readDay_107 (by decide) rfl ?_
    refine g_aload_n dX0_readDay_109 rfl ?_
    refine g_iload_n dX0_readDay_110 rfl ?_
    refine g_iload dX0_readDay_111 rfl ?_
    refine g_cVi (st := []) (av := [vI x1, vI y3]) (kX9_numberAt h) kd_5 rfl cw_RX0_37 (by decide) (by decide) (Nat.le_of_ble_eq_true rfl) rfl dX0_readDay_113 (fun y5 m4 h => ?_)
    refine g_istore (lv' := [(8, vI y5), (7, vI y3), (2, vI x1), (6, vI s0), (0, vR 7), (1, vR 5), (3, vI l3), (4, vI l4), (5, vI l5)]) dX0_readDay_116 (by decide) rfl ?_
    refine g_iload dX0_readDay_118 rfl ?_
    obtain ⟨hA, hB⟩ := h
    refine g_if_ge (tgt := 126) dX0_readDay_120 (by decide) (fun hc => ?_) (fun hc => ?_)
    · replace h := hA hc
      refine g_iload_n dX0_readDay_126 rfl ?_
      refine g_iload dX0_readDay_127 rfl ?_
      refine g_iadd dX0_readDay_129 ?_
      refine g_topI (fun x6 ex6 => ?_)
      replace h := h x6 ex6
      refine g_istore_n (lv' := [(2, vI x6), (8, vI y5), (7, vI y3), (6, vI s0), (0, vR 7), (1, vR 5), (3, vI l3), (4, vI l4), (5, vI l5)]) dX0_readDay_130 (by decide) rfl ?_
      refine g_aload_n dX0_readDay_131 rfl ?_
      refine g_iload_n dX0_readDay_132 rfl ?_
      refine g_iload dX0_readDay_133 rfl ?_
      refine g_iload dX0_readDay_135 rfl ?_
      refine g_iload dX0_readDay_137 rfl ?_
      refine g_cVv (st := []) (av := [vI l3, vI l5, vI s0, vI y5]) (kX0_add h) kd_7 rfl cw_RX0_40 (by decide) (by decide) (Nat.le_of_ble_eq_true rfl) rfl dX0_readDay_139 (fun m7 h => ?_)
      refine g_goto (tgt := 7) dX0_readDay_142 (by decide) ?_
      refine g_lv (lv' := [(0, vR 7), (1, vR 5), (2, vI x6)]) [4, 5, 0] rfl ?_
      exact hK7 x6 m7 h
    · replace h := hB hc
      refine g_iload dX0_readDay_123 rfl ?_
      exact g_iret hR dX0_readDay_125 h
  · replace h := hB hc
    refine g_iconst dX0_readDay_92 (-1) rfl (by decide) ?_
    refine g_iload_n dX0_readDay_93 rfl ?_
    refine g_iconst dX0_readDay_94 1 rfl (by decide) ?_
    refine g_iadd dX0_readDay_95 ?_
    refine g_isub dX0_readDay_96 ?_
    exact g_iret hR dX0_readDay_97 h
set_option maxHeartbeats 1000000 in
theorem bX0_readDay_55 {E : TE} {K7 : Int → Mem → Prop} (hK7 : ∀ (x : Int) (σ : Mem), K7 x σ → GW E cX0_readDay 9 RX0 3 68 σ 7 [(0, vR 7), (1, vR 5), (2, vI x)] []) {Q : Int → Mem → Prop} (hR : RI E (some .int) Q) {l2 : Int} {l3 : Int} {l4 : Int} {s0 : Int} {σ : Mem} (h : wX0_readDay_55 K7 Q l2 l3 l4 s0 σ) : GW E cX0_readDay 9 RX0 3 68 σ 55 [(0, vR 7), (1, vR 5), (2, vI l2), (3, vI l3), (4, vI l4)] [vI s0] := by
  unfold wX0_readDay_55 at h
  refine g_istore (lv' := [(5, vI s0), (0, vR 7), (1, vR 5), (2, vI l2), (3, vI l3), (4, vI l4)]) dX0_readDay_55 (by decide) rfl ?_
  refine g_iload dX0_readDay_57 rfl ?_
  obtain ⟨hA, hB⟩ := h
  refine g_if_ge (tgt := 66) dX0_readDay_59 (by decide) (fun hc => ?_) (fun hc => ?_)
  · replace h := hA hc
    refine g_iload dX0_readDay_66 rfl ?_
    refine g_iconst dX0_readDay_68 1 rfl (by decide) ?_
    obtain ⟨hA, hB⟩ := h
    refine g_icmp_le (tgt := 84) dX0_readDay_69 (by decide) (fun hc => ?_) (fun hc => ?_)
    · replace h := hA hc
      refine g_iconst dX0_readDay_84 0 rfl (by decide) ?_
      refine g_lv (lv' := [(0, vR 7), (1, vR 5), (2, vI l2), (3, vI l3), (4, vI l4), (5, vI s0)]) [1, 2, 3, 4, 5, 0] rfl ?_
      exact bX0_readDay_85 hK7 hR h
    · replace h := hB hc
      refine g_aload_n dX0_readDay_72 rfl ?_
      refine g_iload_n dX0_readDay_73 rfl ?_
      refine g_iconst dX0_readDay_74 1 rfl (by decide) ?_
      refine g_iadd dX0_readDay_75 ?_
      refine g_bipush dX0_readDay_76 8 rfl (by decide) ?_
      refine g_cVi (st := []) (av := [vI (w32 (l2 + 1)), vI 8]) (kX9_letterAt h) kd_5 rfl cw_RX0_33 (by decide) (by decide) (Nat.le_of_ble_eq_true rfl) rfl dX0_readDay_78 (fun y2 m1 h => ?_)
      refine g_goto (tgt := 85) dX0_readDay_81 (by decide) ?_
      refine g_lv (lv' := [(0, vR 7), (1, vR 5), (2, vI l2), (3, vI l3), (4, vI l4), (5, vI s0)]) [1, 2, 3, 4, 5, 0] rfl ?_
      exact bX0_readDay_85 hK7 hR h
  · replace h := hB hc
    refine g_iconst dX0_readDay_62 (-1) rfl (by decide) ?_
    refine g_iload_n dX0_readDay_63 rfl ?_
    refine g_isub dX0_readDay_64 ?_
    exact g_iret hR dX0_readDay_65 h
set_option maxHeartbeats 1000000 in
theorem bX0_readDay_7 {E : TE} {K7 : Int → Mem → Prop} (hK7 : ∀ (x : Int) (σ : Mem), K7 x σ → GW E cX0_readDay 9 RX0 3 68 σ 7 [(0, vR 7), (1, vR 5), (2, vI x)] []) {Q : Int → Mem → Prop} (hR : RI E (some .int) Q) {l2 : Int} {σ : Mem} (h : wX0_readDay_7 K7 Q l2 σ) : GW E cX0_readDay 9 RX0 3 68 σ 7 [(0, vR 7), (1, vR 5), (2, vI l2)] [] := by
  unfold wX0_readDay_7 at h
  refine g_iload_n dX0_readDay_7 rfl ?_
  refine g_aload_n dX0_readDay_8 rfl ?_
  refine g_getI fl_0_28 kd_5 rfl dX0_readDay_9 ?_
  obtain ⟨hA, hB⟩ := h
  refine g_icmp_ge (tgt := 145) dX0_readDay_12 (by decide) (fun hc => ?_) (fun hc => ?_)
  · replace h := hA hc
    refine g_aload_n dX0_readDay_145 rfl ?_
    refine g_getI fl_0_24 kd_7 rfl dX0_readDay_146 ?_
    exact g_iret hR dX0_readDay_149 h
  · replace h := hB hc
    refine g_aload_n dX0_readDay_15 rfl ?_
    refine g_iload_n dX0_readDay_16 rfl ?_
    refine g_cVi (st := []) (av := [vI l2]) (kX9_signAt h) kd_5 rfl cw_RX0_44 (by decide) (by decide) (Nat.le_of_ble_eq_true rfl) rfl dX0_readDay_17 (fun y2 m1 h => ?_)
    refine g_istore_n (lv' := [(3, vI y2), (0, vR 7), (1, vR 5), (2, vI l2)]) dX0_readDay_20 (by decide) rfl ?_
    refine g_iload_n dX0_readDay_21 rfl ?_
    refine g_cSi (st := []) (av := [vI y2]) (kX0_lettersOf h) cw_RX0_48 (by decide) (by decide) (Nat.le_of_ble_eq_true rfl) rfl dX0_readDay_22 (fun y4 m3 h => ?_)
    refine g_istore (lv' := [(4, vI y4), (3, vI y2), (0, vR 7), (1, vR 5), (2, vI l2)]) dX0_readDay_25 (by decide) rfl ?_
    refine g_iload dX0_readDay_27 rfl ?_
    obtain ⟨hA, hB⟩ := h
    refine g_if_ge (tgt := 36) dX0_readDay_29 (by decide) (fun hc => ?_) (fun hc => ?_)
    · replace h := hA hc
      refine g_iinc (lv' := [(2, vI (w32 (l2 + 1))), (4, vI y4), (3, vI y2), (0, vR 7), (1, vR 5)]) dX0_readDay_36 rfl (by decide) rfl ?_
      refine g_loc (a := w32 (l2 + 1)) (i := 2) (lv := [(4, vI y4), (3, vI y2), (0, vR 7), (1, vR 5)]) (fun x5 ex5 => ?_)
      replace h := h x5 ex5
      refine g_iload dX0_readDay_39 rfl ?_
      obtain ⟨hA, hB⟩ := h
      refine g_if_le (tgt := 54) dX0_readDay_41 (by decide) (fun hc => ?_) (fun hc => ?_)
      · replace h := hA hc
        refine g_iconst dX0_readDay_54 0 rfl (by decide) ?_
        refine g_lv (lv' := [(0, vR 7), (1, vR 5), (2, vI x5), (3, vI y2), (4, vI y4)]) [3, 4, 0, 2, 1] rfl ?_
        exact bX0_readDay_55 hK7 hR h
      · replace h := hB hc
        refine g_aload_n dX0_readDay_44 rfl ?_
        refine g_iload_n dX0_readDay_45 rfl ?_
        refine g_bipush dX0_readDay_46 8 rfl (by decide) ?_
        refine g_cVi (st := []) (av := [vI x5, vI 8]) (kX9_letterAt h) kd_5 rfl cw_RX0_33 (by decide) (by decide) (Nat.le_of_ble_eq_true rfl) rfl dX0_readDay_48 (fun y7 m6 h => ?_)
        refine g_goto (tgt := 55) dX0_readDay_51 (by decide) ?_
        refine g_lv (lv' := [(0, vR 7), (1, vR 5), (2, vI x5), (3, vI y2), (4, vI y4)]) [3, 4, 0, 2, 1] rfl ?_
        exact bX0_readDay_55 hK7 hR h
    · replace h := hB hc
      refine g_iconst dX0_readDay_32 (-1) rfl (by decide) ?_
      refine g_iload_n dX0_readDay_33 rfl ?_
      refine g_isub dX0_readDay_34 ?_
      exact g_iret hR dX0_readDay_35 h
theorem eX0_readDay_7 {E : TE} {Q : Int → Mem → Prop} (hR : RI E (some .int) Q) {l2 : Int} {σ : Mem} (h : wLX0_readDay_7 Q l2 σ) : GW E cX0_readDay 9 RX0 3 68 σ 7 [(0, vR 7), (1, vR 5), (2, vI l2)] [] := by
  obtain ⟨n, h⟩ := h
  exact lp_GW (P := fun (x : Int) (σ : Mem) => GW E cX0_readDay 9 RX0 3 68 σ 7 [(0, vR 7), (1, vR 5), (2, vI x)] []) (fun K hK x σ h  => bX0_readDay_7 hK hR h) n _ σ h 
set_option maxHeartbeats 1000000 in
theorem kX0_readDay {σ : Mem} {Q : Int → Mem → Prop} (h : wX0_readDay σ Q) (l : Launch) (D : va_G) (cy : Nat → ClassId) (ad : Nat → Nat) : MI l yX0_readDay cX0_readDay 9 (some .int) 3 68 D cy ad [vR 7, vR 5] σ Q := by
  refine m_I (own := RX0) (lv := [(0, vR 7), (1, vR 5)]) (by decide +kernel) rfl (Nat.le_of_ble_eq_true rfl) rfl (fun E hR => ?_) l D cy ad
  unfold wX0_readDay at h
  refine g_aload_n dX0_readDay_0 rfl ?_
  refine g_iconst dX0_readDay_1 0 rfl (by decide) ?_
  refine g_putI fp_0_24 kd_7 rfl dX0_readDay_2 ?_
  refine g_nm (fun m1 em1 => ?_)
  replace h := h m1 em1
  refine g_iconst dX0_readDay_5 0 rfl (by decide) ?_
  refine g_istore_n (lv' := [(2, vI 0), (0, vR 7), (1, vR 5)]) dX0_readDay_6 (by decide) rfl ?_
  refine g_lv (lv' := [(0, vR 7), (1, vR 5), (2, vI 0)]) [1, 2, 0] rfl ?_
  exact eX0_readDay_7 hR h
def wX6_add_58 (b1 : Nat) (Q : Mem → Prop) (σ : Mem) : Prop := ((0 ≤ σ 3 1 ∧ σ 3 1 < 8) ∧ (isBk (σ 4 (σ 3 1).toNat).toNat ∧ (wX1_copyFrom ((σ 4 (σ 3 1).toNat).toNat) b1 σ (fun m2 => (∀ m3 : Mem, m3 = up2 m2 3 1 (w32 ((m2 3 1) + 1)) → Q m3)))))
def wX6_add_18 (b1 : Nat) (K18 : (Nat × Int) → Mem → Prop) (Q : Mem → Prop) (r2 : Nat) (l3 : Int) (σ : Mem) : Prop := ((8 ≤ l3 → (∀ m1 : Mem, m1 = up2 σ 4 7 (r2 : Int) → (∀ m2 : Mem, m2 = up2 m1 3 1 7 → wX6_add_58 b1 Q m2))) ∧ (¬ 8 ≤ l3 → ((0 ≤ l3 ∧ l3 < 8) ∧ (isBk (σ 4 l3.toNat).toNat ∧ ((0 ≤ w32 (l3 - 1) ∧ w32 (l3 - 1) < 8) ∧ (∀ m4 : Mem, m4 = up2 σ 4 (w32 (l3 - 1)).toNat (((σ 4 l3.toNat).toNat) : Int) → (∀ x5 : Int, x5 = w32 (l3 + 1) → K18 (r2, x5) m4)))))))
def wLX6_add_18 (b1 : Nat) (Q : Mem → Prop) (r2 : Nat) (l3 : Int) (σ : Mem) : Prop := ∃ n, lp (fun (K18 : (Nat × Int) → Mem → Prop) (x : Nat × Int) (σ : Mem) => wX6_add_18 b1 K18 Q x.1 x.2 σ) n (r2, l3) σ
def wX6_add (b1 : Nat) (σ : Mem) (Q : Mem → Prop) : Prop := ((σ 3 1 < 8 → wX6_add_58 b1 Q σ) ∧ (¬ σ 3 1 < 8 → (isBk (σ 4 0).toNat ∧ wLX6_add_18 b1 Q ((σ 4 0).toNat) 1 σ)))
set_option maxHeartbeats 1000000 in
theorem bX6_add_58 {E : TE} {b1 : Nat} (hb1 : isBk b1) {Q : Mem → Prop} (hR : RV E none Q) {σ : Mem} (h : wX6_add_58 b1 Q σ) : GW E cX6_add 4 RX6 3 107 σ 58 [(0, vR 3), (1, vR b1)] [] := by
  unfold wX6_add_58 at h
  refine g_aload_n dX6_add_58 rfl ?_
  refine g_getR (r := 4) fl_6_11 kd_3 rfl dX6_add_59 ?_
  refine g_aload_n dX6_add_62 rfl ?_
  refine g_getI fl_6_18 kd_3 rfl dX6_add_63 ?_
  obtain ⟨hin, h⟩ := h
  obtain ⟨hk1, h⟩ := h
  refine g_aald8 kd_4 hin dX6_add_66 ?_
  refine g_aload_n dX6_add_67 rfl ?_
  refine g_cVv (st := []) (av := [vR b1]) (kX1_copyFrom hk1 hb1 h) (kd_bk0 hk1) rfl cw_RX6_22 (by decide) (by decide) (Nat.le_of_ble_eq_true rfl) rfl dX6_add_68 (fun m2 h => ?_)
  refine g_aload_n dX6_add_71 rfl ?_
  refine g_dup dX6_add_72 rfl ?_
  refine g_getI fl_6_18 kd_3 rfl dX6_add_73 ?_
  refine g_iconst dX6_add_76 1 rfl (by decide) ?_
  refine g_iadd dX6_add_77 ?_
  refine g_putI fp_6_18 kd_3 rfl dX6_add_78 ?_
  refine g_nm (fun m3 em3 => ?_)
  replace h := h m3 em3
  exact g_vret hR dX6_add_81 h
set_option maxHeartbeats 1000000 in
theorem bX6_add_18 {E : TE} {b1 : Nat} (hb1 : isBk b1) {K18 : (Nat × Int) → Mem → Prop} (hK18 : ∀ (x : Nat × Int) (σ : Mem), K18 x σ → isBk x.1 → GW E cX6_add 4 RX6 3 107 σ 18 [(0, vR 3), (1, vR b1), (2, vR x.1), (3, vI x.2)] []) {Q : Mem → Prop} (hR : RV E none Q) {r2 : Nat} {l3 : Int} (hr2 : isBk r2) {σ : Mem} (h : wX6_add_18 b1 K18 Q r2 l3 σ) : GW E cX6_add 4 RX6 3 107 σ 18 [(0, vR 3), (1, vR b1), (2, vR r2), (3, vI l3)] [] := by
  unfold wX6_add_18 at h
  refine g_iload_n dX6_add_18 rfl ?_
  refine g_bipush dX6_add_19 8 rfl (by decide) ?_
  obtain ⟨hA, hB⟩ := h
  refine g_icmp_ge (tgt := 44) dX6_add_21 (by decide) (fun hc => ?_) (fun hc => ?_)
  · replace h := hA hc
    refine g_aload_n dX6_add_44 rfl ?_
    refine g_getR (r := 4) fl_6_11 kd_3 rfl dX6_add_45 ?_
    refine g_bipush dX6_add_48 7 rfl (by decide) ?_
    refine g_aload_n dX6_add_50 rfl ?_
    refine g_aast8 kd_4 (by decide) (kd_bk0 hr2) (bk_in hr2) dX6_add_51 ?_
    refine g_nm (fun m1 em1 => ?_)
    replace h := h m1 em1
    refine g_aload_n dX6_add_52 rfl ?_
    refine g_bipush dX6_add_53 7 rfl (by decide) ?_
    refine g_putI fp_6_18 kd_3 rfl dX6_add_55 ?_
    refine g_nm (fun m2 em2 => ?_)
    replace h := h m2 em2
    refine g_lv (lv' := [(0, vR 3), (1, vR b1)]) [0, 1] rfl ?_
    exact bX6_add_58 hb1 hR h
  · replace h := hB hc
    refine g_aload_n dX6_add_24 rfl ?_
    refine g_getR (r := 4) fl_6_11 kd_3 rfl dX6_add_25 ?_
    refine g_iload_n dX6_add_28 rfl ?_
    refine g_iconst dX6_add_29 1 rfl (by decide) ?_
    refine g_isub dX6_add_30 ?_
    refine g_aload_n dX6_add_31 rfl ?_
    refine g_getR (r := 4) fl_6_11 kd_3 rfl dX6_add_32 ?_
    refine g_iload_n dX6_add_35 rfl ?_
    obtain ⟨hin, h⟩ := h
    obtain ⟨hk3, h⟩ := h
    refine g_aald8 kd_4 hin dX6_add_36 ?_
    obtain ⟨hin, h⟩ := h
    refine g_aast8 kd_4 hin (kd_bk0 hk3) (bk_in hk3) dX6_add_37 ?_
    refine g_nm (fun m4 em4 => ?_)
    replace h := h m4 em4
    refine g_iinc (lv' := [(3, vI (w32 (l3 + 1))), (0, vR 3), (1, vR b1), (2, vR r2)]) dX6_add_38 rfl (by decide) rfl ?_
    refine g_loc (a := w32 (l3 + 1)) (i := 3) (lv := [(0, vR 3), (1, vR b1), (2, vR r2)]) (fun x5 ex5 => ?_)
    replace h := h x5 ex5
    refine g_goto (tgt := 18) dX6_add_41 (by decide) ?_
    refine g_lv (lv' := [(0, vR 3), (1, vR b1), (2, vR r2), (3, vI x5)]) [1, 2, 3, 0] rfl ?_
    exact hK18 ((r2, x5)) m4 h hr2
theorem eX6_add_18 {E : TE} {b1 : Nat} (hb1 : isBk b1) {Q : Mem → Prop} (hR : RV E none Q) {r2 : Nat} {l3 : Int} (hr2 : isBk r2) {σ : Mem} (h : wLX6_add_18 b1 Q r2 l3 σ) : GW E cX6_add 4 RX6 3 107 σ 18 [(0, vR 3), (1, vR b1), (2, vR r2), (3, vI l3)] [] := by
  obtain ⟨n, h⟩ := h
  exact lp_GW (P := fun (x : Nat × Int) (σ : Mem) => isBk x.1 → GW E cX6_add 4 RX6 3 107 σ 18 [(0, vR 3), (1, vR b1), (2, vR x.1), (3, vI x.2)] []) (fun K hK x σ h hh0 => bX6_add_18 hb1 hK hR hh0 h) n _ σ h hr2
set_option maxHeartbeats 1000000 in
theorem kX6_add {b1 : Nat} (hb1 : isBk b1) {σ : Mem} {Q : Mem → Prop} (h : wX6_add b1 σ Q) (l : Launch) (D : va_G) (cy : Nat → ClassId) (ad : Nat → Nat) : MV l yX6_add cX6_add 4 none 3 107 D cy ad [vR 3, vR b1] σ Q := by
  refine m_V (own := RX6) (lv := [(0, vR 3), (1, vR b1)]) (by decide +kernel) rfl (Nat.le_of_ble_eq_true rfl) rfl (fun E hR => ?_) l D cy ad
  unfold wX6_add at h
  refine g_aload_n dX6_add_0 rfl ?_
  refine g_getI fl_6_18 kd_3 rfl dX6_add_1 ?_
  refine g_bipush dX6_add_4 8 rfl (by decide) ?_
  obtain ⟨hA, hB⟩ := h
  refine g_icmp_lt (tgt := 58) dX6_add_6 (by decide) (fun hc => ?_) (fun hc => ?_)
  · replace h := hA hc
    exact bX6_add_58 hb1 hR h
  · replace h := hB hc
    refine g_aload_n dX6_add_9 rfl ?_
    refine g_getR (r := 4) fl_6_11 kd_3 rfl dX6_add_10 ?_
    refine g_iconst dX6_add_13 0 rfl (by decide) ?_
    obtain ⟨hk1, h⟩ := h
    refine g_aald8 kd_4 (by decide) dX6_add_14 ?_
    refine g_astore_n (lv' := [(2, vR ((σ 4 0).toNat)), (0, vR 3), (1, vR b1)]) dX6_add_15 (by decide) rfl ?_
    refine g_iconst dX6_add_16 1 rfl (by decide) ?_
    refine g_istore_n (lv' := [(3, vI 1), (2, vR ((σ 4 0).toNat)), (0, vR 3), (1, vR b1)]) dX6_add_17 (by decide) rfl ?_
    refine g_lv (lv' := [(0, vR 3), (1, vR b1), (2, vR ((σ 4 0).toNat)), (3, vI 1)]) [2, 3, 1, 0] rfl ?_
    exact eX6_add_18 hb1 hR hk1 h
def wX6_takeInto (b1 : Nat) (σ : Mem) (Q : Mem → Prop) : Prop := ((σ 3 1 ≤ 0 → Q σ) ∧ (¬ σ 3 1 ≤ 0 → (∀ m1 : Mem, m1 = up2 σ 3 1 (w32 ((σ 3 1) - 1)) → ((0 ≤ m1 3 1 ∧ m1 3 1 < 8) ∧ (isBk (m1 4 (m1 3 1).toNat).toNat ∧ (wX1_copyFrom b1 ((m1 4 (m1 3 1).toNat).toNat) m1 (fun m3 => Q m3)))))))
set_option maxHeartbeats 1000000 in
theorem kX6_takeInto {b1 : Nat} (hb1 : isBk b1) {σ : Mem} {Q : Mem → Prop} (h : wX6_takeInto b1 σ Q) (l : Launch) (D : va_G) (cy : Nat → ClassId) (ad : Nat → Nat) : MV l yX6_takeInto cX6_takeInto 2 none 3 107 D cy ad [vR 3, vR b1] σ Q := by
  refine m_V (own := RX6) (lv := [(0, vR 3), (1, vR b1)]) (by decide +kernel) rfl (Nat.le_of_ble_eq_true rfl) rfl (fun E hR => ?_) l D cy ad
  unfold wX6_takeInto at h
  refine g_aload_n dX6_takeInto_0 rfl ?_
  refine g_getI fl_6_18 kd_3 rfl dX6_takeInto_1 ?_
  obtain ⟨hA, hB⟩ := h
  refine g_if_le (tgt := 30) dX6_takeInto_4 (by decide) (fun hc => ?_) (fun hc => ?_)
  · replace h := hA hc
    exact g_vret hR dX6_takeInto_30 h
  · replace h := hB hc
    refine g_aload_n dX6_takeInto_7 rfl ?_
    refine g_dup dX6_takeInto_8 rfl ?_
    refine g_getI fl_6_18 kd_3 rfl dX6_takeInto_9 ?_
    refine g_iconst dX6_takeInto_12 1 rfl (by decide) ?_
    refine g_isub dX6_takeInto_13 ?_
    refine g_putI fp_6_18 kd_3 rfl dX6_takeInto_14 ?_
    refine g_nm (fun m1 em1 => ?_)
    replace h := h m1 em1
    refine g_aload_n dX6_takeInto_17 rfl ?_
    refine g_aload_n dX6_takeInto_18 rfl ?_
    refine g_getR (r := 4) fl_6_11 kd_3 rfl dX6_takeInto_19 ?_
    refine g_aload_n dX6_takeInto_22 rfl ?_
    refine g_getI fl_6_18 kd_3 rfl dX6_takeInto_23 ?_
    obtain ⟨hin, h⟩ := h
    obtain ⟨hk2, h⟩ := h
    refine g_aald8 kd_4 hin dX6_takeInto_26 ?_
    refine g_cVv (st := []) (av := [vR ((m1 4 (m1 3 1).toNat).toNat)]) (kX1_copyFrom hb1 hk2 h) (kd_bk0 hb1) rfl cw_RX6_22 (by decide) (by decide) (Nat.le_of_ble_eq_true rfl) rfl dX6_takeInto_27 (fun m3 h => ?_)
    exact g_vret hR dX6_takeInto_30 h
def wX6_forget (σ : Mem) (Q : Mem → Prop) : Prop := (∀ m1 : Mem, m1 = up2 σ 3 1 0 → Q m1)
set_option maxHeartbeats 1000000 in
theorem kX6_forget {σ : Mem} {Q : Mem → Prop} (h : wX6_forget σ Q) (l : Launch) (D : va_G) (cy : Nat → ClassId) (ad : Nat → Nat) : MV l yX6_forget cX6_forget 1 none 0 0 D cy ad [vR 3] σ Q := by
  refine m_V (own := RX6) (lv := [(0, vR 3)]) (by decide +kernel) rfl (Nat.le_of_ble_eq_true rfl) rfl (fun E hR => ?_) l D cy ad
  unfold wX6_forget at h
  refine g_aload_n dX6_forget_0 rfl ?_
  refine g_iconst dX6_forget_1 0 rfl (by decide) ?_
  refine g_putI fp_6_18 kd_3 rfl dX6_forget_2 ?_
  refine g_nm (fun m1 em1 => ?_)
  replace h := h m1 em1
  exact g_vret hR dX6_forget_5 h
