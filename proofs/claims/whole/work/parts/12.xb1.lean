def wX4_load_76 (b1 : Nat) (K10 : Int → Mem → Prop) (K18 : (Int × Int) → Mem → Prop) (Q : Mem → Prop) (l2 : Int) (l3 : Int) (s0 : Int) (s1 : Int) (σ : Mem) : Prop := ((0 ≤ s1 ∧ s1 < 64) ∧ (∀ m1 : Mem, m1 = up2 σ 15 s1.toNat s0 → (∀ x2 : Int, x2 = w32 (l3 + 1) → K18 (l2, x2) m1)))
def wX4_load_50 (b1 : Nat) (K10 : Int → Mem → Prop) (K18 : (Int × Int) → Mem → Prop) (Q : Mem → Prop) (l2 : Int) (l3 : Int) (s0 : Int) (σ : Mem) : Prop := (wX10_at l2 l3 σ (fun y2 m1 => ((s0 = 0 → wX4_load_76 b1 K10 K18 Q l2 l3 0 y2 m1) ∧ (¬ s0 = 0 → (wX1_room b1 l2 l3 m1 (fun y4 m3 => wX4_load_76 b1 K10 K18 Q l2 l3 y4 y2 m3))))))
def wX4_load_49 (b1 : Nat) (K10 : Int → Mem → Prop) (K18 : (Int × Int) → Mem → Prop) (Q : Mem → Prop) (l2 : Int) (l3 : Int) (σ : Mem) : Prop := wX4_load_50 b1 K10 K18 Q l2 l3 0 σ
def wX4_load_18 (b1 : Nat) (K10 : Int → Mem → Prop) (K18 : (Int × Int) → Mem → Prop) (Q : Mem → Prop) (l2 : Int) (l3 : Int) (σ : Mem) : Prop := ((8 ≤ l3 → (∀ x1 : Int, x1 = w32 (l2 + 1) → K10 x1 σ)) ∧ (¬ 8 ≤ l3 → ((σ 14 0 ≤ l2 → wX4_load_49 b1 K10 K18 Q l2 l3 σ) ∧ (¬ σ 14 0 ≤ l2 → ((σ 14 0 ≤ l3 → wX4_load_49 b1 K10 K18 Q l2 l3 σ) ∧ (¬ σ 14 0 ≤ l3 → ((l2 = l3 → wX4_load_49 b1 K10 K18 Q l2 l3 σ) ∧ (¬ l2 = l3 → wX4_load_50 b1 K10 K18 Q l2 l3 1 σ))))))))
def wLX4_load_18 (b1 : Nat) (K10 : Int → Mem → Prop) (Q : Mem → Prop) (l2 : Int) (l3 : Int) (σ : Mem) : Prop := ∃ n, lp (fun (K18 : (Int × Int) → Mem → Prop) (x : Int × Int) (σ : Mem) => wX4_load_18 b1 K10 K18 Q x.1 x.2 σ) n (l2, l3) σ
def wX4_load_10 (b1 : Nat) (K10 : Int → Mem → Prop) (Q : Mem → Prop) (l2 : Int) (σ : Mem) : Prop := ((8 ≤ l2 → (∀ m1 : Mem, m1 = upA σ 16 (acp (σ 15) (σ 16) 0 0 64) → Q m1)) ∧ (¬ 8 ≤ l2 → wLX4_load_18 b1 K10 Q l2 0 σ))
def wLX4_load_10 (b1 : Nat) (Q : Mem → Prop) (l2 : Int) (σ : Mem) : Prop := ∃ n, lp (fun (K10 : Int → Mem → Prop) (x : Int) (σ : Mem) => wX4_load_10 b1 K10 Q x σ) n l2 σ
def wX4_load (b1 : Nat) (σ : Mem) (Q : Mem → Prop) : Prop := (∀ m1 : Mem, m1 = up2 σ 14 0 (σ b1 0) → wLX4_load_10 b1 Q 0 m1)
set_option maxHeartbeats 1000000 in
theorem bX4_load_76 {E : TE} {b1 : Nat} (hb1 : isBk b1) {K10 : Int → Mem → Prop} {K18 : (Int × Int) → Mem → Prop} (hK10 : ∀ (x : Int) (σ : Mem), K10 x σ → GW E cX4_load 5 RX4 3 68 σ 10 [(0, vR 14), (1, vR b1), (2, vI x)] []) (hK18 : ∀ (x : Int × Int) (σ : Mem), K18 x σ → GW E cX4_load 5 RX4 3 68 σ 18 [(0, vR 14), (1, vR b1), (2, vI x.1), (3, vI x.2)] []) {Q : Mem → Prop} (hR : RV E none Q) {l2 : Int} {l3 : Int} {s0 : Int} {s1 : Int} {σ : Mem} (h : wX4_load_76 b1 K10 K18 Q l2 l3 s0 s1 σ) : GW E cX4_load 5 RX4 3 68 σ 76 [(0, vR 14), (1, vR b1), (2, vI l2), (3, vI l3)] [vI s0, vI s1, vR 15] := by
  unfold wX4_load_76 at h
  obtain ⟨hin, h⟩ := h
  refine g_iast kd_15 hin dX4_load_76 ?_
  refine g_nm (fun m1 em1 => ?_)
  replace h := h m1 em1
  refine g_iinc (lv' := [(3, vI (w32 (l3 + 1))), (0, vR 14), (1, vR b1), (2, vI l2)]) dX4_load_77 rfl (by decide) rfl ?_
  refine g_loc (a := w32 (l3 + 1)) (i := 3) (lv := [(0, vR 14), (1, vR b1), (2, vI l2)]) (fun x2 ex2 => ?_)
  replace h := h x2 ex2
  refine g_goto (tgt := 18) dX4_load_80 (by decide) ?_
  refine g_lv (lv' := [(0, vR 14), (1, vR b1), (2, vI l2), (3, vI x2)]) [1, 2, 3, 0] rfl ?_
  exact hK18 ((l2, x2)) m1 h
set_option maxHeartbeats 1000000 in
theorem bX4_load_50 {E : TE} {b1 : Nat} (hb1 : isBk b1) {K10 : Int → Mem → Prop} {K18 : (Int × Int) → Mem → Prop} (hK10 : ∀ (x : Int) (σ : Mem), K10 x σ → GW E cX4_load 5 RX4 3 68 σ 10 [(0, vR 14), (1, vR b1), (2, vI x)] []) (hK18 : ∀ (x : Int × Int) (σ : Mem), K18 x σ → GW E cX4_load 5 RX4 3 68 σ 18 [(0, vR 14), (1, vR b1), (2, vI x.1), (3, vI x.2)] []) {Q : Mem → Prop} (hR : RV E none Q) {l2 : Int} {l3 : Int} {s0 : Int} {σ : Mem} (h : wX4_load_50 b1 K10 K18 Q l2 l3 s0 σ) : GW E cX4_load 5 RX4 3 68 σ 50 [(0, vR 14), (1, vR b1), (2, vI l2), (3, vI l3)] [vI s0] := by
  unfold wX4_load_50 at h
  refine g_istore (lv' := [(4, vI s0), (0, vR 14), (1, vR b1), (2, vI l2), (3, vI l3)]) dX4_load_50 (by decide) rfl ?_
  refine g_aload_n dX4_load_52 rfl ?_
  refine g_getR (r := 15) fl_4_9 kd_14 rfl dX4_load_53 ?_
  refine g_iload_n dX4_load_56 rfl ?_
  refine g_iload_n dX4_load_57 rfl ?_
  refine g_cNi (st := [vR 15]) (av := [vI l2, vI l3]) (kX10_at h) cw_RX4_43 (by decide) (by decide) (Nat.le_of_ble_eq_true rfl) rfl dX4_load_58 (fun y2 m1 h => ?_)
  refine g_iload dX4_load_61 rfl ?_
  obtain ⟨hA, hB⟩ := h
  refine g_if_eq (tgt := 75) dX4_load_63 (by decide) (fun hc => ?_) (fun hc => ?_)
  · replace h := hA hc
    refine g_iconst dX4_load_75 0 rfl (by decide) ?_
    refine g_lv (lv' := [(0, vR 14), (1, vR b1), (2, vI l2), (3, vI l3)]) [1, 2, 3, 4] rfl ?_
    exact bX4_load_76 hb1 hK10 hK18 hR h
  · replace h := hB hc
    refine g_aload_n dX4_load_66 rfl ?_
    refine g_iload_n dX4_load_67 rfl ?_
    refine g_iload_n dX4_load_68 rfl ?_
    refine g_cVi (st := [vI y2, vR 15]) (av := [vI l2, vI l3]) (kX1_room hb1 h) (kd_bk0 hb1) rfl cw_RX4_47 (by decide) (by decide) (Nat.le_of_ble_eq_true rfl) rfl dX4_load_69 (fun y4 m3 h => ?_)
    refine g_goto (tgt := 76) dX4_load_72 (by decide) ?_
    refine g_lv (lv' := [(0, vR 14), (1, vR b1), (2, vI l2), (3, vI l3)]) [1, 2, 3, 4] rfl ?_
    exact bX4_load_76 hb1 hK10 hK18 hR h
set_option maxHeartbeats 1000000 in
theorem bX4_load_49 {E : TE} {b1 : Nat} (hb1 : isBk b1) {K10 : Int → Mem → Prop} {K18 : (Int × Int) → Mem → Prop} (hK10 : ∀ (x : Int) (σ : Mem), K10 x σ → GW E cX4_load 5 RX4 3 68 σ 10 [(0, vR 14), (1, vR b1), (2, vI x)] []) (hK18 : ∀ (x : Int × Int) (σ : Mem), K18 x σ → GW E cX4_load 5 RX4 3 68 σ 18 [(0, vR 14), (1, vR b1), (2, vI x.1), (3, vI x.2)] []) {Q : Mem → Prop} (hR : RV E none Q) {l2 : Int} {l3 : Int} {σ : Mem} (h : wX4_load_49 b1 K10 K18 Q l2 l3 σ) : GW E cX4_load 5 RX4 3 68 σ 49 [(0, vR 14), (1, vR b1), (2, vI l2), (3, vI l3)] [] := by
  unfold wX4_load_49 at h
  refine g_iconst dX4_load_49 0 rfl (by decide) ?_
  exact bX4_load_50 hb1 hK10 hK18 hR h
set_option maxHeartbeats 1000000 in
theorem bX4_load_18 {E : TE} {b1 : Nat} (hb1 : isBk b1) {K10 : Int → Mem → Prop} {K18 : (Int × Int) → Mem → Prop} (hK10 : ∀ (x : Int) (σ : Mem), K10 x σ → GW E cX4_load 5 RX4 3 68 σ 10 [(0, vR 14), (1, vR b1), (2, vI x)] []) (hK18 : ∀ (x : Int × Int) (σ : Mem), K18 x σ → GW E cX4_load 5 RX4 3 68 σ 18 [(0, vR 14), (1, vR b1), (2, vI x.1), (3, vI x.2)] []) {Q : Mem → Prop} (hR : RV E none Q) {l2 : Int} {l3 : Int} {σ : Mem} (h : wX4_load_18 b1 K10 K18 Q l2 l3 σ) : GW E cX4_load 5 RX4 3 68 σ 18 [(0, vR 14), (1, vR b1), (2, vI l2), (3, vI l3)] [] := by
  unfold wX4_load_18 at h
  refine g_iload_n dX4_load_18 rfl ?_
  refine g_bipush dX4_load_19 8 rfl (by decide) ?_
  obtain ⟨hA, hB⟩ := h
  refine g_icmp_ge (tgt := 83) dX4_load_21 (by decide) (fun hc => ?_) (fun hc => ?_)
  · replace h := hA hc
    refine g_iinc (lv' := [(2, vI (w32 (l2 + 1))), (0, vR 14), (1, vR b1), (3, vI l3)]) dX4_load_83 rfl (by decide) rfl ?_
    refine g_loc (a := w32 (l2 + 1)) (i := 2) (lv := [(0, vR 14), (1, vR b1), (3, vI l3)]) (fun x1 ex1 => ?_)
    replace h := h x1 ex1
    refine g_goto (tgt := 10) dX4_load_86 (by decide) ?_
    refine g_lv (lv' := [(0, vR 14), (1, vR b1), (2, vI x1)]) [1, 2, 0] rfl ?_
    exact hK10 x1 σ h
  · replace h := hB hc
    refine g_iload_n dX4_load_24 rfl ?_
    refine g_aload_n dX4_load_25 rfl ?_
    refine g_getI fl_4_42 kd_14 rfl dX4_load_26 ?_
    obtain ⟨hA, hB⟩ := h
    refine g_icmp_ge (tgt := 49) dX4_load_29 (by decide) (fun hc => ?_) (fun hc => ?_)
    · replace h := hA hc
      exact bX4_load_49 hb1 hK10 hK18 hR h
    · replace h := hB hc
      refine g_iload_n dX4_load_32 rfl ?_
      refine g_aload_n dX4_load_33 rfl ?_
      refine g_getI fl_4_42 kd_14 rfl dX4_load_34 ?_
      obtain ⟨hA, hB⟩ := h
      refine g_icmp_ge (tgt := 49) dX4_load_37 (by decide) (fun hc => ?_) (fun hc => ?_)
      · replace h := hA hc
        exact bX4_load_49 hb1 hK10 hK18 hR h
      · replace h := hB hc
        refine g_iload_n dX4_load_40 rfl ?_
        refine g_iload_n dX4_load_41 rfl ?_
        obtain ⟨hA, hB⟩ := h
        refine g_icmp_eq (tgt := 49) dX4_load_42 (by decide) (fun hc => ?_) (fun hc => ?_)
        · replace h := hA hc
          exact bX4_load_49 hb1 hK10 hK18 hR h
        · replace h := hB hc
          refine g_iconst dX4_load_45 1 rfl (by decide) ?_
          refine g_goto (tgt := 50) dX4_load_46 (by decide) ?_
          exact bX4_load_50 hb1 hK10 hK18 hR h
theorem eX4_load_18 {E : TE} {b1 : Nat} (hb1 : isBk b1) {K10 : Int → Mem → Prop} (hK10 : ∀ (x : Int) (σ : Mem), K10 x σ → GW E cX4_load 5 RX4 3 68 σ 10 [(0, vR 14), (1, vR b1), (2, vI x)] []) {Q : Mem → Prop} (hR : RV E none Q) {l2 : Int} {l3 : Int} {σ : Mem} (h : wLX4_load_18 b1 K10 Q l2 l3 σ) : GW E cX4_load 5 RX4 3 68 σ 18 [(0, vR 14), (1, vR b1), (2, vI l2), (3, vI l3)] [] := by
  obtain ⟨n, h⟩ := h
  exact lp_GW (P := fun (x : Int × Int) (σ : Mem) => GW E cX4_load 5 RX4 3 68 σ 18 [(0, vR 14), (1, vR b1), (2, vI x.1), (3, vI x.2)] []) (fun K hK x σ h  => bX4_load_18 hb1 hK10 hK hR h) n _ σ h 
set_option maxHeartbeats 1000000 in
theorem bX4_load_10 {E : TE} {b1 : Nat} (hb1 : isBk b1) {K10 : Int → Mem → Prop} (hK10 : ∀ (x : Int) (σ : Mem), K10 x σ → GW E cX4_load 5 RX4 3 68 σ 10 [(0, vR 14), (1, vR b1), (2, vI x)] []) {Q : Mem → Prop} (hR : RV E none Q) {l2 : Int} {σ : Mem} (h : wX4_load_10 b1 K10 Q l2 σ) : GW E cX4_load 5 RX4 3 68 σ 10 [(0, vR 14), (1, vR b1), (2, vI l2)] [] := by
  unfold wX4_load_10 at h
  refine g_iload_n dX4_load_10 rfl ?_
  refine g_bipush dX4_load_11 8 rfl (by decide) ?_
  obtain ⟨hA, hB⟩ := h
  refine g_icmp_ge (tgt := 89) dX4_load_13 (by decide) (fun hc => ?_) (fun hc => ?_)
  · replace h := hA hc
    refine g_aload_n dX4_load_89 rfl ?_
    refine g_getR (r := 15) fl_4_9 kd_14 rfl dX4_load_90 ?_
    refine g_iconst dX4_load_93 0 rfl (by decide) ?_
    refine g_aload_n dX4_load_94 rfl ?_
    refine g_getR (r := 16) fl_4_15 kd_14 rfl dX4_load_95 ?_
    refine g_iconst dX4_load_98 0 rfl (by decide) ?_
    refine g_bipush dX4_load_99 64 rfl (by decide) ?_
    refine g_acopy q_586 q_480 q_479 q_106 kd_15 kd_16 (by decide) (by decide) (Nat.le_of_ble_eq_true rfl) dX4_load_101 ?_
    refine g_nm (fun m1 em1 => ?_)
    replace h := h m1 em1
    exact g_vret hR dX4_load_104 h
  · replace h := hB hc
    refine g_iconst dX4_load_16 0 rfl (by decide) ?_
    refine g_istore_n (lv' := [(3, vI 0), (0, vR 14), (1, vR b1), (2, vI l2)]) dX4_load_17 (by decide) rfl ?_
    refine g_lv (lv' := [(0, vR 14), (1, vR b1), (2, vI l2), (3, vI 0)]) [1, 2, 3, 0] rfl ?_
    exact eX4_load_18 hb1 hK10 hR h
theorem eX4_load_10 {E : TE} {b1 : Nat} (hb1 : isBk b1) {Q : Mem → Prop} (hR : RV E none Q) {l2 : Int} {σ : Mem} (h : wLX4_load_10 b1 Q l2 σ) : GW E cX4_load 5 RX4 3 68 σ 10 [(0, vR 14), (1, vR b1), (2, vI l2)] [] := by
  obtain ⟨n, h⟩ := h
  exact lp_GW (P := fun (x : Int) (σ : Mem) => GW E cX4_load 5 RX4 3 68 σ 10 [(0, vR 14), (1, vR b1), (2, vI x)] []) (fun K hK x σ h  => bX4_load_10 hb1 hK hR h) n _ σ h 
set_option maxHeartbeats 1000000 in
theorem kX4_load {b1 : Nat} (hb1 : isBk b1) {σ : Mem} {Q : Mem → Prop} (h : wX4_load b1 σ Q) (l : Launch) (D : va_G) (cy : Nat → ClassId) (ad : Nat → Nat) : MV l yX4_load cX4_load 5 none 3 68 D cy ad [vR 14, vR b1] σ Q := by
  refine m_V (own := RX4) (lv := [(0, vR 14), (1, vR b1)]) (by decide +kernel) rfl (Nat.le_of_ble_eq_true rfl) rfl (fun E hR => ?_) l D cy ad
  unfold wX4_load at h
  refine g_aload_n dX4_load_0 rfl ?_
  refine g_aload_n dX4_load_1 rfl ?_
  refine g_getI fl_4_36 (kd_bk0 hb1) rfl dX4_load_2 ?_
  refine g_putI fp_4_42 kd_14 rfl dX4_load_5 ?_
  refine g_nm (fun m1 em1 => ?_)
  replace h := h m1 em1
  refine g_iconst dX4_load_8 0 rfl (by decide) ?_
  refine g_istore_n (lv' := [(2, vI 0), (0, vR 14), (1, vR b1)]) dX4_load_9 (by decide) rfl ?_
  refine g_lv (lv' := [(0, vR 14), (1, vR b1), (2, vI 0)]) [1, 2, 0] rfl ?_
  exact eX4_load_10 hb1 hR h
def wX4_widen (l1 : Int) (l2 : Int) (l3 : Int) (σ : Mem) (Q : Mem → Prop) : Prop := (wX10_at l1 l2 σ (fun y2 m1 => ((0 ≤ y2 ∧ y2 < 64) ∧ ((0 ≤ y2 ∧ y2 < 64) ∧ (∀ m3 : Mem, m3 = up2 m1 15 y2.toNat (w32 ((m1 15 y2.toNat) + l3)) → Q m3)))))
set_option maxHeartbeats 1000000 in
theorem kX4_widen {l1 : Int} {l2 : Int} {l3 : Int} {σ : Mem} {Q : Mem → Prop} (h : wX4_widen l1 l2 l3 σ Q) (l : Launch) (D : va_G) (cy : Nat → ClassId) (ad : Nat → Nat) : MV l yX4_widen cX4_widen 4 none 1 21 D cy ad [vR 14, vI l1, vI l2, vI l3] σ Q := by
  refine m_V (own := RX4) (lv := [(0, vR 14), (1, vI l1), (2, vI l2), (3, vI l3)]) (by decide +kernel) rfl (Nat.le_of_ble_eq_true rfl) rfl (fun E hR => ?_) l D cy ad
  unfold wX4_widen at h
  refine g_aload_n dX4_widen_0 rfl ?_
  refine g_getR (r := 15) fl_4_9 kd_14 rfl dX4_widen_1 ?_
  refine g_iload_n dX4_widen_4 rfl ?_
  refine g_iload_n dX4_widen_5 rfl ?_
  refine g_cNi (st := [vR 15]) (av := [vI l1, vI l2]) (kX10_at h) cw_RX4_43 (by decide) (by decide) (Nat.le_of_ble_eq_true rfl) rfl dX4_widen_6 (fun y2 m1 h => ?_)
  refine g_dup2 dX4_widen_9 rfl rfl ?_
  obtain ⟨hin, h⟩ := h
  refine g_iald kd_15 hin dX4_widen_10 ?_
  refine g_iload_n dX4_widen_11 rfl ?_
  refine g_iadd dX4_widen_12 ?_
  obtain ⟨hin, h⟩ := h
  refine g_iast kd_15 hin dX4_widen_13 ?_
  refine g_nm (fun m3 em3 => ?_)
  replace h := h m3 em3
  exact g_vret hR dX4_widen_14 h
def wX4_bar_2 (K2 : (Int × Int) → Mem → Prop) (Q : Mem → Prop) (l1 : Int) (l2 : Int) (σ : Mem) : Prop := ((σ 14 0 ≤ l2 → Q σ) ∧ (¬ σ 14 0 ≤ l2 → (wX10_at l1 l2 σ (fun y2 m1 => ((0 ≤ y2 ∧ y2 < 64) ∧ (∀ m3 : Mem, m3 = up2 m1 15 y2.toNat 0 → (wX10_at l2 l1 m3 (fun y5 m4 => ((0 ≤ y5 ∧ y5 < 64) ∧ (∀ m6 : Mem, m6 = up2 m4 15 y5.toNat 0 → (∀ x7 : Int, x7 = w32 (l2 + 1) → K2 (l1, x7) m6)))))))))))
def wLX4_bar_2 (Q : Mem → Prop) (l1 : Int) (l2 : Int) (σ : Mem) : Prop := ∃ n, lp (fun (K2 : (Int × Int) → Mem → Prop) (x : Int × Int) (σ : Mem) => wX4_bar_2 K2 Q x.1 x.2 σ) n (l1, l2) σ
def wX4_bar (l1 : Int) (σ : Mem) (Q : Mem → Prop) : Prop := wLX4_bar_2 Q l1 0 σ
set_option maxHeartbeats 1000000 in
theorem bX4_bar_2 {E : TE} {K2 : (Int × Int) → Mem → Prop} (hK2 : ∀ (x : Int × Int) (σ : Mem), K2 x σ → GW E cX4_bar 3 RX4 1 21 σ 2 [(0, vR 14), (1, vI x.1), (2, vI x.2)] []) {Q : Mem → Prop} (hR : RV E none Q) {l1 : Int} {l2 : Int} {σ : Mem} (h : wX4_bar_2 K2 Q l1 l2 σ) : GW E cX4_bar 3 RX4 1 21 σ 2 [(0, vR 14), (1, vI l1), (2, vI l2)] [] := by
  unfold wX4_bar_2 at h
  refine g_iload_n dX4_bar_2 rfl ?_
  refine g_aload_n dX4_bar_3 rfl ?_
  refine g_getI fl_4_42 kd_14 rfl dX4_bar_4 ?_
  obtain ⟨hA, hB⟩ := h
  refine g_icmp_ge (tgt := 38) dX4_bar_7 (by decide) (fun hc => ?_) (fun hc => ?_)
  · replace h := hA hc
    exact g_vret hR dX4_bar_38 h
  · replace h := hB hc
    refine g_aload_n dX4_bar_10 rfl ?_
    refine g_getR (r := 15) fl_4_9 kd_14 rfl dX4_bar_11 ?_
    refine g_iload_n dX4_bar_14 rfl ?_
    refine g_iload_n dX4_bar_15 rfl ?_
    refine g_cNi (st := [vR 15]) (av := [vI l1, vI l2]) (kX10_at h) cw_RX4_43 (by decide) (by decide) (Nat.le_of_ble_eq_true rfl) rfl dX4_bar_16 (fun y2 m1 h => ?_)
    refine g_iconst dX4_bar_19 0 rfl (by decide) ?_
    obtain ⟨hin, h⟩ := h
    refine g_iast kd_15 hin dX4_bar_20 ?_
    refine g_nm (fun m3 em3 => ?_)
    replace h := h m3 em3
    refine g_aload_n dX4_bar_21 rfl ?_
    refine g_getR (r := 15) fl_4_9 kd_14 rfl dX4_bar_22 ?_
    refine g_iload_n dX4_bar_25 rfl ?_
    refine g_iload_n dX4_bar_26 rfl ?_
    refine g_cNi (st := [vR 15]) (av := [vI l2, vI l1]) (kX10_at h) cw_RX4_43 (by decide) (by decide) (Nat.le_of_ble_eq_true rfl) rfl dX4_bar_27 (fun y5 m4 h => ?_)
    refine g_iconst dX4_bar_30 0 rfl (by decide) ?_
    obtain ⟨hin, h⟩ := h
    refine g_iast kd_15 hin dX4_bar_31 ?_
    refine g_nm (fun m6 em6 => ?_)
    replace h := h m6 em6
    refine g_iinc (lv' := [(2, vI (w32 (l2 + 1))), (0, vR 14), (1, vI l1)]) dX4_bar_32 rfl (by decide) rfl ?_
    refine g_loc (a := w32 (l2 + 1)) (i := 2) (lv := [(0, vR 14), (1, vI l1)]) (fun x7 ex7 => ?_)
    replace h := h x7 ex7
    refine g_goto (tgt := 2) dX4_bar_35 (by decide) ?_
    refine g_lv (lv' := [(0, vR 14), (1, vI l1), (2, vI x7)]) [1, 2, 0] rfl ?_
    exact hK2 ((l1, x7)) m6 h
theorem eX4_bar_2 {E : TE} {Q : Mem → Prop} (hR : RV E none Q) {l1 : Int} {l2 : Int} {σ : Mem} (h : wLX4_bar_2 Q l1 l2 σ) : GW E cX4_bar 3 RX4 1 21 σ 2 [(0, vR 14), (1, vI l1), (2, vI l2)] [] := by
  obtain ⟨n, h⟩ := h
  exact lp_GW (P := fun (x : Int × Int) (σ : Mem) => GW E cX4_bar 3 RX4 1 21 σ 2 [(0, vR 14), (1, vI x.1), (2, vI x.2)] []) (fun K hK x σ h  => bX4_bar_2 hK hR h) n _ σ h 
set_option maxHeartbeats 1000000 in
theorem kX4_bar {l1 : Int} {σ : Mem} {Q : Mem → Prop} (h : wX4_bar l1 σ Q) (l : Launch) (D : va_G) (cy : Nat → ClassId) (ad : Nat → Nat) : MV l yX4_bar cX4_bar 3 none 1 21 D cy ad [vR 14, vI l1] σ Q := by
  refine m_V (own := RX4) (lv := [(0, vR 14), (1, vI l1)]) (by decide +kernel) rfl (Nat.le_of_ble_eq_true rfl) rfl (fun E hR => ?_) l D cy ad
  unfold wX4_bar at h
  refine g_iconst dX4_bar_0 0 rfl (by decide) ?_
  refine g_istore_n (lv' := [(2, vI 0), (0, vR 14), (1, vI l1)]) dX4_bar_1 (by decide) rfl ?_
  refine g_lv (lv' := [(0, vR 14), (1, vI l1), (2, vI 0)]) [1, 2, 0] rfl ?_
  exact eX4_bar_2 hR h
def wX4_bookIn_14 (b1 : Nat) (K2 : Int → Mem → Prop) (K14 : (Int × Int) → Mem → Prop) (Q : Mem → Prop) (l2 : Int) (l3 : Int) (σ : Mem) : Prop := ((σ 14 0 ≤ l3 → (∀ x1 : Int, x1 = w32 (l2 + 1) → K2 x1 σ)) ∧ (¬ σ 14 0 ≤ l3 → (wX4_gone l2 l3 σ (fun y3 m2 => (wX1_payStraight b1 l2 l3 y3 m2 (fun m4 => (∀ x5 : Int, x5 = w32 (l3 + 1) → K14 (l2, x5) m4)))))))
def wLX4_bookIn_14 (b1 : Nat) (K2 : Int → Mem → Prop) (Q : Mem → Prop) (l2 : Int) (l3 : Int) (σ : Mem) : Prop := ∃ n, lp (fun (K14 : (Int × Int) → Mem → Prop) (x : Int × Int) (σ : Mem) => wX4_bookIn_14 b1 K2 K14 Q x.1 x.2 σ) n (l2, l3) σ
def wX4_bookIn_2 (b1 : Nat) (K2 : Int → Mem → Prop) (Q : Mem → Prop) (l2 : Int) (σ : Mem) : Prop := ((σ 14 0 ≤ l2 → Q σ) ∧ (¬ σ 14 0 ≤ l2 → (∀ x1 : Int, x1 = w32 (l2 + 1) → wLX4_bookIn_14 b1 K2 Q l2 x1 σ)))
def wLX4_bookIn_2 (b1 : Nat) (Q : Mem → Prop) (l2 : Int) (σ : Mem) : Prop := ∃ n, lp (fun (K2 : Int → Mem → Prop) (x : Int) (σ : Mem) => wX4_bookIn_2 b1 K2 Q x σ) n l2 σ
def wX4_bookIn (b1 : Nat) (σ : Mem) (Q : Mem → Prop) : Prop := wLX4_bookIn_2 b1 Q 0 σ
set_option maxHeartbeats 1000000 in
theorem bX4_bookIn_14 {E : TE} {b1 : Nat} (hb1 : isBk b1) {K2 : Int → Mem → Prop} {K14 : (Int × Int) → Mem → Prop} (hK2 : ∀ (x : Int) (σ : Mem), K2 x σ → GW E cX4_bookIn 4 RX4 2 44 σ 2 [(0, vR 14), (1, vR b1), (2, vI x)] []) (hK14 : ∀ (x : Int × Int) (σ : Mem), K14 x σ → GW E cX4_bookIn 4 RX4 2 44 σ 14 [(0, vR 14), (1, vR b1), (2, vI x.1), (3, vI x.2)] []) {Q : Mem → Prop} (hR : RV E none Q) {l2 : Int} {l3 : Int} {σ : Mem} (h : wX4_bookIn_14 b1 K2 K14 Q l2 l3 σ) : GW E cX4_bookIn 4 RX4 2 44 σ 14 [(0, vR 14), (1, vR b1), (2, vI l2), (3, vI l3)] [] := by
  unfold wX4_bookIn_14 at h
  refine g_iload_n dX4_bookIn_14 rfl ?_
  refine g_aload_n dX4_bookIn_15 rfl ?_
  refine g_getI fl_4_42 kd_14 rfl dX4_bookIn_16 ?_
  obtain ⟨hA, hB⟩ := h
  refine g_icmp_ge (tgt := 40) dX4_bookIn_19 (by decide) (fun hc => ?_) (fun hc => ?_)
  · replace h := hA hc
    refine g_iinc (lv' := [(2, vI (w32 (l2 + 1))), (0, vR 14), (1, vR b1), (3, vI l3)]) dX4_bookIn_40 rfl (by decide) rfl ?_
    refine g_loc (a := w32 (l2 + 1)) (i := 2) (lv := [(0, vR 14), (1, vR b1), (3, vI l3)]) (fun x1 ex1 => ?_)
    replace h := h x1 ex1
    refine g_goto (tgt := 2) dX4_bookIn_43 (by decide) ?_
    refine g_lv (lv' := [(0, vR 14), (1, vR b1), (2, vI x1)]) [1, 2, 0] rfl ?_
    exact hK2 x1 σ h
  · replace h := hB hc
    refine g_aload_n dX4_bookIn_22 rfl ?_
    refine g_iload_n dX4_bookIn_23 rfl ?_
    refine g_iload_n dX4_bookIn_24 rfl ?_
    refine g_aload_n dX4_bookIn_25 rfl ?_
    refine g_iload_n dX4_bookIn_26 rfl ?_
    refine g_iload_n dX4_bookIn_27 rfl ?_
    refine g_cVi (st := [vI l3, vI l2, vR b1]) (av := [vI l2, vI l3]) (kX4_gone h) kd_14 rfl cw_RX4_56 (by decide) (by decide) (Nat.le_of_ble_eq_true rfl) rfl dX4_bookIn_28 (fun y3 m2 h => ?_)
    refine g_cVv (st := []) (av := [vI l2, vI l3, vI y3]) (kX1_payStraight hb1 h) (kd_bk0 hb1) rfl cw_RX4_59 (by decide) (by decide) (Nat.le_of_ble_eq_true rfl) rfl dX4_bookIn_31 (fun m4 h => ?_)
    refine g_iinc (lv' := [(3, vI (w32 (l3 + 1))), (0, vR 14), (1, vR b1), (2, vI l2)]) dX4_bookIn_34 rfl (by decide) rfl ?_
    refine g_loc (a := w32 (l3 + 1)) (i := 3) (lv := [(0, vR 14), (1, vR b1), (2, vI l2)]) (fun x5 ex5 => ?_)
    replace h := h x5 ex5
    refine g_goto (tgt := 14) dX4_bookIn_37 (by decide) ?_
    refine g_lv (lv' := [(0, vR 14), (1, vR b1), (2, vI l2), (3, vI x5)]) [1, 2, 3, 0] rfl ?_
    exact hK14 ((l2, x5)) m4 h
theorem eX4_bookIn_14 {E : TE} {b1 : Nat} (hb1 : isBk b1) {K2 : Int → Mem → Prop} (hK2 : ∀ (x : Int) (σ : Mem), K2 x σ → GW E cX4_bookIn 4 RX4 2 44 σ 2 [(0, vR 14), (1, vR b1), (2, vI x)] []) {Q : Mem → Prop} (hR : RV E none Q) {l2 : Int} {l3 : Int} {σ : Mem} (h : wLX4_bookIn_14 b1 K2 Q l2 l3 σ) : GW E cX4_bookIn 4 RX4 2 44 σ 14 [(0, vR 14), (1, vR b1), (2, vI l2), (3, vI l3)] [] := by
  obtain ⟨n, h⟩ := h
  exact lp_GW (P := fun (x : Int × Int) (σ : Mem) => GW E cX4_bookIn 4 RX4 2 44 σ 14 [(0, vR 14), (1, vR b1), (2, vI x.1), (3, vI x.2)] []) (fun K hK x σ h  => bX4_bookIn_14 hb1 hK2 hK hR h) n _ σ h 
set_option maxHeartbeats 1000000 in
theorem bX4_bookIn_2 {E : TE} {b1 : Nat} (hb1 : isBk b1) {K2 : Int → Mem → Prop} (hK2 : ∀ (x : Int) (σ : Mem), K2 x σ → GW E cX4_bookIn 4 RX4 2 44 σ 2 [(0, vR 14), (1, vR b1), (2, vI x)] []) {Q : Mem → Prop} (hR : RV E none Q) {l2 : Int} {σ : Mem} (h : wX4_bookIn_2 b1 K2 Q l2 σ) : GW E cX4_bookIn 4 RX4 2 44 σ 2 [(0, vR 14), (1, vR b1), (2, vI l2)] [] := by
  unfold wX4_bookIn_2 at h
  refine g_iload_n dX4_bookIn_2 rfl ?_
  refine g_aload_n dX4_bookIn_3 rfl ?_
  refine g_getI fl_4_42 kd_14 rfl dX4_bookIn_4 ?_
  obtain ⟨hA, hB⟩ := h
  refine g_icmp_ge (tgt := 46) dX4_bookIn_7 (by decide) (fun hc => ?_) (fun hc => ?_)
  · replace h := hA hc
    exact g_vret hR dX4_bookIn_46 h
  · replace h := hB hc
    refine g_iload_n dX4_bookIn_10 rfl ?_
    refine g_iconst dX4_bookIn_11 1 rfl (by decide) ?_
    refine g_iadd dX4_bookIn_12 ?_
    refine g_topI (fun x1 ex1 => ?_)
    replace h := h x1 ex1
    refine g_istore_n (lv' := [(3, vI x1), (0, vR 14), (1, vR b1), (2, vI l2)]) dX4_bookIn_13 (by decide) rfl ?_
    refine g_lv (lv' := [(0, vR 14), (1, vR b1), (2, vI l2), (3, vI x1)]) [1, 2, 3, 0] rfl ?_
    exact eX4_bookIn_14 hb1 hK2 hR h
theorem eX4_bookIn_2 {E : TE} {b1 : Nat} (hb1 : isBk b1) {Q : Mem → Prop} (hR : RV E none Q) {l2 : Int} {σ : Mem} (h : wLX4_bookIn_2 b1 Q l2 σ) : GW E cX4_bookIn 4 RX4 2 44 σ 2 [(0, vR 14), (1, vR b1), (2, vI l2)] [] := by
  obtain ⟨n, h⟩ := h
  exact lp_GW (P := fun (x : Int) (σ : Mem) => GW E cX4_bookIn 4 RX4 2 44 σ 2 [(0, vR 14), (1, vR b1), (2, vI x)] []) (fun K hK x σ h  => bX4_bookIn_2 hb1 hK hR h) n _ σ h 
set_option maxHeartbeats 1000000 in
theorem kX4_bookIn {b1 : Nat} (hb1 : isBk b1) {σ : Mem} {Q : Mem → Prop} (h : wX4_bookIn b1 σ Q) (l : Launch) (D : va_G) (cy : Nat → ClassId) (ad : Nat → Nat) : MV l yX4_bookIn cX4_bookIn 4 none 2 44 D cy ad [vR 14, vR b1] σ Q := by
  refine m_V (own := RX4) (lv := [(0, vR 14), (1, vR b1)]) (by decide +kernel) rfl (Nat.le_of_ble_eq_true rfl) rfl (fun E hR => ?_) l D cy ad
  unfold wX4_bookIn at h
  refine g_iconst dX4_bookIn_0 0 rfl (by decide) ?_
  refine g_istore_n (lv' := [(2, vI 0), (0, vR 14), (1, vR b1)]) dX4_bookIn_1 (by decide) rfl ?_
  refine g_lv (lv' := [(0, vR 14), (1, vR b1), (2, vI 0)]) [1, 2, 0] rfl ?_
  exact eX4_bookIn_2 hb1 hR h
def wX4_wayMember (l1 : Int) (σ : Mem) (Q : Int → Mem → Prop) : Prop := ((0 ≤ band l1 7 ∧ band l1 7 < 8) ∧ Q (σ 20 (band l1 7).toNat) σ)
set_option maxHeartbeats 1000000 in
theorem kX4_wayMember {l1 : Int} {σ : Mem} {Q : Int → Mem → Prop} (h : wX4_wayMember l1 σ Q) (l : Launch) (D : va_G) (cy : Nat → ClassId) (ad : Nat → Nat) : MI l yX4_wayMember cX4_wayMember 2 (some .int) 0 0 D cy ad [vR 14, vI l1] σ Q := by
  refine m_I (own := RX4) (lv := [(0, vR 14), (1, vI l1)]) (by decide +kernel) rfl (Nat.le_of_ble_eq_true rfl) rfl (fun E hR => ?_) l D cy ad
  unfold wX4_wayMember at h
  refine g_aload_n dX4_wayMember_0 rfl ?_
  refine g_getR (r := 20) fl_4_27 kd_14 rfl dX4_wayMember_1 ?_
  refine g_iload_n dX4_wayMember_4 rfl ?_
  refine g_bipush dX4_wayMember_5 7 rfl (by decide) ?_
  refine g_iand dX4_wayMember_7 ?_
  obtain ⟨hin, h⟩ := h
  refine g_iald kd_20 hin dX4_wayMember_8 ?_
  exact g_iret hR dX4_wayMember_9 h
def wX4_measure_85 (K43 : (Int × Int × Int) → Mem → Prop) (K85 : (Int × Int × Int × Int × Int × Int) → Mem → Prop) (Q : Mem → Prop) (l2 : Int) (l3 : Int) (l4 : Int) (l5 : Int) (l6 : Int) (l7 : Int) (σ : Mem) : Prop := ((σ 14 0 ≤ l7 → (∀ x1 : Int, x1 = w32 (l4 + 1) → K43 (l2, l3, x1) σ)) ∧ (¬ σ 14 0 ≤ l7 → ((8 ≤ l3 → (∀ x2 : Int, x2 = w32 (l4 + 1) → K43 (l2, l3, x2) σ)) ∧ (¬ 8 ≤ l3 → ((0 ≤ band l7 7 ∧ band l7 7 < 8) ∧ ((0 ≤ σ 18 (band l7 7).toNat → (∀ x3 : Int, x3 = w32 (l7 + 1) → K85 (l2, l3, l4, l5, l6, x3) σ)) ∧ (¬ 0 ≤ σ 18 (band l7 7).toNat → (wX10_at l7 l5 σ (fun y5 m4 => ((0 ≤ y5 ∧ y5 < 64) ∧ ((m4 15 y5.toNat < l2 → (∀ x6 : Int, x6 = w32 (l7 + 1) → K85 (l2, l3, l4, l5, l6, x6) m4)) ∧ (¬ m4 15 y5.toNat < l2 → ((0 ≤ band l7 7 ∧ band l7 7 < 8) ∧ (∀ m7 : Mem, m7 = up2 m4 18 (band l7 7).toNat l6 → ((0 ≤ l3 ∧ l3 < 8) ∧ (∀ m8 : Mem, m8 = up2 m7 19 l3.toNat l7 → (∀ x9 : Int, x9 = w32 (l3 + 1) → (∀ x10 : Int, x10 = w32 (l7 + 1) → K85 (l2, x9, l4, l5, l6, x10) m8))))))))))))))))))
def wLX4_measure_85 (K43 : (Int × Int × Int) → Mem → Prop) (Q : Mem → Prop) (l2 : Int) (l3 : Int) (l4 : Int) (l5 : Int) (l6 : Int) (l7 : Int) (σ : Mem) : Prop := ∃ n, lp (fun (K85 : (Int × Int × Int × Int × Int × Int) → Mem → Prop) (x : Int × Int × Int × Int × Int × Int) (σ : Mem) => wX4_measure_85 K43 K85 Q x.1 x.2.1 x.2.2.1 x.2.2.2.1 x.2.2.2.2.1 x.2.2.2.2.2 σ) n (l2, l3, l4, l5, l6, l7) σ
def wX4_measure_43 (K43 : (Int × Int × Int) → Mem → Prop) (Q : Mem → Prop) (l2 : Int) (l3 : Int) (l4 : Int) (σ : Mem) : Prop := ((l3 ≤ l4 → Q σ) ∧ (¬ l3 ≤ l4 → ((8 ≤ l4 → Q σ) ∧ (¬ 8 ≤ l4 → ((0 ≤ band l4 7 ∧ band l4 7 < 8) ∧ (∀ x1 : Int, x1 = σ 19 (band l4 7).toNat → ((0 ≤ band x1 7 ∧ band x1 7 < 8) ∧ (∀ x2 : Int, x2 = w32 ((σ 18 (band x1 7).toNat) + 1) → wLX4_measure_85 K43 Q l2 l3 l4 x1 x2 0 σ))))))))
def wLX4_measure_43 (Q : Mem → Prop) (l2 : Int) (l3 : Int) (l4 : Int) (σ : Mem) : Prop := ∃ n, lp (fun (K43 : (Int × Int × Int) → Mem → Prop) (x : Int × Int × Int) (σ : Mem) => wX4_measure_43 K43 Q x.1 x.2.1 x.2.2 σ) n (l2, l3, l4) σ
def wX4_measure_2 (K2 : (Int × Int × Int) → Mem → Prop) (Q : Mem → Prop) (l1 : Int) (l2 : Int) (l3 : Int) (σ : Mem) : Prop := ((8 ≤ l3 → ((0 ≤ band l1 7 ∧ band l1 7 < 8) ∧ (∀ m1 : Mem, m1 = up2 σ 18 (band l1 7).toNat 0 → (∀ m2 : Mem, m2 = up2 m1 19 0 l1 → wLX4_measure_43 Q l2 1 0 m2)))) ∧ (¬ 8 ≤ l3 → ((0 ≤ l3 ∧ l3 < 8) ∧ (∀ m3 : Mem, m3 = up2 σ 18 l3.toNat ((-1)) → (∀ x4 : Int, x4 = w32 (l3 + 1) → K2 (l1, l2, x4) m3)))))
def wLX4_measure_2 (Q : Mem → Prop) (l1 : Int) (l2 : Int) (l3 : Int) (σ : Mem) : Prop := ∃ n, lp (fun (K2 : (Int × Int × Int) → Mem → Prop) (x : Int × Int × Int) (σ : Mem) => wX4_measure_2 K2 Q x.1 x.2.1 x.2.2 σ) n (l1, l2, l3) σ
def wX4_measure (l1 : Int) (l2 : Int) (σ : Mem) (Q : Mem → Prop) : Prop := wLX4_measure_2 Q l1 l2 0 σ
set_option maxHeartbeats 1000000 in
theorem bX4_measure_85 {E : TE} {K43 : (Int × Int × Int) → Mem → Prop} {K85 : (Int × Int × Int × Int × Int × Int) → Mem → Prop} (hK43 : ∀ (x : Int × Int × Int) (σ : Mem), K43 x σ → GW E cX4_measure 8 RX4 1 21 σ 43 [(0, vR 14), (2, vI x.1), (3, vI x.2.1), (4, vI x.2.2)] []) (hK85 : ∀ (x : Int × Int × Int × Int × Int × Int) (σ : Mem), K85 x σ → GW E cX4_measure 8 RX4 1 21 σ 85 [(0, vR 14), (2, vI x.1), (3, vI x.2.1), (4, vI x.2.2.1), (5, vI x.2.2.2.1), (6, vI x.2.2.2.2.1), (7, vI x.2.2.2.2.2)] []) {Q : Mem → Prop} (hR : RV E none Q) {l2 : Int} {l3 : Int} {l4 : Int} {l5 : Int} {l6 : Int} {l7 : Int} {σ : Mem} (h : wX4_measure_85 K43 K85 Q l2 l3 l4 l5 l6 l7 σ) : GW E cX4_measure 8 RX4 1 21 σ 85 [(0, vR 14), (2, vI l2), (3, vI l3), (4, vI l4), (5, vI l5), (6, vI l6), (7, vI l7)] [] := by
  unfold wX4_measure_85 at h
  refine g_iload dX4_measure_85 rfl ?_
  refine g_aload_n dX4_measure_87 rfl ?_
  refine g_getI fl_4_42 kd_14 rfl dX4_measure_88 ?_
  obtain ⟨hA, hB⟩ := h
  refine g_icmp_ge (tgt := 158) dX4_measure_91 (by decide) (fun hc => ?_) (fun hc => ?_)
  · replace h := hA hc
    refine g_iinc (lv' := [(4, vI (w32 (l4 + 1))), (0, vR 14), (2, vI l2), (3, vI l3), (5, vI l5), (6, vI l6), (7, vI l7)]) dX4_measure_158 rfl (by decide) rfl ?_
    refine g_loc (a := w32 (l4 + 1)) (i := 4) (lv := [(0, vR 14), (2, vI l2), (3, vI l3), (5, vI l5), (6, vI l6), (7, vI l7)]) (fun x1 ex1 => ?_)
    replace h := h x1 ex1
    refine g_goto (tgt := 43) dX4_measure_161 (by decide) ?_
    refine g_lv (lv' := [(0, vR 14), (2, vI l2), (3, vI l3), (4, vI x1)]) [1, 2, 3, 0] rfl ?_
    exact hK43 ((l2, l3, x1)) σ h
  · replace h := hB hc
    refine g_iload_n dX4_measure_94 rfl ?_
    refine g_bipush dX4_measure_95 8 rfl (by decide) ?_
    obtain ⟨hA, hB⟩ := h
    refine g_icmp_ge (tgt := 158) dX4_measure_97 (by decide) (fun hc => ?_) (fun hc => ?_)
    · replace h := hA hc
      refine g_iinc (lv' := [(4, vI (w32 (l4 + 1))), (0, vR 14), (2, vI l2), (3, vI l3), (5, vI l5), (6, vI l6), (7, vI l7)]) dX4_measure_158 rfl (by decide) rfl ?_
      refine g_loc (a := w32 (l4 + 1)) (i := 4) (lv := [(0, vR 14), (2, vI l2), (3, vI l3), (5, vI l5), (6, vI l6), (7, vI l7)]) (fun x2 ex2 => ?_)
      replace h := h x2 ex2
      refine g_goto (tgt := 43) dX4_measure_161 (by decide) ?_
      refine g_lv (lv' := [(0, vR 14), (2, vI l2), (3, vI l3), (4, vI x2)]) [1, 2, 3, 0] rfl ?_
      exact hK43 ((l2, l3, x2)) σ h
    · replace h := hB hc
      refine g_aload_n dX4_measure_100 rfl ?_
      refine g_getR (r := 18) fl_4_21 kd_14 rfl dX4_measure_101 ?_
      refine g_iload dX4_measure_104 rfl ?_
      refine g_bipush dX4_measure_106 7 rfl (by decide) ?_
      refine g_iand dX4_measure_108 ?_
      obtain ⟨hin, h⟩ := h
      refine g_iald kd_18 hin dX4_measure_109 ?_
      obtain ⟨hA, hB⟩ := h
      refine g_if_ge (tgt := 152) dX4_measure_110 (by decide) (fun hc => ?_) (fun hc => ?_)
      · replace h := hA hc
        refine g_iinc (lv' := [(7, vI (w32 (l7 + 1))), (0, vR 14), (2, vI l2), (3, vI l3), (4, vI l4), (5, vI l5), (6, vI l6)]) dX4_measure_152 rfl (by decide) rfl ?_
        refine g_loc (a := w32 (l7 + 1)) (i := 7) (lv := [(0, vR 14), (2, vI l2), (3, vI l3), (4, vI l4), (5, vI l5), (6, vI l6)]) (fun x3 ex3 => ?_)
        replace h := h x3 ex3
        refine g_goto (tgt := 85) dX4_measure_155 (by decide) ?_
        refine g_lv (lv' := [(0, vR 14), (2, vI l2), (3, vI l3), (4, vI l4), (5, vI l5), (6, vI l6), (7, vI x3)]) [1, 2, 3, 4, 5, 6, 0] rfl ?_
        exact hK85 ((l2, l3, l4, l5, l6, x3)) σ h
      · replace h := hB hc
        refine g_aload_n dX4_measure_113 rfl ?_
        refine g_getR (r := 15) fl_4_9 kd_14 rfl dX4_measure_114 ?_
        refine g_iload dX4_measure_117 rfl ?_
        refine g_iload dX4_measure_119 rfl ?_
        refine g_cNi (st := [vR 15]) (av := [vI l7, vI l5]) (kX10_at h) cw_RX4_43 (by decide) (by decide) (Nat.le_of_ble_eq_true rfl) rfl dX4_measure_121 (fun y5 m4 h => ?_)
        obtain ⟨hin, h⟩ := h
        refine g_iald kd_15 hin dX4_measure_124 ?_
        refine g_iload_n dX4_measure_125 rfl ?_
        obtain ⟨hA, hB⟩ := h
        refine g_icmp_lt (tgt := 152) dX4_measure_126 (by decide) (fun hc => ?_) (fun hc => ?_)
        · replace h := hA hc
          refine g_iinc (lv' := [(7, vI (w32 (l7 + 1))), (0, vR 14), (2, vI l2), (3, vI l3), (4, vI l4), (5, vI l5), (6, vI l6)]) dX4_measure_152 rfl (by decide) rfl ?_
          refine g_loc (a := w32 (l7 + 1)) (i := 7) (lv := [(0, vR 14), (2, vI l2), (3, vI l3), (4, vI l4), (5, vI l5), (6, vI l6)]) (fun x6 ex6 => ?_)
          replace h := h x6 ex6
          refine g_goto (tgt := 85) dX4_measure_155 (by decide) ?_
          refine g_lv (lv' := [(0, vR 14), (2, vI l2), (3, vI l3), (4, vI l4), (5, vI l5), (6, vI l6), (7, vI x6)]) [1, 2, 3, 4, 5, 6, 0] rfl ?_
          exact hK85 ((l2, l3, l4, l5, l6, x6)) m4 h
        · replace h := hB hc
          refine g_aload_n dX4_measure_129 rfl ?_
          refine g_getR (r := 18) fl_4_21 kd_14 rfl dX4_measure_130 ?_
          refine g_iload dX4_measure_133 rfl ?_
          refine g_bipush dX4_measure_135 7 rfl (by decide) ?_
          refine g_iand dX4_measure_137 ?_
          refine g_iload dX4_measure_138 rfl ?_
          obtain ⟨hin, h⟩ := h
          refine g_iast kd_18 hin dX4_measure_140 ?_
          refine g_nm (fun m7 em7 => ?_)
          replace h := h m7 em7
          refine g_aload_n dX4_measure_141 rfl ?_
          refine g_getR (r := 19) fl_4_24 kd_14 rfl dX4_measure_142 ?_
          refine g_iload_n dX4_measure_145 rfl ?_
          refine g_iload dX4_measure_146 rfl ?_
          obtain ⟨hin, h⟩ := h
          refine g_iast kd_19 hin dX4_measure_148 ?_
          refine g_nm (fun m8 em8 => ?_)
          replace h := h m8 em8
          refine g_iinc (lv' := [(3, vI (w32 (l3 + 1))), (0, vR 14), (2, vI l2), (4, vI l4), (5, vI l5), (6, vI l6), (7, vI l7)]) dX4_measure_149 rfl (by decide) rfl ?_
          refine g_loc (a := w32 (l3 + 1)) (i := 3) (lv := [(0, vR 14), (2, vI l2), (4, vI l4), (5, vI l5), (6, vI l6), (7, vI l7)]) (fun x9 ex9 => ?_)
          replace h := h x9 ex9
          refine g_iinc (lv' := [(7, vI (w32 (l7 + 1))), (3, vI x9), (0, vR 14), (2, vI l2), (4, vI l4), (5, vI l5), (6, vI l6)]) dX4_measure_152 rfl (by decide) rfl ?_
          refine g_loc (a := w32 (l7 + 1)) (i := 7) (lv := [(3, vI x9), (0, vR 14), (2, vI l2), (4, vI l4), (5, vI l5), (6, vI l6)]) (fun x10 ex10 => ?_)
          replace h := h x10 ex10
          refine g_goto (tgt := 85) dX4_measure_155 (by decide) ?_
          refine g_lv (lv' := [(0, vR 14), (2, vI l2), (3, vI x9), (4, vI l4), (5, vI l5), (6, vI l6), (7, vI x10)]) [2, 3, 1, 4, 5, 6, 0] rfl ?_
          exact hK85 ((l2, x9, l4, l5, l6, x10)) m8 h
theorem eX4_measure_85 {E : TE} {K43 : (Int × Int × Int) → Mem → Prop} (hK43 : ∀ (x : Int × Int × Int) (σ : Mem), K43 x σ → GW E cX4_measure 8 RX4 1 21 σ 43 [(0, vR 14), (2, vI x.1), (3, vI x.2.1), (4, vI x.2.2)] []) {Q : Mem → Prop} (hR : RV E none Q) {l2 : Int} {l3 : Int} {l4 : Int} {l5 : Int} {l6 : Int} {l7 : Int} {σ : Mem} (h : wLX4_measure_85 K43 Q l2 l3 l4 l5 l6 l7 σ) : GW E cX4_measure 8 RX4 1 21 σ 85 [(0, vR 14), (2, vI l2), (3, vI l3), (4, vI l4), (5, vI l5), (6, vI l6), (7, vI l7)] [] := by
  obtain ⟨n, h⟩ := h
  exact lp_GW (P := fun (x : Int × Int × Int × Int × Int × Int) (σ : Mem) => GW E cX4_measure 8 RX4 1 21 σ 85 [(0, vR 14), (2, vI x.1), (3, vI x.2.1), (4, vI x.2.2.1), (5, vI x.2.2.2.1), (6, vI x.2.2.2.2.1), (7, vI x.2.2.2.2.2)] []) (fun K hK x σ h  => bX4_measure_85 hK43 hK hR h) n _ σ h 
set_option maxHeartbeats 1000000 in
theorem bX4_measure_43 {E : TE} {K43 : (Int × Int × Int) → Mem → Prop} (hK43 : ∀ (x : Int × Int × Int) (σ : Mem), K43 x σ → GW E cX4_measure 8 RX4 1 21 σ 43 [(0, vR 14), (2, vI x.1), (3, vI x.2.1), (4, vI x.2.2)] []) {Q : Mem → Prop} (hR : RV E none Q) {l2 : Int} {l3 : Int} {l4 : Int} {σ : Mem} (h : wX4_measure_43 K43 Q l2 l3 l4 σ) : GW E cX4_measure 8 RX4 1 21 σ 43 [(0, vR 14), (2, vI l2), (3, vI l3), (4, vI l4)] [] := by
  unfold wX4_measure_43 at h
  refine g_iload dX4_measure_43 rfl ?_
  refine g_iload_n dX4_measure_45 rfl ?_
  obtain ⟨hA, hB⟩ := h
  refine g_icmp_ge (tgt := 164) dX4_measure_46 (by decide) (fun hc => ?_) (fun hc => ?_)
  · replace h := hA hc
    exact g_vret hR dX4_measure_164 h
  · replace h := hB hc
    refine g_iload dX4_measure_49 rfl ?_
    refine g_bipush dX4_measure_51 8 rfl (by decide) ?_
    obtain ⟨hA, hB⟩ := h
    refine g_icmp_ge (tgt := 164) dX4_measure_53 (by decide) (fun hc => ?_) (fun hc => ?_)
    · replace h := hA hc
      exact g_vret hR dX4_measure_164 h
    · replace h := hB hc
      refine g_aload_n dX4_measure_56 rfl ?_
      refine g_getR (r := 19) fl_4_24 kd_14 rfl dX4_measure_57 ?_
      refine g_iload dX4_measure_60 rfl ?_
      refine g_bipush dX4_measure_62 7 rfl (by decide) ?_
      refine g_iand dX4_measure_64 ?_
      obtain ⟨hin, h⟩ := h
      refine g_iald kd_19 hin dX4_measure_65 ?_
      refine g_topI (fun x1 ex1 => ?_)
      replace h := h x1 ex1
      refine g_istore (lv' := [(5, vI x1), (0, vR 14), (2, vI l2), (3, vI l3), (4, vI l4)]) dX4_measure_66 (by decide) rfl ?_
      refine g_aload_n dX4_measure_68 rfl ?_
      refine g_getR (r := 18) fl_4_21 kd_14 rfl dX4_measure_69 ?_
      refine g_iload dX4_measure_72 rfl ?_
      refine g_bipush dX4_measure_74 7 rfl (by decide) ?_
      refine g_iand dX4_measure_76 ?_
      obtain ⟨hin, h⟩ := h
      refine g_iald kd_18 hin dX4_measure_77 ?_
      refine g_iconst dX4_measure_78 1 rfl (by decide) ?_
      refine g_iadd dX4_measure_79 ?_
      refine g_topI (fun x2 ex2 => ?_)
      replace h := h x2 ex2
      refine g_istore (lv' := [(6, vI x2), (5, vI x1), (0, vR 14), (2, vI l2), (3, vI l3), (4, vI l4)]) dX4_measure_80 (by decide) rfl ?_
      refine g_iconst dX4_measure_82 0 rfl (by decide) ?_
      refine g_istore (lv' := [(7, vI 0), (6, vI x2), (5, vI x1), (0, vR 14), (2, vI l2), (3, vI l3), (4, vI l4)]) dX4_measure_83 (by decide) rfl ?_
      refine g_lv (lv' := [(0, vR 14), (2, vI l2), (3, vI l3), (4, vI l4), (5, vI x1), (6, vI x2), (7, vI 0)]) [3, 4, 5, 6, 2, 1, 0] rfl ?_
      exact eX4_measure_85 hK43 hR h
theorem eX4_measure_43 {E : TE} {Q : Mem → Prop} (hR : RV E none Q) {l2 : Int} {l3 : Int} {l4 : Int} {σ : Mem} (h : wLX4_measure_43 Q l2 l3 l4 σ) : GW E cX4_measure 8 RX4 1 21 σ 43 [(0, vR 14), (2, vI l2), (3, vI l3), (4, vI l4)] [] := by
  obtain ⟨n, h⟩ := h
  exact lp_GW (P := fun (x : Int × Int × Int) (σ : Mem) => GW E cX4_measure 8 RX4 1 21 σ 43 [(0, vR 14), (2, vI x.1), (3, vI x.2.1), (4, vI x.2.2)] []) (fun K hK x σ h  => bX4_measure_43 hK hR h) n _ σ h 
set_option maxHeartbeats 1000000 in
theorem bX4_measure_2 {E : TE} {K2 : (Int × Int × Int) → Mem → Prop} (hK2 : ∀ (x : Int × Int × Int) (σ : Mem), K2 x σ → GW E cX4_measure 8 RX4 1 21 σ 2 [(0, vR 14), (1, vI x.1), (2, vI x.2.1), (3, vI x.2.2)] []) {Q : Mem → Prop} (hR : RV E none Q) {l1 : Int} {l2 : Int} {l3 : Int} {σ : Mem} (h : wX4_measure_2 K2 Q l1 l2 l3 σ) : GW E cX4_measure 8 RX4 1 21 σ 2 [(0, vR 14), (1, vI l1), (2, vI l2), (3, vI l3)] [] := by
  unfold wX4_measure_2 at h
  refine g_iload_n dX4_measure_2 rfl ?_
  refine g_bipush dX4_measure_3 8 rfl (by decide) ?_
  obtain ⟨hA, hB⟩ := h
  refine g_icmp_ge (tgt := 21) dX4_measure_5 (by decide) (fun hc => ?_) (fun hc => ?_)
  · replace h := hA hc
    refine g_aload_n dX4_measure_21 rfl ?_
    refine g_getR (r := 18) fl_4_21 kd_14 rfl dX4_measure_22 ?_
    refine g_iload_n dX4_measure_25 rfl ?_
    refine g_bipush dX4_measure_26 7 rfl (by decide) ?_
    refine g_iand dX4_measure_28 ?_
    refine g_iconst dX4_measure_29 0 rfl (by decide) ?_
    obtain ⟨hin, h⟩ := h
    refine g_iast kd_18 hin dX4_measure_30 ?_
    refine g_nm (fun m1 em1 => ?_)
    replace h := h m1 em1
    refine g_aload_n dX4_measure_31 rfl ?_
    refine g_getR (r := 19) fl_4_24 kd_14 rfl dX4_measure_32 ?_
    refine g_iconst dX4_measure_35 0 rfl (by decide) ?_
    refine g_iload_n dX4_measure_36 rfl ?_
    refine g_iast kd_19 (by decide) dX4_measure_37 ?_
    refine g_nm (fun m2 em2 => ?_)
    replace h := h m2 em2
    refine g_iconst dX4_measure_38 1 rfl (by decide) ?_
    refine g_istore_n (lv' := [(3, vI 1), (0, vR 14), (1, vI l1), (2, vI l2)]) dX4_measure_39 (by decide) rfl ?_
    refine g_iconst dX4_measure_40 0 rfl (by decide) ?_
    refine g_istore (lv' := [(4, vI 0), (3, vI 1), (0, vR 14), (1, vI l1), (2, vI l2)]) dX4_measure_41 (by decide) rfl ?_
    refine g_lv (lv' := [(0, vR 14), (2, vI l2), (3, vI 1), (4, vI 0)]) [2, 4, 1, 0] rfl ?_
    exact eX4_measure_43 hR h
  · replace h := hB hc
    refine g_aload_n dX4_measure_8 rfl ?_
    refine g_getR (r := 18) fl_4_21 kd_14 rfl dX4_measure_9 ?_
    refine g_iload_n dX4_measure_12 rfl ?_
    refine g_iconst dX4_measure_13 (-1) rfl (by decide) ?_
    obtain ⟨hin, h⟩ := h
    refine g_iast kd_18 hin dX4_measure_14 ?_
    refine g_nm (fun m3 em3 => ?_)
    replace h := h m3 em3
    refine g_iinc (lv' := [(3, vI (w32 (l3 + 1))), (0, vR 14), (1, vI l1), (2, vI l2)]) dX4_measure_15 rfl (by decide) rfl ?_
    refine g_loc (a := w32 (l3 + 1)) (i := 3) (lv := [(0, vR 14), (1, vI l1), (2, vI l2)]) (fun x4 ex4 => ?_)
    replace h := h x4 ex4
    refine g_goto (tgt := 2) dX4_measure_18 (by decide) ?_
    refine g_lv (lv' := [(0, vR 14), (1, vI l1), (2, vI l2), (3, vI x4)]) [1, 2, 3, 0] rfl ?_
    exact hK2 ((l1, l2, x4)) m3 h
theorem eX4_measure_2 {E : TE} {Q : Mem → Prop} (hR : RV E none Q) {l1 : Int} {l2 : Int} {l3 : Int} {σ : Mem} (h : wLX4_measure_2 Q l1 l2 l3 σ) : GW E cX4_measure 8 RX4 1 21 σ 2 [(0, vR 14), (1, vI l1), (2, vI l2), (3, vI l3)] [] := by
  obtain ⟨n, h⟩ := h
  exact lp_GW (P := fun (x : Int × Int × Int) (σ : Mem) => GW E cX4_measure 8 RX4 1 21 σ 2 [(0, vR 14), (1, vI x.1), (2, vI x.2.1), (3, vI x.2.2)] []) (fun K hK x σ h  => bX4_measure_2 hK hR h) n _ σ h 
set_option maxHeartbeats 1000000 in
theorem kX4_measure {l1 : Int} {l2 : Int} {σ : Mem} {Q : Mem → Prop} (h : wX4_measure l1 l2 σ Q) (l : Launch) (D : va_G) (cy : Nat → ClassId) (ad : Nat → Nat) : MV l yX4_measure cX4_measure 8 none 1 21 D cy ad [vR 14, vI l1, vI l2] σ Q := by
  refine m_V (own := RX4) (lv := [(0, vR 14), (1, vI l1), (2, vI l2)]) (by decide +kernel) rfl (Nat.le_of_ble_eq_true rfl) rfl (fun E hR => ?_) l D cy ad
  unfold wX4_measure at h
  refine g_iconst dX4_measure_0 0 rfl (by decide) ?_
  refine g_istore_n (lv' := [(3, vI 0), (0, vR 14), (1, vI l1), (2, vI l2)]) dX4_measure_1 (by decide) rfl ?_
  refine g_lv (lv' := [(0, vR 14), (1, vI l1), (2, vI l2), (3, vI 0)]) [1, 2, 3, 0] rfl ?_
  exact eX4_measure_2 hR h
def wX4_nextTowards_3 (K3 : (Int × Int × Int × Int) → Mem → Prop) (Q : Int → Mem → Prop) (l1 : Int) (l2 : Int) (l3 : Int) (l4 : Int) (σ : Mem) : Prop := ((σ 14 0 ≤ l4 → Q l1 σ) ∧ (¬ σ 14 0 ≤ l4 → ((0 ≤ band l4 7 ∧ band l4 7 < 8) ∧ ((¬ σ 18 (band l4 7).toNat = l2 → (∀ x1 : Int, x1 = w32 (l4 + 1) → K3 (l1, l2, l3, x1) σ)) ∧ (σ 18 (band l4 7).toNat = l2 → (wX10_at l1 l4 σ (fun y3 m2 => ((0 ≤ y3 ∧ y3 < 64) ∧ ((m2 15 y3.toNat < l3 → (∀ x4 : Int, x4 = w32 (l4 + 1) → K3 (l1, l2, l3, x4) m2)) ∧ (¬ m2 15 y3.toNat < l3 → Q l4 m2))))))))))
def wLX4_nextTowards_3 (Q : Int → Mem → Prop) (l1 : Int) (l2 : Int) (l3 : Int) (l4 : Int) (σ : Mem) : Prop := ∃ n, lp (fun (K3 : (Int × Int × Int × Int) → Mem → Prop) (x : Int × Int × Int × Int) (σ : Mem) => wX4_nextTowards_3 K3 Q x.1 x.2.1 x.2.2.1 x.2.2.2 σ) n (l1, l2, l3, l4) σ
def wX4_nextTowards (l1 : Int) (l2 : Int) (l3 : Int) (σ : Mem) (Q : Int → Mem → Prop) : Prop := wLX4_nextTowards_3 Q l1 l2 l3 0 σ
set_option maxHeartbeats 1000000 in
theorem bX4_nextTowards_3 {E : TE} {K3 : (Int × Int × Int × Int) → Mem → Prop} (hK3 : ∀ (x : Int × Int × Int × Int) (σ : Mem), K3 x σ → GW E cX4_nextTowards 5 RX4 1 21 σ 3 [(0, vR 14), (1, vI x.1), (2, vI x.2.1), (3, vI x.2.2.1), (4, vI x.2.2.2)] []) {Q : Int → Mem → Prop} (hR : RI E (some .int) Q) {l1 : Int} {l2 : Int} {l3 : Int} {l4 : Int} {σ : Mem} (h : wX4_nextTowards_3 K3 Q l1 l2 l3 l4 σ) : GW E cX4_nextTowards 5 RX4 1 21 σ 3 [(0, vR 14), (1, vI l1), (2, vI l2), (3, vI l3), (4, vI l4)] [] := by
  unfold wX4_nextTowards_3 at h
  refine g_iload dX4_nextTowards_3 rfl ?_
  refine g_aload_n dX4_nextTowards_5 rfl ?_
  refine g_getI fl_4_42 kd_14 rfl dX4_nextTowards_6 ?_
  obtain ⟨hA, hB⟩ := h
  refine g_icmp_ge (tgt := 50) dX4_nextTowards_9 (by decide) (fun hc => ?_) (fun hc => ?_)
  · replace h := hA hc
    refine g_iload_n dX4_nextTowards_50 rfl ?_
    exact g_iret hR dX4_nextTowards_51 h
  · replace h := hB hc
    refine g_aload_n dX4_nextTowards_12 rfl ?_
    refine g_getR (r := 18) fl_4_21 kd_14 rfl dX4_nextTowards_13 ?_
    refine g_iload dX4_nextTowards_16 rfl ?_
    refine g_bipush dX4_nextTowards_18 7 rfl (by decide) ?_
    refine g_iand dX4_nextTowards_20 ?_
    obtain ⟨hin, h⟩ := h
    refine g_iald kd_18 hin dX4_nextTowards_21 ?_
    refine g_iload_n dX4_nextTowards_22 rfl ?_
    obtain ⟨hA, hB⟩ := h
    refine g_icmp_ne (tgt := 44) dX4_nextTowards_23 (by decide) (fun hc => ?_) (fun hc => ?_)
    · replace h := hA hc
      refine g_iinc (lv' := [(4, vI (w32 (l4 + 1))), (0, vR 14), (1, vI l1), (2, vI l2), (3, vI l3)]) dX4_nextTowards_44 rfl (by decide) rfl ?_
      refine g_loc (a := w32 (l4 + 1)) (i := 4) (lv := [(0, vR 14), (1, vI l1), (2, vI l2), (3, vI l3)]) (fun x1 ex1 => ?_)
      replace h := h x1 ex1
      refine g_goto (tgt := 3) dX4_nextTowards_47 (by decide) ?_
      refine g_lv (lv' := [(0, vR 14), (1, vI l1), (2, vI l2), (3, vI l3), (4, vI x1)]) [1, 2, 3, 4, 0] rfl ?_
      exact hK3 ((l1, l2, l3, x1)) σ h
    · replace h := hB hc
      refine g_aload_n dX4_nextTowards_26 rfl ?_
      refine g_getR (r := 15) fl_4_9 kd_14 rfl dX4_nextTowards_27 ?_
      refine g_iload_n dX4_nextTowards_30 rfl ?_
      refine g_iload dX4_nextTowards_31 rfl ?_
      refine g_cNi (st := [vR 15]) (av := [vI l1, vI l4]) (kX10_at h) cw_RX4_43 (by decide) (by decide) (Nat.le_of_ble_eq_true rfl) rfl dX4_nextTowards_33 (fun y3 m2 h => ?_)
      obtain ⟨hin, h⟩ := h
      refine g_iald kd_15 hin dX4_nextTowards_36 ?_
      refine g_iload_n dX4_nextTowards_37 rfl ?_
      obtain ⟨hA, hB⟩ := h
      refine g_icmp_lt (tgt := 44) dX4_nextTowards_38 (by decide) (fun hc => ?_) (fun hc => ?_)
      · replace h := hA hc
        refine g_iinc (lv' := [(4, vI (w32 (l4 + 1))), (0, vR 14), (1, vI l1), (2, vI l2), (3, vI l3)]) dX4_nextTowards_44 rfl (by decide) rfl ?_
        refine g_loc (a := w32 (l4 + 1)) (i := 4) (lv := [(0, vR 14), (1, vI l1), (2, vI l2), (3, vI l3)]) (fun x4 ex4 => ?_)
        replace h := h x4 ex4
        refine g_goto (tgt := 3) dX4_nextTowards_47 (by decide) ?_
        refine g_lv (lv' := [(0, vR 14), (1, vI l1), (2, vI l2), (3, vI l3), (4, vI x4)]) [1, 2, 3, 4, 0] rfl ?_
        exact hK3 ((l1, l2, l3, x4)) m2 h
      · replace h := hB hc
        refine g_iload dX4_nextTowards_41 rfl ?_
        exact g_iret hR dX4_nextTowards_43 h
theorem eX4_nextTowards_3 {E : TE} {Q : Int → Mem → Prop} (hR : RI E (some .int) Q) {l1 : Int} {l2 : Int} {l3 : Int} {l4 : Int} {σ : Mem} (h : wLX4_nextTowards_3 Q l1 l2 l3 l4 σ) : GW E cX4_nextTowards 5 RX4 1 21 σ 3 [(0, vR 14), (1, vI l1), (2, vI l2), (3, vI l3), (4, vI l4)] [] := by
  obtain ⟨n, h⟩ := h
  exact lp_GW (P := fun (x : Int × Int × Int × Int) (σ : Mem) => GW E cX4_nextTowards 5 RX4 1 21 σ 3 [(0, vR 14), (1, vI x.1), (2, vI x.2.1), (3, vI x.2.2.1), (4, vI x.2.2.2)] []) (fun K hK x σ h  => bX4_nextTowards_3 hK hR h) n _ σ h 
set_option maxHeartbeats 1000000 in
theorem kX4_nextTowards {l1 : Int} {l2 : Int} {l3 : Int} {σ : Mem} {Q : Int → Mem → Prop} (h : wX4_nextTowards l1 l2 l3 σ Q) (l : Launch) (D : va_G) (cy : Nat → ClassId) (ad : Nat → Nat) : MI l yX4_nextTowards cX4_nextTowards 5 (some .int) 1 21 D cy ad [vR 14, vI l1, vI l2, vI l3] σ Q := by
  refine m_I (own := RX4) (lv := [(0, vR 14), (1, vI l1), (2, vI l2), (3, vI l3)]) (by decide +kernel) rfl (Nat.le_of_ble_eq_true rfl) rfl (fun E hR => ?_) l D cy ad
  unfold wX4_nextTowards at h
  refine g_iconst dX4_nextTowards_0 0 rfl (by decide) ?_
  refine g_istore (lv' := [(4, vI 0), (0, vR 14), (1, vI l1), (2, vI l2), (3, vI l3)]) dX4_nextTowards_1 (by decide) rfl ?_
  refine g_lv (lv' := [(0, vR 14), (1, vI l1), (2, vI l2), (3, vI l3), (4, vI 0)]) [1, 2, 3, 4, 0] rfl ?_
  exact eX4_nextTowards_3 hR h
def wX4_findWay_45 (K45 : (Int × Int × Int) → Mem → Prop) (Q : Int → Mem → Prop) (l3 : Int) (l5 : Int) (l6 : Int) (σ : Mem) : Prop := ((σ 14 7 ≤ l6 → Q 1 σ) ∧ (¬ σ 14 7 ≤ l6 → ((8 ≤ l6 → Q 1 σ) ∧ (¬ 8 ≤ l6 → (wX4_nextTowards l5 (w32 ((w32 ((σ 14 7) - 1)) - l6)) l3 σ (fun y2 m1 => ((0 ≤ l6 ∧ l6 < 8) ∧ (∀ m3 : Mem, m3 = up2 m1 20 l6.toNat y2 → (∀ x4 : Int, x4 = w32 (l6 + 1) → K45 (l3, y2, x4) m3)))))))))
def wLX4_findWay_45 (Q : Int → Mem → Prop) (l3 : Int) (l5 : Int) (l6 : Int) (σ : Mem) : Prop := ∃ n, lp (fun (K45 : (Int × Int × Int) → Mem → Prop) (x : Int × Int × Int) (σ : Mem) => wX4_findWay_45 K45 Q x.1 x.2.1 x.2.2 σ) n (l3, l5, l6) σ
def wX4_findWay (l1 : Int) (l2 : Int) (l3 : Int) (σ : Mem) (Q : Int → Mem → Prop) : Prop := (wX4_measure l2 l3 σ (fun m1 => ((0 ≤ band l1 7 ∧ band l1 7 < 8) ∧ (∀ x2 : Int, x2 = m1 18 (band l1 7).toNat → ((0 ≤ x2 → (∀ m3 : Mem, m3 = up2 m1 14 7 (w32 (x2 + 1)) → (∀ m4 : Mem, m4 = up2 m3 20 0 l1 → wLX4_findWay_45 Q l3 l1 1 m4))) ∧ (¬ 0 ≤ x2 → Q 0 m1))))))
set_option maxHeartbeats 1000000 in
theorem bX4_findWay_45 {E : TE} {K45 : (Int × Int × Int) → Mem → Prop} (hK45 : ∀ (x : Int × Int × Int) (σ : Mem), K45 x σ → GW E cX4_findWay 7 RX4 2 48 σ 45 [(0, vR 14), (3, vI x.1), (5, vI x.2.1), (6, vI x.2.2)] []) {Q : Int → Mem → Prop} (hR : RI E (some .boolean) Q) {l3 : Int} {l5 : Int} {l6 : Int} {σ : Mem} (h : wX4_findWay_45 K45 Q l3 l5 l6 σ) : GW E cX4_findWay 7 RX4 2 48 σ 45 [(0, vR 14), (3, vI l3), (5, vI l5), (6, vI l6)] [] := by
  unfold wX4_findWay_45 at h
  refine g_iload dX4_findWay_45 rfl ?_
  refine g_aload_n dX4_findWay_47 rfl ?_
  refine g_getI fl_4_67 kd_14 rfl dX4_findWay_48 ?_
  obtain ⟨hA, hB⟩ := h
  refine g_icmp_ge (tgt := 94) dX4_findWay_51 (by decide) (fun hc => ?_) (fun hc => ?_)
  · replace h := hA hc
    refine g_iconst dX4_findWay_94 1 rfl (by decide) ?_
    exact g_zret hR dX4_findWay_95 (by decide) h
  · replace h := hB hc
    refine g_iload dX4_findWay_54 rfl ?_
    refine g_bipush dX4_findWay_56 8 rfl (by decide) ?_
    obtain ⟨hA, hB⟩ := h
    refine g_icmp_ge (tgt := 94) dX4_findWay_58 (by decide) (fun hc => ?_) (fun hc => ?_)
    · replace h := hA hc
      refine g_iconst dX4_findWay_94 1 rfl (by decide) ?_
      exact g_zret hR dX4_findWay_95 (by decide) h
    · replace h := hB hc
      refine g_aload_n dX4_findWay_61 rfl ?_
      refine g_iload dX4_findWay_62 rfl ?_
      refine g_aload_n dX4_findWay_64 rfl ?_
      refine g_getI fl_4_67 kd_14 rfl dX4_findWay_65 ?_
      refine g_iconst dX4_findWay_68 1 rfl (by decide) ?_
      refine g_isub dX4_findWay_69 ?_
      refine g_iload dX4_findWay_70 rfl ?_
      refine g_isub dX4_findWay_72 ?_
      refine g_iload_n dX4_findWay_73 rfl ?_
      refine g_cVi (st := []) (av := [vI l5, vI (w32 ((w32 ((σ 14 7) - 1)) - l6)), vI l3]) (kX4_nextTowards h) kd_14 rfl cw_RX4_70 (by decide) (by decide) (Nat.le_of_ble_eq_true rfl) rfl dX4_findWay_74 (fun y2 m1 h => ?_)
      refine g_istore (lv' := [(5, vI y2), (0, vR 14), (3, vI l3), (6, vI l6)]) dX4_findWay_77 (by decide) rfl ?_
      refine g_aload_n dX4_findWay_79 rfl ?_
      refine g_getR (r := 20) fl_4_27 kd_14 rfl dX4_findWay_80 ?_
      refine g_iload dX4_findWay_83 rfl ?_
      refine g_iload dX4_findWay_85 rfl ?_
      obtain ⟨hin, h⟩ := h
      refine g_iast kd_20 hin dX4_findWay_87 ?_
      refine g_nm (fun m3 em3 => ?_)
      replace h := h m3 em3
      refine g_iinc (lv' := [(6, vI (w32 (l6 + 1))), (5, vI y2), (0, vR 14), (3, vI l3)]) dX4_findWay_88 rfl (by decide) rfl ?_
      refine g_loc (a := w32 (l6 + 1)) (i := 6) (lv := [(5, vI y2), (0, vR 14), (3, vI l3)]) (fun x4 ex4 => ?_)
      replace h := h x4 ex4
      refine g_goto (tgt := 45) dX4_findWay_91 (by decide) ?_
      refine g_lv (lv' := [(0, vR 14), (3, vI l3), (5, vI y2), (6, vI x4)]) [2, 3, 1, 0] rfl ?_
      exact hK45 ((l3, y2, x4)) m3 h
theorem eX4_findWay_45 {E : TE} {Q : Int → Mem → Prop} (hR : RI E (some .boolean) Q) {l3 : Int} {l5 : Int} {l6 : Int} {σ : Mem} (h : wLX4_findWay_45 Q l3 l5 l6 σ) : GW E cX4_findWay 7 RX4 2 48 σ 45 [(0, vR 14), (3, vI l3), (5, vI l5), (6, vI l6)] [] := by
  obtain ⟨n, h⟩ := h
  exact lp_GW (P := fun (x : Int × Int × Int) (σ : Mem) => GW E cX4_findWay 7 RX4 2 48 σ 45 [(0, vR 14), (3, vI x.1), (5, vI x.2.1), (6, vI x.2.2)] []) (fun K hK x σ h  => bX4_findWay_45 hK hR h) n _ σ h 
set_option maxHeartbeats 1000000 in
theorem kX4_findWay {l1 : Int} {l2 : Int} {l3 : Int} {σ : Mem} {Q : Int → Mem → Prop} (h : wX4_findWay l1 l2 l3 σ Q) (l : Launch) (D : va_G) (cy : Nat → ClassId) (ad : Nat → Nat) : MI l yX4_findWay cX4_findWay 7 (some .boolean) 2 48 D cy ad [vR 14, vI l1, vI l2, vI l3] σ Q := by
  refine m_I (own := RX4) (lv := [(0, vR 14), (1, vI l1), (2, vI l2), (3, vI l3)]) (by decide +kernel) rfl (Nat.le_of_ble_eq_true rfl) rfl (fun E hR => ?_) l D cy ad
  unfold wX4_findWay at h
  refine g_aload_n dX4_findWay_0 rfl ?_
  refine g_iload_n dX4_findWay_1 rfl ?_
  refine g_iload_n dX4_findWay_2 rfl ?_
  refine g_cVv (st := []) (av := [vI l2, vI l3]) (kX4_measure h) kd_14 rfl cw_RX4_63 (by decide) (by decide) (Nat.le_of_ble_eq_true rfl) rfl dX4_findWay_3 (fun m1 h => ?_)
  refine g_aload_n dX4_findWay_6 rfl ?_
  refine g_getR (r := 18) fl_4_21 kd_14 rfl dX4_findWay_7 ?_
  refine g_iload_n dX4_findWay_10 rfl ?_
  refine g_bipush dX4_findWay_11 7 rfl (by decide) ?_
  refine g_iand dX4_findWay_13 ?_
  obtain ⟨hin, h⟩ := h
  refine g_iald kd_18 hin dX4_findWay_14 ?_
  refine g_topI (fun x2 ex2 => ?_)
  replace h := h x2 ex2
  refine g_istore (lv' := [(4, vI x2), (0, vR 14), (1, vI l1), (2, vI l2), (3, vI l3)]) dX4_findWay_15 (by decide) rfl ?_
  refine g_iload dX4_findWay_17 rfl ?_
  obtain ⟨hA, hB⟩ := h
  refine g_if_ge (tgt := 24) dX4_findWay_19 (by decide) (fun hc => ?_) (fun hc => ?_)
  · replace h := hA hc
    refine g_aload_n dX4_findWay_24 rfl ?_
    refine g_iload dX4_findWay_25 rfl ?_
    refine g_iconst dX4_findWay_27 1 rfl (by decide) ?_
    refine g_iadd dX4_findWay_28 ?_
    refine g_putI fp_4_67 kd_14 rfl dX4_findWay_29 ?_
    refine g_nm (fun m3 em3 => ?_)
    replace h := h m3 em3
    refine g_iload_n dX4_findWay_32 rfl ?_
    refine g_istore (lv' := [(5, vI l1), (4, vI x2), (0, vR 14), (1, vI l1), (2, vI l2), (3, vI l3)]) dX4_findWay_33 (by decide) rfl ?_
    refine g_aload_n dX4_findWay_35 rfl ?_
    refine g_getR (r := 20) fl_4_27 kd_14 rfl dX4_findWay_36 ?_
    refine g_iconst dX4_findWay_39 0 rfl (by decide) ?_
    refine g_iload_n dX4_findWay_40 rfl ?_
    refine g_iast kd_20 (by decide) dX4_findWay_41 ?_
    refine g_nm (fun m4 em4 => ?_)
    replace h := h m4 em4
    refine g_iconst dX4_findWay_42 1 rfl (by decide) ?_
    refine g_istore (lv' := [(6, vI 1), (5, vI l1), (4, vI x2), (0, vR 14), (1, vI l1), (2, vI l2), (3, vI l3)]) dX4_findWay_43 (by decide) rfl ?_
    refine g_lv (lv' := [(0, vR 14), (3, vI l3), (5, vI l1), (6, vI 1)]) [3, 6, 1, 0] rfl ?_
    exact eX4_findWay_45 hR h
  · replace h := hB hc
    refine g_iconst dX4_findWay_22 0 rfl (by decide) ?_
    exact g_zret hR dX4_findWay_23 (by decide) h
def wX4_leastSpace_5 (K5 : (Int × Int) → Mem → Prop) (Q : Int → Mem → Prop) (l1 : Int) (l2 : Int) (σ : Mem) : Prop := ((σ 14 7 ≤ l2 → Q l1 σ) ∧ (¬ σ 14 7 ≤ l2 → (wX4_wayMember (w32 (l2 - 1)) σ (fun y2 m1 => (wX4_wayMember l2 m1 (fun y4 m3 => (wX10_at y2 y4 m3 (fun y6 m5 => ((0 ≤ y6 ∧ y6 < 64) ∧ (∀ x7 : Int, x7 = min l1 (m5 15 y6.toNat) → (∀ x8 : Int, x8 = w32 (l2 + 1) → K5 (x7, x8) m5)))))))))))
def wLX4_leastSpace_5 (Q : Int → Mem → Prop) (l1 : Int) (l2 : Int) (σ : Mem) : Prop := ∃ n, lp (fun (K5 : (Int × Int) → Mem → Prop) (x : Int × Int) (σ : Mem) => wX4_leastSpace_5 K5 Q x.1 x.2 σ) n (l1, l2) σ
def wX4_leastSpace (σ : Mem) (Q : Int → Mem → Prop) : Prop := wLX4_leastSpace_5 Q 1000000 1 σ
set_option maxHeartbeats 1000000 in
theorem bX4_leastSpace_5 {E : TE} {K5 : (Int × Int) → Mem → Prop} (hK5 : ∀ (x : Int × Int) (σ : Mem), K5 x σ → GW E cX4_leastSpace 3 RX4 1 24 σ 5 [(0, vR 14), (1, vI x.1), (2, vI x.2)] []) {Q : Int → Mem → Prop} (hR : RI E (some .int) Q) {l1 : Int} {l2 : Int} {σ : Mem} (h : wX4_leastSpace_5 K5 Q l1 l2 σ) : GW E cX4_leastSpace 3 RX4 1 24 σ 5 [(0, vR 14), (1, vI l1), (2, vI l2)] [] := by
  unfold wX4_leastSpace_5 at h
  refine g_iload_n dX4_leastSpace_5 rfl ?_
  refine g_aload_n dX4_leastSpace_6 rfl ?_
  refine g_getI fl_4_67 kd_14 rfl dX4_leastSpace_7 ?_
  obtain ⟨hA, hB⟩ := h
  refine g_icmp_ge (tgt := 44) dX4_leastSpace_10 (by decide) (fun hc => ?_) (fun hc => ?_)
  · replace h := hA hc
    refine g_iload_n dX4_leastSpace_44 rfl ?_
    exact g_iret hR dX4_leastSpace_45 h
  · replace h := hB hc
    refine g_iload_n dX4_leastSpace_13 rfl ?_
    refine g_aload_n dX4_leastSpace_14 rfl ?_
    refine g_getR (r := 15) fl_4_9 kd_14 rfl dX4_leastSpace_15 ?_
    refine g_aload_n dX4_leastSpace_18 rfl ?_
    refine g_iload_n dX4_leastSpace_19 rfl ?_
    refine g_iconst dX4_leastSpace_20 1 rfl (by decide) ?_
    refine g_isub dX4_leastSpace_21 ?_
    refine g_cVi (st := [vR 15, vI l1]) (av := [vI (w32 (l2 - 1))]) (kX4_wayMember h) kd_14 rfl cw_RX4_75 (by decide) (by decide) (Nat.le_of_ble_eq_true rfl) rfl dX4_leastSpace_22 (fun y2 m1 h => ?_)
    refine g_aload_n dX4_leastSpace_25 rfl ?_
    refine g_iload_n dX4_leastSpace_26 rfl ?_
    refine g_cVi (st := [vI y2, vR 15, vI l1]) (av := [vI l2]) (kX4_wayMember h) kd_14 rfl cw_RX4_75 (by decide) (by decide) (Nat.le_of_ble_eq_true rfl) rfl dX4_leastSpace_27 (fun y4 m3 h => ?_)
    refine g_cNi (st := [vR 15, vI l1]) (av := [vI y2, vI y4]) (kX10_at h) cw_RX4_43 (by decide) (by decide) (Nat.le_of_ble_eq_true rfl) rfl dX4_leastSpace_30 (fun y6 m5 h => ?_)
    obtain ⟨hin, h⟩ := h
    refine g_iald kd_15 hin dX4_leastSpace_33 ?_
    refine g_mmin q_640 q_641 q_107 q_mmin (by decide) (Nat.le_of_ble_eq_true rfl) dX4_leastSpace_34 ?_
    refine g_topI (fun x7 ex7 => ?_)
    replace h := h x7 ex7
    refine g_istore_n (lv' := [(1, vI x7), (0, vR 14), (2, vI l2)]) dX4_leastSpace_37 (by decide) rfl ?_
    refine g_iinc (lv' := [(2, vI (w32 (l2 + 1))), (1, vI x7), (0, vR 14)]) dX4_leastSpace_38 rfl (by decide) rfl ?_
    refine g_loc (a := w32 (l2 + 1)) (i := 2) (lv := [(1, vI x7), (0, vR 14)]) (fun x8 ex8 => ?_)
    replace h := h x8 ex8
    refine g_goto (tgt := 5) dX4_leastSpace_41 (by decide) ?_
    refine g_lv (lv' := [(0, vR 14), (1, vI x7), (2, vI x8)]) [2, 1, 0] rfl ?_
    exact hK5 ((x7, x8)) m5 h
theorem eX4_leastSpace_5 {E : TE} {Q : Int → Mem → Prop} (hR : RI E (some .int) Q) {l1 : Int} {l2 : Int} {σ : Mem} (h : wLX4_leastSpace_5 Q l1 l2 σ) : GW E cX4_leastSpace 3 RX4 1 24 σ 5 [(0, vR 14), (1, vI l1), (2, vI l2)] [] := by
  obtain ⟨n, h⟩ := h
  exact lp_GW (P := fun (x : Int × Int) (σ : Mem) => GW E cX4_leastSpace 3 RX4 1 24 σ 5 [(0, vR 14), (1, vI x.1), (2, vI x.2)] []) (fun K hK x σ h  => bX4_leastSpace_5 hK hR h) n _ σ h 
set_option maxHeartbeats 1000000 in
theorem kX4_leastSpace {σ : Mem} {Q : Int → Mem → Prop} (h : wX4_leastSpace σ Q) (l : Launch) (D : va_G) (cy : Nat → ClassId) (ad : Nat → Nat) : MI l yX4_leastSpace cX4_leastSpace 3 (some .int) 1 24 D cy ad [vR 14] σ Q := by
  refine m_I (own := RX4) (lv := [(0, vR 14)]) (by decide +kernel) rfl (Nat.le_of_ble_eq_true rfl) rfl (fun E hR => ?_) l D cy ad
  unfold wX4_leastSpace at h
  refine g_ldc dX4_leastSpace_0 1000000 q_638 (by decide) ?_
  refine g_istore_n (lv' := [(1, vI 1000000), (0, vR 14)]) dX4_leastSpace_2 (by decide) rfl ?_
  refine g_iconst dX4_leastSpace_3 1 rfl (by decide) ?_
  refine g_istore_n (lv' := [(2, vI 1), (1, vI 1000000), (0, vR 14)]) dX4_leastSpace_4 (by decide) rfl ?_
  refine g_lv (lv' := [(0, vR 14), (1, vI 1000000), (2, vI 1)]) [2, 1, 0] rfl ?_
  exact eX4_leastSpace_5 hR h
def wX4_pushAlong_2 (K2 : (Int × Int) → Mem → Prop) (Q : Mem → Prop) (l1 : Int) (l2 : Int) (σ : Mem) : Prop := ((σ 14 7 ≤ l2 → Q σ) ∧ (¬ σ 14 7 ≤ l2 → (wX4_wayMember (w32 (l2 - 1)) σ (fun y2 m1 => (wX4_wayMember l2 m1 (fun y4 m3 => (wX10_at y2 y4 m3 (fun y6 m5 => ((0 ≤ y6 ∧ y6 < 64) ∧ ((0 ≤ y6 ∧ y6 < 64) ∧ (∀ m7 : Mem, m7 = up2 m5 15 y6.toNat (w32 ((m5 15 y6.toNat) - l1)) → (wX10_at y4 y2 m7 (fun y9 m8 => ((0 ≤ y9 ∧ y9 < 64) ∧ ((0 ≤ y9 ∧ y9 < 64) ∧ (∀ m10 : Mem, m10 = up2 m8 15 y9.toNat (w32 ((m8 15 y9.toNat) + l1)) → (∀ x11 : Int, x11 = w32 (l2 + 1) → K2 (l1, x11) m10)))))))))))))))))
def wLX4_pushAlong_2 (Q : Mem → Prop) (l1 : Int) (l2 : Int) (σ : Mem) : Prop := ∃ n, lp (fun (K2 : (Int × Int) → Mem → Prop) (x : Int × Int) (σ : Mem) => wX4_pushAlong_2 K2 Q x.1 x.2 σ) n (l1, l2) σ
def wX4_pushAlong (l1 : Int) (σ : Mem) (Q : Mem → Prop) : Prop := wLX4_pushAlong_2 Q l1 1 σ
set_option maxHeartbeats 1000000 in
theorem bX4_pushAlong_2 {E : TE} {K2 : (Int × Int) → Mem → Prop} (hK2 : ∀ (x : Int × Int) (σ : Mem), K2 x σ → GW E cX4_pushAlong 5 RX4 1 21 σ 2 [(0, vR 14), (1, vI x.1), (2, vI x.2)] []) {Q : Mem → Prop} (hR : RV E none Q) {l1 : Int} {l2 : Int} {σ : Mem} (h : wX4_pushAlong_2 K2 Q l1 l2 σ) : GW E cX4_pushAlong 5 RX4 1 21 σ 2 [(0, vR 14), (1, vI l1), (2, vI l2)] [] := by
  unfold wX4_pushAlong_2 at h
  refine g_iload_n dX4_pushAlong_2 rfl ?_
  refine g_aload_n dX4_pushAlong_3 rfl ?_
  refine g_getI fl_4_67 kd_14 rfl dX4_pushAlong_4 ?_
  obtain ⟨hA, hB⟩ := h
  refine g_icmp_ge (tgt := 61) dX4_pushAlong_7 (by decide) (fun hc => ?_) (fun hc => ?_)
  · replace h := hA hc
    exact g_vret hR dX4_pushAlong_61 h
  · replace h := hB hc
    refine g_aload_n dX4_pushAlong_10 rfl ?_
    refine g_iload_n dX4_pushAlong_11 rfl ?_
    refine g_iconst dX4_pushAlong_12 1 rfl (by decide) ?_
    refine g_isub dX4_pushAlong_13 ?_
    refine g_cVi (st := []) (av := [vI (w32 (l2 - 1))]) (kX4_wayMember h) kd_14 rfl cw_RX4_75 (by decide) (by decide) (Nat.le_of_ble_eq_true rfl) rfl dX4_pushAlong_14 (fun y2 m1 h => ?_)
    refine g_istore_n (lv' := [(3, vI y2), (0, vR 14), (1, vI l1), (2, vI l2)]) dX4_pushAlong_17 (by decide) rfl ?_
    refine g_aload_n dX4_pushAlong_18 rfl ?_
    refine g_iload_n dX4_pushAlong_19 rfl ?_
    refine g_cVi (st := []) (av := [vI l2]) (kX4_wayMember h) kd_14 rfl cw_RX4_75 (by decide) (by decide) (Nat.le_of_ble_eq_true rfl) rfl dX4_pushAlong_20 (fun y4 m3 h => ?_)
    refine g_istore (lv' := [(4, vI y4), (3, vI y2), (0, vR 14), (1, vI l1), (2, vI l2)]) dX4_pushAlong_23 (by decide) rfl ?_
    refine g_aload_n dX4_pushAlong_25 rfl ?_
    refine g_getR (r := 15) fl_4_9 kd_14 rfl dX4_pushAlong_26 ?_
    refine g_iload_n dX4_pushAlong_29 rfl ?_
    refine g_iload dX4_pushAlong_30 rfl ?_
    refine g_cNi (st := [vR 15]) (av := [vI y2, vI y4]) (kX10_at h) cw_RX4_43 (by decide) (by decide) (Nat.le_of_ble_eq_true rfl) rfl dX4_pushAlong_32 (fun y6 m5 h => ?_)
    refine g_dup2 dX4_pushAlong_35 rfl rfl ?_
    obtain ⟨hin, h⟩ := h
    refine g_iald kd_15 hin dX4_pushAlong_36 ?_
    refine g_iload_n dX4_pushAlong_37 rfl ?_
    refine g_isub dX4_pushAlong_38 ?_
    obtain ⟨hin, h⟩ := h
    refine g_iast kd_15 hin dX4_pushAlong_39 ?_
    refine g_nm (fun m7 em7 => ?_)
    replace h := h m7 em7
    refine g_aload_n dX4_pushAlong_40 rfl ?_
    refine g_getR (r := 15) fl_4_9 kd_14 rfl dX4_pushAlong_41 ?_
    refine g_iload dX4_pushAlong_44 rfl ?_
    refine g_iload_n dX4_pushAlong_46 rfl ?_
    refine g_cNi (st := [vR 15]) (av := [vI y4, vI y2]) (kX10_at h) cw_RX4_43 (by decide) (by decide) (Nat.le_of_ble_eq_true rfl) rfl dX4_pushAlong_47 (fun y9 m8 h => ?_)
    refine g_dup2 dX4_pushAlong_50 rfl rfl ?_
    obtain ⟨hin, h⟩ := h
    refine g_iald kd_15 hin dX4_pushAlong_51 ?_
    refine g_iload_n dX4_pushAlong_52 rfl ?_
    refine g_iadd dX4_pushAlong_53 ?_
    obtain ⟨hin, h⟩ := h
    refine g_iast kd_15 hin dX4_pushAlong_54 ?_
    refine g_nm (fun m10 em10 => ?_)
    replace h := h m10 em10
    refine g_iinc (lv' := [(2, vI (w32 (l2 + 1))), (4, vI y4), (3, vI y2), (0, vR 14), (1, vI l1)]) dX4_pushAlong_55 rfl (by decide) rfl ?_
    refine g_loc (a := w32 (l2 + 1)) (i := 2) (lv := [(4, vI y4), (3, vI y2), (0, vR 14), (1, vI l1)]) (fun x11 ex11 => ?_)
    replace h := h x11 ex11
    refine g_goto (tgt := 2) dX4_pushAlong_58 (by decide) ?_
    refine g_lv (lv' := [(0, vR 14), (1, vI l1), (2, vI x11)]) [3, 4, 0] rfl ?_
    exact hK2 ((l1, x11)) m10 h
theorem eX4_pushAlong_2 {E : TE} {Q : Mem → Prop} (hR : RV E none Q) {l1 : Int} {l2 : Int} {σ : Mem} (h : wLX4_pushAlong_2 Q l1 l2 σ) : GW E cX4_pushAlong 5 RX4 1 21 σ 2 [(0, vR 14), (1, vI l1), (2, vI l2)] [] := by
  obtain ⟨n, h⟩ := h
  exact lp_GW (P := fun (x : Int × Int) (σ : Mem) => GW E cX4_pushAlong 5 RX4 1 21 σ 2 [(0, vR 14), (1, vI x.1), (2, vI x.2)] []) (fun K hK x σ h  => bX4_pushAlong_2 hK hR h) n _ σ h 
set_option maxHeartbeats 1000000 in
theorem kX4_pushAlong {l1 : Int} {σ : Mem} {Q : Mem → Prop} (h : wX4_pushAlong l1 σ Q) (l : Launch) (D : va_G) (cy : Nat → ClassId) (ad : Nat → Nat) : MV l yX4_pushAlong cX4_pushAlong 5 none 1 21 D cy ad [vR 14, vI l1] σ Q := by
  refine m_V (own := RX4) (lv := [(0, vR 14), (1, vI l1)]) (by decide +kernel) rfl (Nat.le_of_ble_eq_true rfl) rfl (fun E hR => ?_) l D cy ad
  unfold wX4_pushAlong at h
  refine g_iconst dX4_pushAlong_0 1 rfl (by decide) ?_
  refine g_istore_n (lv' := [(2, vI 1), (0, vR 14), (1, vI l1)]) dX4_pushAlong_1 (by decide) rfl ?_
  refine g_lv (lv' := [(0, vR 14), (1, vI l1), (2, vI 1)]) [1, 2, 0] rfl ?_
  exact eX4_pushAlong_2 hR h
def wX4_send_94 (Q : Int → Mem → Prop) (l3 : Int) (l4 : Int) (σ : Mem) : Prop := Q (w32 (l3 - l4)) σ
def wX4_send_8 (K8 : (Int × Int × Int × Int) → Mem → Prop) (Q : Int → Mem → Prop) (l1 : Int) (l2 : Int) (l3 : Int) (l4 : Int) (σ : Mem) : Prop := ((256 ≤ σ 14 10 → wX4_send_94 Q l3 l4 σ) ∧ (¬ 256 ≤ σ 14 10 → ((l4 ≤ 0 → wX4_send_94 Q l3 l4 σ) ∧ (¬ l4 ≤ 0 → (wX4_findWay l1 l2 1 σ (fun y2 m1 => ((y2 = 0 → wX4_send_94 Q l3 l4 m1) ∧ (¬ y2 = 0 → (wX4_leastSpace  m1 (fun y4 m3 => (∀ x5 : Int, x5 = min l4 y4 → (wX4_pushAlong x5 m3 (fun m6 => ((0 ≤ m6 14 10 ∧ m6 14 10 < 256) ∧ (∀ m7 : Mem, m7 = up2 m6 21 (m6 14 10).toNat (m6 14 7) → ((0 ≤ m7 14 10 ∧ m7 14 10 < 256) ∧ (∀ m8 : Mem, m8 = up2 m7 22 (m7 14 10).toNat x5 → (∀ m9 : Mem, m9 = up2 m8 14 10 (w32 ((m8 14 10) + 1)) → (∀ x10 : Int, x10 = w32 (l4 - x5) → K8 (l1, l2, l3, x10) m9)))))))))))))))))))
def wLX4_send_8 (Q : Int → Mem → Prop) (l1 : Int) (l2 : Int) (l3 : Int) (l4 : Int) (σ : Mem) : Prop := ∃ n, lp (fun (K8 : (Int × Int × Int × Int) → Mem → Prop) (x : Int × Int × Int × Int) (σ : Mem) => wX4_send_8 K8 Q x.1 x.2.1 x.2.2.1 x.2.2.2 σ) n (l1, l2, l3, l4) σ
def wX4_send (l1 : Int) (l2 : Int) (l3 : Int) (σ : Mem) (Q : Int → Mem → Prop) : Prop := (∀ m1 : Mem, m1 = up2 σ 14 10 0 → wLX4_send_8 Q l1 l2 l3 l3 m1)
set_option maxHeartbeats 1000000 in
theorem bX4_send_94 {E : TE} {Q : Int → Mem → Prop} (hR : RI E (some .int) Q) {l3 : Int} {l4 : Int} {σ : Mem} (h : wX4_send_94 Q l3 l4 σ) : GW E cX4_send 6 RX4 3 74 σ 94 [(3, vI l3), (4, vI l4)] [] := by
  unfold wX4_send_94 at h
  refine g_iload_n dX4_send_94 rfl ?_
  refine g_iload dX4_send_95 rfl ?_
  refine g_isub dX4_send_97 ?_
  exact g_iret hR dX4_send_98 h
set_option maxHeartbeats 1000000 in
theorem bX4_send_8 {E : TE} {K8 : (Int × Int × Int × Int) → Mem → Prop} (hK8 : ∀ (x : Int × Int × Int × Int) (σ : Mem), K8 x σ → GW E cX4_send 6 RX4 3 74 σ 8 [(0, vR 14), (1, vI x.1), (2, vI x.2.1), (3, vI x.2.2.1), (4, vI x.2.2.2)] []) {Q : Int → Mem → Prop} (hR : RI E (some .int) Q) {l1 : Int} {l2 : Int} {l3 : Int} {l4 : Int} {σ : Mem} (h : wX4_send_8 K8 Q l1 l2 l3 l4 σ) : GW E cX4_send 6 RX4 3 74 σ 8 [(0, vR 14), (1, vI l1), (2, vI l2), (3, vI l3), (4, vI l4)] [] := by
  unfold wX4_send_8 at h
  refine g_aload_n dX4_send_8 rfl ?_
  refine g_getI fl_4_84 kd_14 rfl dX4_send_9 ?_
  refine g_sipush dX4_send_12 256 rfl (by decide) ?_
  obtain ⟨hA, hB⟩ := h
  refine g_icmp_ge (tgt := 94) dX4_send_15 (by decide) (fun hc => ?_) (fun hc => ?_)
  · replace h := hA hc
    refine g_lv (lv' := [(3, vI l3), (4, vI l4)]) [3, 4] rfl ?_
    exact bX4_send_94 hR h
  · replace h := hB hc
    refine g_iload dX4_send_18 rfl ?_
    obtain ⟨hA, hB⟩ := h
    refine g_if_le (tgt := 94) dX4_send_20 (by decide) (fun hc => ?_) (fun hc => ?_)
    · replace h := hA hc
      refine g_lv (lv' := [(3, vI l3), (4, vI l4)]) [3, 4] rfl ?_
      exact bX4_send_94 hR h
    · replace h := hB hc
      refine g_aload_n dX4_send_23 rfl ?_
      refine g_iload_n dX4_send_24 rfl ?_
      refine g_iload_n dX4_send_25 rfl ?_
      refine g_iconst dX4_send_26 1 rfl (by decide) ?_
      refine g_cVi (st := []) (av := [vI l1, vI l2, vI 1]) (kX4_findWay h) kd_14 rfl cw_RX4_87 (by decide) (by decide) (Nat.le_of_ble_eq_true rfl) rfl dX4_send_27 (fun y2 m1 h => ?_)
      obtain ⟨hA, hB⟩ := h
      refine g_if_eq (tgt := 94) dX4_send_30 (by decide) (fun hc => ?_) (fun hc => ?_)
      · replace h := hA hc
        refine g_lv (lv' := [(3, vI l3), (4, vI l4)]) [3, 4] rfl ?_
        exact bX4_send_94 hR h
      · replace h := hB hc
        refine g_iload dX4_send_33 rfl ?_
        refine g_aload_n dX4_send_35 rfl ?_
        refine g_cVi (st := [vI l4]) (av := []) (kX4_leastSpace h) kd_14 rfl cw_RX4_91 (by decide) (by decide) (Nat.le_of_ble_eq_true rfl) rfl dX4_send_36 (fun y4 m3 h => ?_)
        refine g_mmin q_640 q_641 q_107 q_mmin (by decide) (Nat.le_of_ble_eq_true rfl) dX4_send_39 ?_
        refine g_topI (fun x5 ex5 => ?_)
        replace h := h x5 ex5
        refine g_istore (lv' := [(5, vI x5), (0, vR 14), (1, vI l1), (2, vI l2), (3, vI l3), (4, vI l4)]) dX4_send_42 (by decide) rfl ?_
        refine g_aload_n dX4_send_44 rfl ?_
        refine g_iload dX4_send_45 rfl ?_
        refine g_cVv (st := []) (av := [vI x5]) (kX4_pushAlong h) kd_14 rfl cw_RX4_95 (by decide) (by decide) (Nat.le_of_ble_eq_true rfl) rfl dX4_send_47 (fun m6 h => ?_)
        refine g_aload_n dX4_send_50 rfl ?_
        refine g_getR (r := 21) fl_4_30 kd_14 rfl dX4_send_51 ?_
        refine g_aload_n dX4_send_54 rfl ?_
        refine g_getI fl_4_84 kd_14 rfl dX4_send_55 ?_
        refine g_aload_n dX4_send_58 rfl ?_
        refine g_getI fl_4_67 kd_14 rfl dX4_send_59 ?_
        obtain ⟨hin, h⟩ := h
        refine g_iast kd_21 hin dX4_send_62 ?_
        refine g_nm (fun m7 em7 => ?_)
        replace h := h m7 em7
        refine g_aload_n dX4_send_63 rfl ?_
        refine g_getR (r := 22) fl_4_33 kd_14 rfl dX4_send_64 ?_
        refine g_aload_n dX4_send_67 rfl ?_
        refine g_getI fl_4_84 kd_14 rfl dX4_send_68 ?_
        refine g_iload dX4_send_71 rfl ?_
        obtain ⟨hin, h⟩ := h
        refine g_iast kd_22 hin dX4_send_73 ?_
        refine g_nm (fun m8 em8 => ?_)
        replace h := h m8 em8
        refine g_aload_n dX4_send_74 rfl ?_
        refine g_dup dX4_send_75 rfl ?_
        refine g_getI fl_4_84 kd_14 rfl dX4_send_76 ?_
        refine g_iconst dX4_send_79 1 rfl (by decide) ?_
        refine g_iadd dX4_send_80 ?_
        refine g_putI fp_4_84 kd_14 rfl dX4_send_81 ?_
        refine g_nm (fun m9 em9 => ?_)
        replace h := h m9 em9
        refine g_iload dX4_send_84 rfl ?_
        refine g_iload dX4_send_86 rfl ?_
        refine g_isub dX4_send_88 ?_
        refine g_topI (fun x10 ex10 => ?_)
        replace h := h x10 ex10
        refine g_istore (lv' := [(4, vI x10), (5, vI x5), (0, vR 14), (1, vI l1), (2, vI l2), (3, vI l3)]) dX4_send_89 (by decide) rfl ?_
        refine g_goto (tgt := 8) dX4_send_91 (by decide) ?_
        refine g_lv (lv' := [(0, vR 14), (1, vI l1), (2, vI l2), (3, vI l3), (4, vI x10)]) [2, 3, 4, 5, 0] rfl ?_
        exact hK8 ((l1, l2, l3, x10)) m9 h
theorem eX4_send_8 {E : TE} {Q : Int → Mem → Prop} (hR : RI E (some .int) Q) {l1 : Int} {l2 : Int} {l3 : Int} {l4 : Int} {σ : Mem} (h : wLX4_send_8 Q l1 l2 l3 l4 σ) : GW E cX4_send 6 RX4 3 74 σ 8 [(0, vR 14), (1, vI l1), (2, vI l2), (3, vI l3), (4, vI l4)] [] := by
  obtain ⟨n, h⟩ := h
  exact lp_GW (P := fun (x : Int × Int × Int × Int) (σ : Mem) => GW E cX4_send 6 RX4 3 74 σ 8 [(0, vR 14), (1, vI x.1), (2, vI x.2.1), (3, vI x.2.2.1), (4, vI x.2.2.2)] []) (fun K hK x σ h  => bX4_send_8 hK hR h) n _ σ h 
set_option maxHeartbeats 1000000 in
theorem kX4_send {l1 : Int} {l2 : Int} {l3 : Int} {σ : Mem} {Q : Int → Mem → Prop} (h : wX4_send l1 l2 l3 σ Q) (l : Launch) (D : va_G) (cy : Nat → ClassId) (ad : Nat → Nat) : MI l yX4_send cX4_send 6 (some .int) 3 74 D cy ad [vR 14, vI l1, vI l2, vI l3] σ Q := by
  refine m_I (own := RX4) (lv := [(0, vR 14), (1, vI l1), (2, vI l2), (3, vI l3)]) (by decide +kernel) rfl (Nat.le_of_ble_eq_true rfl) rfl (fun E hR => ?_) l D cy ad
  unfold wX4_send at h
  refine g_aload_n dX4_send_0 rfl ?_
  refine g_iconst dX4_send_1 0 rfl (by decide) ?_
  refine g_putI fp_4_84 kd_14 rfl dX4_send_2 ?_
  refine g_nm (fun m1 em1 => ?_)
  replace h := h m1 em1
  refine g_iload_n dX4_send_5 rfl ?_
  refine g_istore (lv' := [(4, vI l3), (0, vR 14), (1, vI l1), (2, vI l2), (3, vI l3)]) dX4_send_6 (by decide) rfl ?_
  refine g_lv (lv' := [(0, vR 14), (1, vI l1), (2, vI l2), (3, vI l3), (4, vI l3)]) [1, 2, 3, 4, 0] rfl ?_
  exact eX4_send_8 hR h
def wX4_payAll (l1 : Int) (l2 : Int) (l3 : Int) (σ : Mem) (Q : Int → Mem → Prop) : Prop := (∀ m1 : Mem, m1 = upA σ 17 (acp (σ 15) (σ 17) 0 0 64) → (wX4_send l1 l2 l3 m1 (fun y3 m2 => ((¬ y3 = l3 → (∀ m4 : Mem, m4 = upA m2 15 (acp (m2 17) (m2 15) 0 0 64) → Q 0 m4)) ∧ (y3 = l3 → Q 1 m2)))))
set_option maxHeartbeats 1000000 in
theorem kX4_payAll {l1 : Int} {l2 : Int} {l3 : Int} {σ : Mem} {Q : Int → Mem → Prop} (h : wX4_payAll l1 l2 l3 σ Q) (l : Launch) (D : va_G) (cy : Nat → ClassId) (ad : Nat → Nat) : MI l yX4_payAll cX4_payAll 4 (some .boolean) 4 99 D cy ad [vR 14, vI l1, vI l2, vI l3] σ Q := by
  refine m_I (own := RX4) (lv := [(0, vR 14), (1, vI l1), (2, vI l2), (3, vI l3)]) (by decide +kernel) rfl (Nat.le_of_ble_eq_true rfl) rfl (fun E hR => ?_) l D cy ad
  unfold wX4_payAll at h
  refine g_aload_n dX4_payAll_0 rfl ?_
  refine g_getR (r := 15) fl_4_9 kd_14 rfl dX4_payAll_1 ?_
  refine g_iconst dX4_payAll_4 0 rfl (by decide) ?_
  refine g_aload_n dX4_payAll_5 rfl ?_
  refine g_getR (r := 17) fl_4_18 kd_14 rfl dX4_payAll_6 ?_
  refine g_iconst dX4_payAll_9 0 rfl (by decide) ?_
  refine g_bipush dX4_payAll_10 64 rfl (by decide) ?_
  refine g_acopy q_586 q_480 q_479 q_106 kd_15 kd_17 (by decide) (by decide) (Nat.le_of_ble_eq_true rfl) dX4_payAll_12 ?_
  refine g_nm (fun m1 em1 => ?_)
  replace h := h m1 em1
  refine g_aload_n dX4_payAll_15 rfl ?_
  refine g_iload_n dX4_payAll_16 rfl ?_
  refine g_iload_n dX4_payAll_17 rfl ?_
  refine g_iload_n dX4_payAll_18 rfl ?_
  refine g_cVi (st := []) (av := [vI l1, vI l2, vI l3]) (kX4_send h) kd_14 rfl cw_RX4_99 (by decide) (by decide) (Nat.le_of_ble_eq_true rfl) rfl dX4_payAll_19 (fun y3 m2 h => ?_)
  refine g_iload_n dX4_payAll_22 rfl ?_
  obtain ⟨hA, hB⟩ := h
  refine g_icmp_ne (tgt := 28) dX4_payAll_23 (by decide) (fun hc => ?_) (fun hc => ?_)
  · replace h := hA hc
    refine g_aload_n dX4_payAll_28 rfl ?_
    refine g_getR (r := 17) fl_4_18 kd_14 rfl dX4_payAll_29 ?_
    refine g_iconst dX4_payAll_32 0 rfl (by decide) ?_
    refine g_aload_n dX4_payAll_33 rfl ?_
    refine g_getR (r := 15) fl_4_9 kd_14 rfl dX4_payAll_34 ?_
    refine g_iconst dX4_payAll_37 0 rfl (by decide) ?_
    refine g_bipush dX4_payAll_38 64 rfl (by decide) ?_
    refine g_acopy q_586 q_480 q_479 q_106 kd_17 kd_15 (by decide) (by decide) (Nat.le_of_ble_eq_true rfl) dX4_payAll_40 ?_
    refine g_nm (fun m4 em4 => ?_)
    replace h := h m4 em4
    refine g_iconst dX4_payAll_43 0 rfl (by decide) ?_
    exact g_zret hR dX4_payAll_44 (by decide) h
  · replace h := hB hc
    refine g_iconst dX4_payAll_26 1 rfl (by decide) ?_
    exact g_zret hR dX4_payAll_27 (by decide) h
def wX4_longestPart_4 (K4 : (Int × Int) → Mem → Prop) (Q : Int → Mem → Prop) (l1 : Int) (l2 : Int) (σ : Mem) : Prop := ((σ 14 10 ≤ l2 → Q l1 σ) ∧ (¬ σ 14 10 ≤ l2 → ((0 ≤ l2 ∧ l2 < 256) ∧ (∀ x1 : Int, x1 = max l1 (σ 21 l2.toNat) → (∀ x2 : Int, x2 = w32 (l2 + 1) → K4 (x1, x2) σ)))))
def wLX4_longestPart_4 (Q : Int → Mem → Prop) (l1 : Int) (l2 : Int) (σ : Mem) : Prop := ∃ n, lp (fun (K4 : (Int × Int) → Mem → Prop) (x : Int × Int) (σ : Mem) => wX4_longestPart_4 K4 Q x.1 x.2 σ) n (l1, l2) σ
def wX4_longestPart (σ : Mem) (Q : Int → Mem → Prop) : Prop := wLX4_longestPart_4 Q 0 0 σ
set_option maxHeartbeats 1000000 in
theorem bX4_longestPart_4 {E : TE} {K4 : (Int × Int) → Mem → Prop} (hK4 : ∀ (x : Int × Int) (σ : Mem), K4 x σ → GW E cX4_longestPart 3 RX4 1 24 σ 4 [(0, vR 14), (1, vI x.1), (2, vI x.2)] []) {Q : Int → Mem → Prop} (hR : RI E (some .int) Q) {l1 : Int} {l2 : Int} {σ : Mem} (h : wX4_longestPart_4 K4 Q l1 l2 σ) : GW E cX4_longestPart 3 RX4 1 24 σ 4 [(0, vR 14), (1, vI l1), (2, vI l2)] [] := by
  unfold wX4_longestPart_4 at h
  refine g_iload_n dX4_longestPart_4 rfl ?_
  refine g_aload_n dX4_longestPart_5 rfl ?_
  refine g_getI fl_4_84 kd_14 rfl dX4_longestPart_6 ?_
  obtain ⟨hA, hB⟩ := h
  refine g_icmp_ge (tgt := 29) dX4_longestPart_9 (by decide) (fun hc => ?_) (fun hc => ?_)
  · replace h := hA hc
    refine g_iload_n dX4_longestPart_29 rfl ?_
    exact g_iret hR dX4_longestPart_30 h
  · replace h := hB hc
    refine g_iload_n dX4_longestPart_12 rfl ?_
    refine g_aload_n dX4_longestPart_13 rfl ?_
    refine g_getR (r := 21) fl_4_30 kd_14 rfl dX4_longestPart_14 ?_
    refine g_iload_n dX4_longestPart_17 rfl ?_
    obtain ⟨hin, h⟩ := h
    refine g_iald kd_21 hin dX4_longestPart_18 ?_
    refine g_mmax q_651 q_519 q_107 q_mmax (by decide) (Nat.le_of_ble_eq_true rfl) dX4_longestPart_19 ?_
    refine g_topI (fun x1 ex1 => ?_)
    replace h := h x1 ex1
    refine g_istore_n (lv' := [(1, vI x1), (0, vR 14), (2, vI l2)]) dX4_longestPart_22 (by decide) rfl ?_
    refine g_iinc (lv' := [(2, vI (w32 (l2 + 1))), (1, vI x1), (0, vR 14)]) dX4_longestPart_23 rfl (by decide) rfl ?_
    refine g_loc (a := w32 (l2 + 1)) (i := 2) (lv := [(1, vI x1), (0, vR 14)]) (fun x2 ex2 => ?_)
    replace h := h x2 ex2
    refine g_goto (tgt := 4) dX4_longestPart_26 (by decide) ?_
    refine g_lv (lv' := [(0, vR 14), (1, vI x1), (2, vI x2)]) [2, 1, 0] rfl ?_
    exact hK4 ((x1, x2)) σ h
theorem eX4_longestPart_4 {E : TE} {Q : Int → Mem → Prop} (hR : RI E (some .int) Q) {l1 : Int} {l2 : Int} {σ : Mem} (h : wLX4_longestPart_4 Q l1 l2 σ) : GW E cX4_longestPart 3 RX4 1 24 σ 4 [(0, vR 14), (1, vI l1), (2, vI l2)] [] := by
  obtain ⟨n, h⟩ := h
  exact lp_GW (P := fun (x : Int × Int) (σ : Mem) => GW E cX4_longestPart 3 RX4 1 24 σ 4 [(0, vR 14), (1, vI x.1), (2, vI x.2)] []) (fun K hK x σ h  => bX4_longestPart_4 hK hR h) n _ σ h 
set_option maxHeartbeats 1000000 in
theorem kX4_longestPart {σ : Mem} {Q : Int → Mem → Prop} (h : wX4_longestPart σ Q) (l : Launch) (D : va_G) (cy : Nat → ClassId) (ad : Nat → Nat) : MI l yX4_longestPart cX4_longestPart 3 (some .int) 1 24 D cy ad [vR 14] σ Q := by
  refine m_I (own := RX4) (lv := [(0, vR 14)]) (by decide +kernel) rfl (Nat.le_of_ble_eq_true rfl) rfl (fun E hR => ?_) l D cy ad
  unfold wX4_longestPart at h
  refine g_iconst dX4_longestPart_0 0 rfl (by decide) ?_
  refine g_istore_n (lv' := [(1, vI 0), (0, vR 14)]) dX4_longestPart_1 (by decide) rfl ?_
  refine g_iconst dX4_longestPart_2 0 rfl (by decide) ?_
  refine g_istore_n (lv' := [(2, vI 0), (1, vI 0), (0, vR 14)]) dX4_longestPart_3 (by decide) rfl ?_
  refine g_lv (lv' := [(0, vR 14), (1, vI 0), (2, vI 0)]) [2, 1, 0] rfl ?_
  exact eX4_longestPart_4 hR h
def wX4_reached_46 (K17 : (Int × Int × Int × Int) → Mem → Prop) (K46 : (Int × Int × Int × Int × Int × Int) → Mem → Prop) (Q : Int → Mem → Prop) (l2 : Int) (l3 : Int) (l4 : Int) (l5 : Int) (l6 : Int) (l7 : Int) (σ : Mem) : Prop := ((σ 14 0 ≤ l7 → (∀ x1 : Int, x1 = w32 (l5 + 1) → K17 (l2, l3, l4, x1) σ)) ∧ (¬ σ 14 0 ≤ l7 → ((8 ≤ l4 → (∀ x2 : Int, x2 = w32 (l5 + 1) → K17 (l2, l3, l4, x2) σ)) ∧ (¬ 8 ≤ l4 → ((¬ band (bshr l3 l7) 1 = 0 → (∀ x3 : Int, x3 = w32 (l7 + 1) → K46 (l2, l3, l4, l5, l6, x3) σ)) ∧ (band (bshr l3 l7) 1 = 0 → (wX10_at l6 l7 σ (fun y5 m4 => ((0 ≤ y5 ∧ y5 < 64) ∧ ((m4 15 y5.toNat < l2 → (∀ x6 : Int, x6 = w32 (l7 + 1) → K46 (l2, l3, l4, l5, l6, x6) m4)) ∧ (¬ m4 15 y5.toNat < l2 → (∀ x7 : Int, x7 = bor l3 (bshl 1 l7) → ((0 ≤ l4 ∧ l4 < 8) ∧ (∀ m8 : Mem, m8 = up2 m4 19 l4.toNat l7 → (∀ x9 : Int, x9 = w32 (l4 + 1) → (∀ x10 : Int, x10 = w32 (l7 + 1) → K46 (l2, x7, x9, l5, l6, x10) m8))))))))))))))))
def wLX4_reached_46 (K17 : (Int × Int × Int × Int) → Mem → Prop) (Q : Int → Mem → Prop) (l2 : Int) (l3 : Int) (l4 : Int) (l5 : Int) (l6 : Int) (l7 : Int) (σ : Mem) : Prop := ∃ n, lp (fun (K46 : (Int × Int × Int × Int × Int × Int) → Mem → Prop) (x : Int × Int × Int × Int × Int × Int) (σ : Mem) => wX4_reached_46 K17 K46 Q x.1 x.2.1 x.2.2.1 x.2.2.2.1 x.2.2.2.2.1 x.2.2.2.2.2 σ) n (l2, l3, l4, l5, l6, l7) σ
def wX4_reached_17 (K17 : (Int × Int × Int × Int) → Mem → Prop) (Q : Int → Mem → Prop) (l2 : Int) (l3 : Int) (l4 : Int) (l5 : Int) (σ : Mem) : Prop := ((l4 ≤ l5 → Q l3 σ) ∧ (¬ l4 ≤ l5 → ((8 ≤ l5 → Q l3 σ) ∧ (¬ 8 ≤ l5 → ((0 ≤ band l5 7 ∧ band l5 7 < 8) ∧ (∀ x1 : Int, x1 = σ 19 (band l5 7).toNat → wLX4_reached_46 K17 Q l2 l3 l4 l5 x1 0 σ))))))
def wLX4_reached_17 (Q : Int → Mem → Prop) (l2 : Int) (l3 : Int) (l4 : Int) (l5 : Int) (σ : Mem) : Prop := ∃ n, lp (fun (K17 : (Int × Int × Int × Int) → Mem → Prop) (x : Int × Int × Int × Int) (σ : Mem) => wX4_reached_17 K17 Q x.1 x.2.1 x.2.2.1 x.2.2.2 σ) n (l2, l3, l4, l5) σ
def wX4_reached (l1 : Int) (l2 : Int) (σ : Mem) (Q : Int → Mem → Prop) : Prop := (∀ x1 : Int, x1 = bshl 1 l1 → (∀ m2 : Mem, m2 = up2 σ 19 0 l1 → wLX4_reached_17 Q l2 x1 1 0 m2))
set_option maxHeartbeats 1000000 in
theorem bX4_reached_46 {E : TE} {K17 : (Int × Int × Int × Int) → Mem → Prop} {K46 : (Int × Int × Int × Int × Int × Int) → Mem → Prop} (hK17 : ∀ (x : Int × Int × Int × Int) (σ : Mem), K17 x σ → GW E cX4_reached 8 RX4 1 21 σ 17 [(0, vR 14), (2, vI x.1), (3, vI x.2.1), (4, vI x.2.2.1), (5, vI x.2.2.2)] []) (hK46 : ∀ (x : Int × Int × Int × Int × Int × Int) (σ : Mem), K46 x σ → GW E cX4_reached 8 RX4 1 21 σ 46 [(0, vR 14), (2, vI x.1), (3, vI x.2.1), (4, vI x.2.2.1), (5, vI x.2.2.2.1), (6, vI x.2.2.2.2.1), (7, vI x.2.2.2.2.2)] []) {Q : Int → Mem → Prop} (hR : RI E (some .int) Q) {l2 : Int} {l3 : Int} {l4 : Int} {l5 : Int} {l6 : Int} {l7 : Int} {σ : Mem} (h : wX4_reached_46 K17 K46 Q l2 l3 l4 l5 l6 l7 σ) : GW E cX4_reached 8 RX4 1 21 σ 46 [(0, vR 14), (2, vI l2), (3, vI l3), (4, vI l4), (5, vI l5), (6, vI l6), (7, vI l7)] [] := by
  unfold wX4_reached_46 at h
  refine g_iload dX4_reached_46 rfl ?_
  refine g_aload_n dX4_reached_48 rfl ?_
  refine g_getI fl_4_42 kd_14 rfl dX4_reached_49 ?_
  obtain ⟨hA, hB⟩ := h
  refine g_icmp_ge (tgt := 112) dX4_reached_52 (by decide) (fun hc => ?_) (fun hc => ?_)
  · replace h := hA hc
    refine g_iinc (lv' := [(5, vI (w32 (l5 + 1))), (0, vR 14), (2, vI l2), (3, vI l3), (4, vI l4), (6, vI l6), (7, vI l7)]) dX4_reached_112 rfl (by decide) rfl ?_
    refine g_loc (a := w32 (l5 + 1)) (i := 5) (lv := [(0, vR 14), (2, vI l2), (3, vI l3), (4, vI l4), (6, vI l6), (7, vI l7)]) (fun x1 ex1 => ?_)
    replace h := h x1 ex1
    refine g_goto (tgt := 17) dX4_reached_115 (by decide) ?_
    refine g_lv (lv' := [(0, vR 14), (2, vI l2), (3, vI l3), (4, vI l4), (5, vI x1)]) [1, 2, 3, 4, 0] rfl ?_
    exact hK17 ((l2, l3, l4, x1)) σ h
  · replace h := hB hc
    refine g_iload dX4_reached_55 rfl ?_
    refine g_bipush dX4_reached_57 8 rfl (by decide) ?_
    obtain ⟨hA, hB⟩ := h
    refine g_icmp_ge (tgt := 112) dX4_reached_59 (by decide) (fun hc => ?_) (fun hc => ?_)
    · replace h := hA hc
      refine g_iinc (lv' := [(5, vI (w32 (l5 + 1))), (0, vR 14), (2, vI l2), (3, vI l3), (4, vI l4), (6, vI l6), (7, vI l7)]) dX4_reached_112 rfl (by decide) rfl ?_
      refine g_loc (a := w32 (l5 + 1)) (i := 5) (lv := [(0, vR 14), (2, vI l2), (3, vI l3), (4, vI l4), (6, vI l6), (7, vI l7)]) (fun x2 ex2 => ?_)
      replace h := h x2 ex2
      refine g_goto (tgt := 17) dX4_reached_115 (by decide) ?_
      refine g_lv (lv' := [(0, vR 14), (2, vI l2), (3, vI l3), (4, vI l4), (5, vI x2)]) [1, 2, 3, 4, 0] rfl ?_
      exact hK17 ((l2, l3, l4, x2)) σ h
    · replace h := hB hc
      refine g_iload_n dX4_reached_62 rfl ?_
      refine g_iload dX4_reached_63 rfl ?_
      refine g_ishr dX4_reached_65 ?_
      refine g_iconst dX4_reached_66 1 rfl (by decide) ?_
      refine g_iand dX4_reached_67 ?_
      obtain ⟨hA, hB⟩ := h
      refine g_if_ne (tgt := 106) dX4_reached_68 (by decide) (fun hc => ?_) (fun hc => ?_)
      · replace h := hA hc
        refine g_iinc (lv' := [(7, vI (w32 (l7 + 1))), (0, vR 14), (2, vI l2), (3, vI l3), (4, vI l4), (5, vI l5), (6, vI l6)]) dX4_reached_106 rfl (by decide) rfl ?_
        refine g_loc (a := w32 (l7 + 1)) (i := 7) (lv := [(0, vR 14), (2, vI l2), (3, vI l3), (4, vI l4), (5, vI l5), (6, vI l6)]) (fun x3 ex3 => ?_)
        replace h := h x3 ex3
        refine g_goto (tgt := 46) dX4_reached_109 (by decide) ?_
        refine g_lv (lv' := [(0, vR 14), (2, vI l2), (3, vI l3), (4, vI l4), (5, vI l5), (6, vI l6), (7, vI x3)]) [1, 2, 3, 4, 5, 6, 0] rfl ?_
        exact hK46 ((l2, l3, l4, l5, l6, x3)) σ h
      · replace h := hB hc
        refine g_aload_n dX4_reached_71 rfl ?_
        refine g_getR (r := 15) fl_4_9 kd_14 rfl dX4_reached_72 ?_
        refine g_iload dX4_reached_75 rfl ?_
        refine g_iload dX4_reached_77 rfl ?_
        refine g_cNi (st := [vR 15]) (av := [vI l6, vI l7]) (kX10_at h) cw_RX4_43 (by decide) (by decide) (Nat.le_of_ble_eq_true rfl) rfl dX4_reached_79 (fun y5 m4 h => ?_)
        obtain ⟨hin, h⟩ := h
        refine g_iald kd_15 hin dX4_reached_82 ?_
        refine g_iload_n dX4_reached_83 rfl ?_
        obtain ⟨hA, hB⟩ := h
        refine g_icmp_lt (tgt := 106) dX4_reached_84 (by decide) (fun hc => ?_) (fun hc => ?_)
        · replace h := hA hc
          refine g_iinc (lv' := [(7, vI (w32 (l7 + 1))), (0, vR 14), (2, vI l2), (3, vI l3), (4, vI l4), (5, vI l5), (6, vI l6)]) dX4_reached_106 rfl (by decide) rfl ?_
          refine g_loc (a := w32 (l7 + 1)) (i := 7) (lv := [(0, vR 14), (2, vI l2), (3, vI l3), (4, vI l4), (5, vI l5), (6, vI l6)]) (fun x6 ex6 => ?_)
          replace h := h x6 ex6
          refine g_goto (tgt := 46) dX4_reached_109 (by decide) ?_
          refine g_lv (lv' := [(0, vR 14), (2, vI l2), (3, vI l3), (4, vI l4), (5, vI l5), (6, vI l6), (7, vI x6)]) [1, 2, 3, 4, 5, 6, 0] rfl ?_
          exact hK46 ((l2, l3, l4, l5, l6, x6)) m4 h
        · replace h := hB hc
          refine g_iload_n dX4_reached_87 rfl ?_
          refine g_iconst dX4_reached_88 1 rfl (by decide) ?_
          refine g_iload dX4_reached_89 rfl ?_
          refine g_ishl dX4_reached_91 ?_
          refine g_ior dX4_reached_92 ?_
          refine g_topI (fun x7 ex7 => ?_)
          replace h := h x7 ex7
          refine g_istore_n (lv' := [(3, vI x7), (0, vR 14), (2, vI l2), (4, vI l4), (5, vI l5), (6, vI l6), (7, vI l7)]) dX4_reached_93 (by decide) rfl ?_
          refine g_aload_n dX4_reached_94 rfl ?_
          refine g_getR (r := 19) fl_4_24 kd_14 rfl dX4_reached_95 ?_
          refine g_iload dX4_reached_98 rfl ?_
          refine g_iload dX4_reached_100 rfl ?_
          obtain ⟨hin, h⟩ := h
          refine g_iast kd_19 hin dX4_reached_102 ?_
          refine g_nm (fun m8 em8 => ?_)
          replace h := h m8 em8
          refine g_iinc (lv' := [(4, vI (w32 (l4 + 1))), (3, vI x7), (0, vR 14), (2, vI l2), (5, vI l5), (6, vI l6), (7, vI l7)]) dX4_reached_103 rfl (by decide) rfl ?_
          refine g_loc (a := w32 (l4 + 1)) (i := 4) (lv := [(3, vI x7), (0, vR 14), (2, vI l2), (5, vI l5), (6, vI l6), (7, vI l7)]) (fun x9 ex9 => ?_)
          replace h := h x9 ex9
          refine g_iinc (lv' := [(7, vI (w32 (l7 + 1))), (4, vI x9), (3, vI x7), (0, vR 14), (2, vI l2), (5, vI l5), (6, vI l6)]) dX4_reached_106 rfl (by decide) rfl ?_
          refine g_loc (a := w32 (l7 + 1)) (i := 7) (lv := [(4, vI x9), (3, vI x7), (0, vR 14), (2, vI l2), (5, vI l5), (6, vI l6)]) (fun x10 ex10 => ?_)
          replace h := h x10 ex10
          refine g_goto (tgt := 46) dX4_reached_109 (by decide) ?_
          refine g_lv (lv' := [(0, vR 14), (2, vI l2), (3, vI x7), (4, vI x9), (5, vI l5), (6, vI l6), (7, vI x10)]) [3, 4, 2, 1, 5, 6, 0] rfl ?_
          exact hK46 ((l2, x7, x9, l5, l6, x10)) m8 h
theorem eX4_reached_46 {E : TE} {K17 : (Int × Int × Int × Int) → Mem → Prop} (hK17 : ∀ (x : Int × Int × Int × Int) (σ : Mem), K17 x σ → GW E cX4_reached 8 RX4 1 21 σ 17 [(0, vR 14), (2, vI x.1), (3, vI x.2.1), (4, vI x.2.2.1), (5, vI x.2.2.2)] []) {Q : Int → Mem → Prop} (hR : RI E (some .int) Q) {l2 : Int} {l3 : Int} {l4 : Int} {l5 : Int} {l6 : Int} {l7 : Int} {σ : Mem} (h : wLX4_reached_46 K17 Q l2 l3 l4 l5 l6 l7 σ) : GW E cX4_reached 8 RX4 1 21 σ 46 [(0, vR 14), (2, vI l2), (3, vI l3), (4, vI l4), (5, vI l5), (6, vI l6), (7, vI l7)] [] := by
  obtain ⟨n, h⟩ := h
  exact lp_GW (P := fun (x : Int × Int × Int × Int × Int × Int) (σ : Mem) => GW E cX4_reached 8 RX4 1 21 σ 46 [(0, vR 14), (2, vI x.1), (3, vI x.2.1), (4, vI x.2.2.1), (5, vI x.2.2.2.1), (6, vI x.2.2.2.2.1), (7, vI x.2.2.2.2.2)] []) (fun K hK x σ h  => bX4_reached_46 hK17 hK hR h) n _ σ h 
set_option maxHeartbeats 1000000 in
theorem bX4_reached_17 {E : TE} {K17 : (Int × Int × Int × Int) → Mem → Prop} (hK17 : ∀ (x : Int × Int × Int × Int) (σ : Mem), K17 x σ → GW E cX4_reached 8 RX4 1 21 σ 17 [(0, vR 14), (2, vI x.1), (3, vI x.2.1), (4, vI x.2.2.1), (5, vI x.2.2.2)] []) {Q : Int → Mem → Prop} (hR : RI E (some .int) Q) {l2 : Int} {l3 : Int} {l4 : Int} {l5 : Int} {σ : Mem} (h : wX4_reached_17 K17 Q l2 l3 l4 l5 σ) : GW E cX4_reached 8 RX4 1 21 σ 17 [(0, vR 14), (2, vI l2), (3, vI l3), (4, vI l4), (5, vI l5)] [] := by
  unfold wX4_reached_17 at h
  refine g_iload dX4_reached_17 rfl ?_
  refine g_iload dX4_reached_19 rfl ?_
  obtain ⟨hA, hB⟩ := h
  refine g_icmp_ge (tgt := 118) dX4_reached_21 (by decide) (fun hc => ?_) (fun hc => ?_)
  · replace h := hA hc
    refine g_iload_n dX4_reached_118 rfl ?_
    exact g_iret hR dX4_reached_119 h
  · replace h := hB hc
    refine g_iload dX4_reached_24 rfl ?_
    refine g_bipush dX4_reached_26 8 rfl (by decide) ?_
    obtain ⟨hA, hB⟩ := h
    refine g_icmp_ge (tgt := 118) dX4_reached_28 (by decide) (fun hc => ?_) (fun hc => ?_)
    · replace h := hA hc
      refine g_iload_n dX4_reached_118 rfl ?_
      exact g_iret hR dX4_reached_119 h
    · replace h := hB hc
      refine g_aload_n dX4_reached_31 rfl ?_
      refine g_getR (r := 19) fl_4_24 kd_14 rfl dX4_reached_32 ?_
      refine g_iload dX4_reached_35 rfl ?_
      refine g_bipush dX4_reached_37 7 rfl (by decide) ?_
      refine g_iand dX4_reached_39 ?_
      obtain ⟨hin, h⟩ := h
      refine g_iald kd_19 hin dX4_reached_40 ?_
      refine g_topI (fun x1 ex1 => ?_)
      replace h := h x1 ex1
      refine g_istore (lv' := [(6, vI x1), (0, vR 14), (2, vI l2), (3, vI l3), (4, vI l4), (5, vI l5)]) dX4_reached_41 (by decide) rfl ?_
      refine g_iconst dX4_reached_43 0 rfl (by decide) ?_
      refine g_istore (lv' := [(7, vI 0), (6, vI x1), (0, vR 14), (2, vI l2), (3, vI l3), (4, vI l4), (5, vI l5)]) dX4_reached_44 (by decide) rfl ?_
      refine g_lv (lv' := [(0, vR 14), (2, vI l2), (3, vI l3), (4, vI l4), (5, vI l5), (6, vI x1), (7, vI 0)]) [2, 3, 4, 5, 6, 1, 0] rfl ?_
      exact eX4_reached_46 hK17 hR h
theorem eX4_reached_17 {E : TE} {Q : Int → Mem → Prop} (hR : RI E (some .int) Q) {l2 : Int} {l3 : Int} {l4 : Int} {l5 : Int} {σ : Mem} (h : wLX4_reached_17 Q l2 l3 l4 l5 σ) : GW E cX4_reached 8 RX4 1 21 σ 17 [(0, vR 14), (2, vI l2), (3, vI l3), (4, vI l4), (5, vI l5)] [] := by
  obtain ⟨n, h⟩ := h
  exact lp_GW (P := fun (x : Int × Int × Int × Int) (σ : Mem) => GW E cX4_reached 8 RX4 1 21 σ 17 [(0, vR 14), (2, vI x.1), (3, vI x.2.1), (4, vI x.2.2.1), (5, vI x.2.2.2)] []) (fun K hK x σ h  => bX4_reached_17 hK hR h) n _ σ h 
set_option maxHeartbeats 1000000 in
theorem kX4_reached {l1 : Int} {l2 : Int} {σ : Mem} {Q : Int → Mem → Prop} (h : wX4_reached l1 l2 σ Q) (l : Launch) (D : va_G) (cy : Nat → ClassId) (ad : Nat → Nat) : MI l yX4_reached cX4_reached 8 (some .int) 1 21 D cy ad [vR 14, vI l1, vI l2] σ Q := by
  refine m_I (own := RX4) (lv := [(0, vR 14), (1, vI l1), (2, vI l2)]) (by decide +kernel) rfl (Nat.le_of_ble_eq_true rfl) rfl (fun E hR => ?_) l D cy ad
  unfold wX4_reached at h
  refine g_iconst dX4_reached_0 1 rfl (by decide) ?_
  refine g_iload_n dX4_reached_1 rfl ?_
  refine g_ishl dX4_reached_2 ?_
  refine g_topI (fun x1 ex1 => ?_)
  replace h := h x1 ex1
  refine g_istore_n (lv' := [(3, vI x1), (0, vR 14), (1, vI l1), (2, vI l2)]) dX4_reached_3 (by decide) rfl ?_
  refine g_aload_n dX4_reached_4 rfl ?_
  refine g_getR (r := 19) fl_4_24 kd_14 rfl dX4_reached_5 ?_
  refine g_iconst dX4_reached_8 0 rfl (by decide) ?_
  refine g_iload_n dX4_reached_9 rfl ?_
  refine g_iast kd_19 (by decide) dX4_reached_10 ?_
  refine g_nm (fun m2 em2 => ?_)
  replace h := h m2 em2
  refine g_iconst dX4_reached_11 1 rfl (by decide) ?_
  refine g_istore (lv' := [(4, vI 1), (3, vI x1), (0, vR 14), (1, vI l1), (2, vI l2)]) dX4_reached_12 (by decide) rfl ?_
  refine g_iconst dX4_reached_14 0 rfl (by decide) ?_
  refine g_istore (lv' := [(5, vI 0), (4, vI 1), (3, vI x1), (0, vR 14), (1, vI l1), (2, vI l2)]) dX4_reached_15 (by decide) rfl ?_
  refine g_lv (lv' := [(0, vR 14), (2, vI l2), (3, vI x1), (4, vI 1), (5, vI 0)]) [3, 5, 2, 1, 0] rfl ?_
  exact eX4_reached_17 hR h
def wX4_widest_57 (K34 : (Int × Int) → Mem → Prop) (K45 : (Int × Int × Int) → Mem → Prop) (K57 : (Int × Int × Int × Int) → Mem → Prop) (Q : Int → Mem → Prop) (l2 : Int) (l3 : Int) (l4 : Int) (l5 : Int) (σ : Mem) : Prop := ((σ 14 0 ≤ l5 → (∀ x1 : Int, x1 = w32 (l4 + 1) → K45 (l2, l3, x1) σ)) ∧ (¬ σ 14 0 ≤ l5 → ((0 ≤ band l4 7 ∧ band l4 7 < 8) ∧ (wX10_at l4 l5 σ (fun y3 m2 => ((0 ≤ y3 ∧ y3 < 64) ∧ (∀ x4 : Int, x4 = min (σ 18 (band l4 7).toNat) (m2 15 y3.toNat) → ((0 ≤ band l5 7 ∧ band l5 7 < 8) ∧ ((0 ≤ band l5 7 ∧ band l5 7 < 8) ∧ (∀ m5 : Mem, m5 = up2 m2 18 (band l5 7).toNat (max (m2 18 (band l5 7).toNat) x4) → (∀ x6 : Int, x6 = w32 (l5 + 1) → K57 (l2, l3, l4, x6) m5)))))))))))
def wLX4_widest_57 (K34 : (Int × Int) → Mem → Prop) (K45 : (Int × Int × Int) → Mem → Prop) (Q : Int → Mem → Prop) (l2 : Int) (l3 : Int) (l4 : Int) (l5 : Int) (σ : Mem) : Prop := ∃ n, lp (fun (K57 : (Int × Int × Int × Int) → Mem → Prop) (x : Int × Int × Int × Int) (σ : Mem) => wX4_widest_57 K34 K45 K57 Q x.1 x.2.1 x.2.2.1 x.2.2.2 σ) n (l2, l3, l4, l5) σ
def wX4_widest_45 (K34 : (Int × Int) → Mem → Prop) (K45 : (Int × Int × Int) → Mem → Prop) (Q : Int → Mem → Prop) (l2 : Int) (l3 : Int) (l4 : Int) (σ : Mem) : Prop := ((σ 14 0 ≤ l4 → (∀ x1 : Int, x1 = w32 (l3 + 1) → K34 (l2, x1) σ)) ∧ (¬ σ 14 0 ≤ l4 → wLX4_widest_57 K34 K45 Q l2 l3 l4 0 σ))
def wLX4_widest_45 (K34 : (Int × Int) → Mem → Prop) (Q : Int → Mem → Prop) (l2 : Int) (l3 : Int) (l4 : Int) (σ : Mem) : Prop := ∃ n, lp (fun (K45 : (Int × Int × Int) → Mem → Prop) (x : Int × Int × Int) (σ : Mem) => wX4_widest_45 K34 K45 Q x.1 x.2.1 x.2.2 σ) n (l2, l3, l4) σ
def wX4_widest_34 (K34 : (Int × Int) → Mem → Prop) (Q : Int → Mem → Prop) (l2 : Int) (l3 : Int) (σ : Mem) : Prop := ((σ 14 0 ≤ l3 → ((0 ≤ band l2 7 ∧ band l2 7 < 8) ∧ Q (σ 18 (band l2 7).toNat) σ)) ∧ (¬ σ 14 0 ≤ l3 → wLX4_widest_45 K34 Q l2 l3 0 σ))
def wLX4_widest_34 (Q : Int → Mem → Prop) (l2 : Int) (l3 : Int) (σ : Mem) : Prop := ∃ n, lp (fun (K34 : (Int × Int) → Mem → Prop) (x : Int × Int) (σ : Mem) => wX4_widest_34 K34 Q x.1 x.2 σ) n (l2, l3) σ
def wX4_widest_2 (K2 : (Int × Int × Int) → Mem → Prop) (Q : Int → Mem → Prop) (l1 : Int) (l2 : Int) (l3 : Int) (σ : Mem) : Prop := ((8 ≤ l3 → ((0 ≤ band l1 7 ∧ band l1 7 < 8) ∧ (∀ m1 : Mem, m1 = up2 σ 18 (band l1 7).toNat 1000000 → wLX4_widest_34 Q l2 1 m1))) ∧ (¬ 8 ≤ l3 → ((0 ≤ l3 ∧ l3 < 8) ∧ (∀ m2 : Mem, m2 = up2 σ 18 l3.toNat 0 → (∀ x3 : Int, x3 = w32 (l3 + 1) → K2 (l1, l2, x3) m2)))))
def wLX4_widest_2 (Q : Int → Mem → Prop) (l1 : Int) (l2 : Int) (l3 : Int) (σ : Mem) : Prop := ∃ n, lp (fun (K2 : (Int × Int × Int) → Mem → Prop) (x : Int × Int × Int) (σ : Mem) => wX4_widest_2 K2 Q x.1 x.2.1 x.2.2 σ) n (l1, l2, l3) σ
def wX4_widest (l1 : Int) (l2 : Int) (σ : Mem) (Q : Int → Mem → Prop) : Prop := wLX4_widest_2 Q l1 l2 0 σ
set_option maxHeartbeats 1000000 in
theorem bX4_widest_57 {E : TE} {K34 : (Int × Int) → Mem → Prop} {K45 : (Int × Int × Int) → Mem → Prop} {K57 : (Int × Int × Int × Int) → Mem → Prop} (hK34 : ∀ (x : Int × Int) (σ : Mem), K34 x σ → GW E cX4_widest 7 RX4 1 24 σ 34 [(0, vR 14), (2, vI x.1), (3, vI x.2)] []) (hK45 : ∀ (x : Int × Int × Int) (σ : Mem), K45 x σ → GW E cX4_widest 7 RX4 1 24 σ 45 [(0, vR 14), (2, vI x.1), (3, vI x.2.1), (4, vI x.2.2)] []) (hK57 : ∀ (x : Int × Int × Int × Int) (σ : Mem), K57 x σ → GW E cX4_widest 7 RX4 1 24 σ 57 [(0, vR 14), (2, vI x.1), (3, vI x.2.1), (4, vI x.2.2.1), (5, vI x.2.2.2)] []) {Q : Int → Mem → Prop} (hR : RI E (some .int) Q) {l2 : Int} {l3 : Int} {l4 : Int} {l5 : Int} {σ : Mem} (h : wX4_widest_57 K34 K45 K57 Q l2 l3 l4 l5 σ) : GW E cX4_widest 7 RX4 1 24 σ 57 [(0, vR 14), (2, vI l2), (3, vI l3), (4, vI l4), (5, vI l5)] [] := by
  unfold wX4_widest_57 at h
  refine g_iload dX4_widest_57 rfl ?_
  refine g_aload_n dX4_widest_59 rfl ?_
  refine g_getI fl_4_42 kd_14 rfl dX4_widest_60 ?_
  obtain ⟨hA, hB⟩ := h
  refine g_icmp_ge (tgt := 124) dX4_widest_63 (by decide) (fun hc => ?_) (fun hc => ?_)
  · replace h := hA hc
    refine g_iinc (lv' := [(4, vI (w32 (l4 + 1))), (0, vR 14), (2, vI l2), (3, vI l3), (5, vI l5)]) dX4_widest_124 rfl (by decide) rfl ?_
    refine g_loc (a := w32 (l4 + 1)) (i := 4) (lv := [(0, vR 14), (2, vI l2), (3, vI l3), (5, vI l5)]) (fun x1 ex1 => ?_)
    replace h := h x1 ex1
    refine g_goto (tgt := 45) dX4_widest_127 (by decide) ?_
    refine g_lv (lv' := [(0, vR 14), (2, vI l2), (3, vI l3), (4, vI x1)]) [1, 2, 3, 0] rfl ?_
    exact hK45 ((l2, l3, x1)) σ h
  · replace h := hB hc
    refine g_aload_n dX4_widest_66 rfl ?_
    refine g_getR (r := 18) fl_4_21 kd_14 rfl dX4_widest_67 ?_
    refine g_iload dX4_widest_70 rfl ?_
    refine g_bipush dX4_widest_72 7 rfl (by decide) ?_
    refine g_iand dX4_widest_74 ?_
    obtain ⟨hin, h⟩ := h
    refine g_iald kd_18 hin dX4_widest_75 ?_
    refine g_aload_n dX4_widest_76 rfl ?_
    refine g_getR (r := 15) fl_4_9 kd_14 rfl dX4_widest_77 ?_
    refine g_iload dX4_widest_80 rfl ?_
    refine g_iload dX4_widest_82 rfl ?_
    refine g_cNi (st := [vR 15, vI (σ 18 (band l4 7).toNat)]) (av := [vI l4, vI l5]) (kX10_at h) cw_RX4_43 (by decide) (by decide) (Nat.le_of_ble_eq_true rfl) rfl dX4_widest_84 (fun y3 m2 h => ?_)
    obtain ⟨hin, h⟩ := h
    refine g_iald kd_15 hin dX4_widest_87 ?_
    refine g_mmin q_640 q_641 q_107 q_mmin (by decide) (Nat.le_of_ble_eq_true rfl) dX4_widest_88 ?_
    refine g_topI (fun x4 ex4 => ?_)
    replace h := h x4 ex4
    refine g_istore (lv' := [(6, vI x4), (0, vR 14), (2, vI l2), (3, vI l3), (4, vI l4), (5, vI l5)]) dX4_widest_91 (by decide) rfl ?_
    refine g_aload_n dX4_widest_93 rfl ?_
    refine g_getR (r := 18) fl_4_21 kd_14 rfl dX4_widest_94 ?_
    refine g_iload dX4_widest_97 rfl ?_
    refine g_bipush dX4_widest_99 7 rfl (by decide) ?_
    refine g_iand dX4_widest_101 ?_
    refine g_aload_n dX4_widest_102 rfl ?_
    refine g_getR (r := 18) fl_4_21 kd_14 rfl dX4_widest_103 ?_
    refine g_iload dX4_widest_106 rfl ?_
    refine g_bipush dX4_widest_108 7 rfl (by decide) ?_
    refine g_iand dX4_widest_110 ?_
    obtain ⟨hin, h⟩ := h
    refine g_iald kd_18 hin dX4_widest_111 ?_
    refine g_iload dX4_widest_112 rfl ?_
    refine g_mmax q_651 q_519 q_107 q_mmax (by decide) (Nat.le_of_ble_eq_true rfl) dX4_widest_114 ?_
    obtain ⟨hin, h⟩ := h
    refine g_iast kd_18 hin dX4_widest_117 ?_
    refine g_nm (fun m5 em5 => ?_)
    replace h := h m5 em5
    refine g_iinc (lv' := [(5, vI (w32 (l5 + 1))), (6, vI x4), (0, vR 14), (2, vI l2), (3, vI l3), (4, vI l4)]) dX4_widest_118 rfl (by decide) rfl ?_
    refine g_loc (a := w32 (l5 + 1)) (i := 5) (lv := [(6, vI x4), (0, vR 14), (2, vI l2), (3, vI l3), (4, vI l4)]) (fun x6 ex6 => ?_)
    replace h := h x6 ex6
    refine g_goto (tgt := 57) dX4_widest_121 (by decide) ?_
    refine g_lv (lv' := [(0, vR 14), (2, vI l2), (3, vI l3), (4, vI l4), (5, vI x6)]) [2, 3, 4, 5, 0] rfl ?_
    exact hK57 ((l2, l3, l4, x6)) m5 h
theorem eX4_widest_57 {E : TE} {K34 : (Int × Int) → Mem → Prop} {K45 : (Int × Int × Int) → Mem → Prop} (hK34 : ∀ (x : Int × Int) (σ : Mem), K34 x σ → GW E cX4_widest 7 RX4 1 24 σ 34 [(0, vR 14), (2, vI x.1), (3, vI x.2)] []) (hK45 : ∀ (x : Int × Int × Int) (σ : Mem), K45 x σ → GW E cX4_widest 7 RX4 1 24 σ 45 [(0, vR 14), (2, vI x.1), (3, vI x.2.1), (4, vI x.2.2)] []) {Q : Int → Mem → Prop} (hR : RI E (some .int) Q) {l2 : Int} {l3 : Int} {l4 : Int} {l5 : Int} {σ : Mem} (h : wLX4_widest_57 K34 K45 Q l2 l3 l4 l5 σ) : GW E cX4_widest 7 RX4 1 24 σ 57 [(0, vR 14), (2, vI l2), (3, vI l3), (4, vI l4), (5, vI l5)] [] := by
  obtain ⟨n, h⟩ := h
  exact lp_GW (P := fun (x : Int × Int × Int × Int) (σ : Mem) => GW E cX4_widest 7 RX4 1 24 σ 57 [(0, vR 14), (2, vI x.1), (3, vI x.2.1), (4, vI x.2.2.1), (5, vI x.2.2.2)] []) (fun K hK x σ h  => bX4_widest_57 hK34 hK45 hK hR h) n _ σ h 
set_option maxHeartbeats 1000000 in
theorem bX4_widest_45 {E : TE} {K34 : (Int × Int) → Mem → Prop} {K45 : (Int × Int × Int) → Mem → Prop} (hK34 : ∀ (x : Int × Int) (σ : Mem), K34 x σ → GW E cX4_widest 7 RX4 1 24 σ 34 [(0, vR 14), (2, vI x.1), (3, vI x.2)] []) (hK45 : ∀ (x : Int × Int × Int) (σ : Mem), K45 x σ → GW E cX4_widest 7 RX4 1 24 σ 45 [(0, vR 14), (2, vI x.1), (3, vI x.2.1), (4, vI x.2.2)] []) {Q : Int → Mem → Prop} (hR : RI E (some .int) Q) {l2 : Int} {l3 : Int} {l4 : Int} {σ : Mem} (h : wX4_widest_45 K34 K45 Q l2 l3 l4 σ) : GW E cX4_widest 7 RX4 1 24 σ 45 [(0, vR 14), (2, vI l2), (3, vI l3), (4, vI l4)] [] := by
  unfold wX4_widest_45 at h
  refine g_iload dX4_widest_45 rfl ?_
  refine g_aload_n dX4_widest_47 rfl ?_
  refine g_getI fl_4_42 kd_14 rfl dX4_widest_48 ?_
  obtain ⟨hA, hB⟩ := h
  refine g_icmp_ge (tgt := 130) dX4_widest_51 (by decide) (fun hc => ?_) (fun hc => ?_)
  · replace h := hA hc
    refine g_iinc (lv' := [(3, vI (w32 (l3 + 1))), (0, vR 14), (2, vI l2), (4, vI l4)]) dX4_widest_130 rfl (by decide) rfl ?_
    refine g_loc (a := w32 (l3 + 1)) (i := 3) (lv := [(0, vR 14), (2, vI l2), (4, vI l4)]) (fun x1 ex1 => ?_)
    replace h := h x1 ex1
    refine g_goto (tgt := 34) dX4_widest_133 (by decide) ?_
    refine g_lv (lv' := [(0, vR 14), (2, vI l2), (3, vI x1)]) [1, 2, 0] rfl ?_
    exact hK34 ((l2, x1)) σ h
  · replace h := hB hc
    refine g_iconst dX4_widest_54 0 rfl (by decide) ?_
    refine g_istore (lv' := [(5, vI 0), (0, vR 14), (2, vI l2), (3, vI l3), (4, vI l4)]) dX4_widest_55 (by decide) rfl ?_
    refine g_lv (lv' := [(0, vR 14), (2, vI l2), (3, vI l3), (4, vI l4), (5, vI 0)]) [1, 2, 3, 4, 0] rfl ?_
    exact eX4_widest_57 hK34 hK45 hR h
theorem eX4_widest_45 {E : TE} {K34 : (Int × Int) → Mem → Prop} (hK34 : ∀ (x : Int × Int) (σ : Mem), K34 x σ → GW E cX4_widest 7 RX4 1 24 σ 34 [(0, vR 14), (2, vI x.1), (3, vI x.2)] []) {Q : Int → Mem → Prop} (hR : RI E (some .int) Q) {l2 : Int} {l3 : Int} {l4 : Int} {σ : Mem} (h : wLX4_widest_45 K34 Q l2 l3 l4 σ) : GW E cX4_widest 7 RX4 1 24 σ 45 [(0, vR 14), (2, vI l2), (3, vI l3), (4, vI l4)] [] := by
  obtain ⟨n, h⟩ := h
  exact lp_GW (P := fun (x : Int × Int × Int) (σ : Mem) => GW E cX4_widest 7 RX4 1 24 σ 45 [(0, vR 14), (2, vI x.1), (3, vI x.2.1), (4, vI x.2.2)] []) (fun K hK x σ h  => bX4_widest_45 hK34 hK hR h) n _ σ h 
set_option maxHeartbeats 1000000 in
theorem bX4_widest_34 {E : TE} {K34 : (Int × Int) → Mem → Prop} (hK34 : ∀ (x : Int × Int) (σ : Mem), K34 x σ → GW E cX4_widest 7 RX4 1 24 σ 34 [(0, vR 14), (2, vI x.1), (3, vI x.2)] []) {Q : Int → Mem → Prop} (hR : RI E (some .int) Q) {l2 : Int} {l3 : Int} {σ : Mem} (h : wX4_widest_34 K34 Q l2 l3 σ) : GW E cX4_widest 7 RX4 1 24 σ 34 [(0, vR 14), (2, vI l2), (3, vI l3)] [] := by
  unfold wX4_widest_34 at h
  refine g_iload_n dX4_widest_34 rfl ?_
  refine g_aload_n dX4_widest_35 rfl ?_
  refine g_getI fl_4_42 kd_14 rfl dX4_widest_36 ?_
  obtain ⟨hA, hB⟩ := h
  refine g_icmp_ge (tgt := 136) dX4_widest_39 (by decide) (fun hc => ?_) (fun hc => ?_)
  · replace h := hA hc
    refine g_aload_n dX4_widest_136 rfl ?_
    refine g_getR (r := 18) fl_4_21 kd_14 rfl dX4_widest_137 ?_
    refine g_iload_n dX4_widest_140 rfl ?_
    refine g_bipush dX4_widest_141 7 rfl (by decide) ?_
    refine g_iand dX4_widest_143 ?_
    obtain ⟨hin, h⟩ := h
    refine g_iald kd_18 hin dX4_widest_144 ?_
    exact g_iret hR dX4_widest_145 h
  · replace h := hB hc
    refine g_iconst dX4_widest_42 0 rfl (by decide) ?_
    refine g_istore (lv' := [(4, vI 0), (0, vR 14), (2, vI l2), (3, vI l3)]) dX4_widest_43 (by decide) rfl ?_
    refine g_lv (lv' := [(0, vR 14), (2, vI l2), (3, vI l3), (4, vI 0)]) [1, 2, 3, 0] rfl ?_
    exact eX4_widest_45 hK34 hR h
theorem eX4_widest_34 {E : TE} {Q : Int → Mem → Prop} (hR : RI E (some .int) Q) {l2 : Int} {l3 : Int} {σ : Mem} (h : wLX4_widest_34 Q l2 l3 σ) : GW E cX4_widest 7 RX4 1 24 σ 34 [(0, vR 14), (2, vI l2), (3, vI l3)] [] := by
  obtain ⟨n, h⟩ := h
  exact lp_GW (P := fun (x : Int × Int) (σ : Mem) => GW E cX4_widest 7 RX4 1 24 σ 34 [(0, vR 14), (2, vI x.1), (3, vI x.2)] []) (fun K hK x σ h  => bX4_widest_34 hK hR h) n _ σ h 
set_option maxHeartbeats 1000000 in
theorem bX4_widest_2 {E : TE} {K2 : (Int × Int × Int) → Mem → Prop} (hK2 : ∀ (x : Int × Int × Int) (σ : Mem), K2 x σ → GW E cX4_widest 7 RX4 1 24 σ 2 [(0, vR 14), (1, vI x.1), (2, vI x.2.1), (3, vI x.2.2)] []) {Q : Int → Mem → Prop} (hR : RI E (some .int) Q) {l1 : Int} {l2 : Int} {l3 : Int} {σ : Mem} (h : wX4_widest_2 K2 Q l1 l2 l3 σ) : GW E cX4_widest 7 RX4 1 24 σ 2 [(0, vR 14), (1, vI l1), (2, vI l2), (3, vI l3)] [] := by
  unfold wX4_widest_2 at h
  refine g_iload_n dX4_widest_2 rfl ?_
  refine g_bipush dX4_widest_3 8 rfl (by decide) ?_
  obtain ⟨hA, hB⟩ := h
  refine g_icmp_ge (tgt := 21) dX4_widest_5 (by decide) (fun hc => ?_) (fun hc => ?_)
  · replace h := hA hc
    refine g_aload_n dX4_widest_21 rfl ?_
    refine g_getR (r := 18) fl_4_21 kd_14 rfl dX4_widest_22 ?_
    refine g_iload_n dX4_widest_25 rfl ?_
    refine g_bipush dX4_widest_26 7 rfl (by decide) ?_
    refine g_iand dX4_widest_28 ?_
    refine g_ldc dX4_widest_29 1000000 q_638 (by decide) ?_
    obtain ⟨hin, h⟩ := h
    refine g_iast kd_18 hin dX4_widest_31 ?_
    refine g_nm (fun m1 em1 => ?_)
    replace h := h m1 em1
    refine g_iconst dX4_widest_32 1 rfl (by decide) ?_
    refine g_istore_n (lv' := [(3, vI 1), (0, vR 14), (1, vI l1), (2, vI l2)]) dX4_widest_33 (by decide) rfl ?_
    refine g_lv (lv' := [(0, vR 14), (2, vI l2), (3, vI 1)]) [1, 3, 0] rfl ?_
    exact eX4_widest_34 hR h
  · replace h := hB hc
    refine g_aload_n dX4_widest_8 rfl ?_
    refine g_getR (r := 18) fl_4_21 kd_14 rfl dX4_widest_9 ?_
    refine g_iload_n dX4_widest_12 rfl ?_
    refine g_iconst dX4_widest_13 0 rfl (by decide) ?_
    obtain ⟨hin, h⟩ := h
    refine g_iast kd_18 hin dX4_widest_14 ?_
    refine g_nm (fun m2 em2 => ?_)
    replace h := h m2 em2
    refine g_iinc (lv' := [(3, vI (w32 (l3 + 1))), (0, vR 14), (1, vI l1), (2, vI l2)]) dX4_widest_15 rfl (by decide) rfl ?_
    refine g_loc (a := w32 (l3 + 1)) (i := 3) (lv := [(0, vR 14), (1, vI l1), (2, vI l2)]) (fun x3 ex3 => ?_)
    replace h := h x3 ex3
    refine g_goto (tgt := 2) dX4_widest_18 (by decide) ?_
    refine g_lv (lv' := [(0, vR 14), (1, vI l1), (2, vI l2), (3, vI x3)]) [1, 2, 3, 0] rfl ?_
    exact hK2 ((l1, l2, x3)) m2 h
theorem eX4_widest_2 {E : TE} {Q : Int → Mem → Prop} (hR : RI E (some .int) Q) {l1 : Int} {l2 : Int} {l3 : Int} {σ : Mem} (h : wLX4_widest_2 Q l1 l2 l3 σ) : GW E cX4_widest 7 RX4 1 24 σ 2 [(0, vR 14), (1, vI l1), (2, vI l2), (3, vI l3)] [] := by
  obtain ⟨n, h⟩ := h
  exact lp_GW (P := fun (x : Int × Int × Int) (σ : Mem) => GW E cX4_widest 7 RX4 1 24 σ 2 [(0, vR 14), (1, vI x.1), (2, vI x.2.1), (3, vI x.2.2)] []) (fun K hK x σ h  => bX4_widest_2 hK hR h) n _ σ h 
set_option maxHeartbeats 1000000 in
theorem kX4_widest {l1 : Int} {l2 : Int} {σ : Mem} {Q : Int → Mem → Prop} (h : wX4_widest l1 l2 σ Q) (l : Launch) (D : va_G) (cy : Nat → ClassId) (ad : Nat → Nat) : MI l yX4_widest cX4_widest 7 (some .int) 1 24 D cy ad [vR 14, vI l1, vI l2] σ Q := by
  refine m_I (own := RX4) (lv := [(0, vR 14), (1, vI l1), (2, vI l2)]) (by decide +kernel) rfl (Nat.le_of_ble_eq_true rfl) rfl (fun E hR => ?_) l D cy ad
  unfold wX4_widest at h
  refine g_iconst dX4_widest_0 0 rfl (by decide) ?_
  refine g_istore_n (lv' := [(3, vI 0), (0, vR 14), (1, vI l1), (2, vI l2)]) dX4_widest_1 (by decide) rfl ?_
  refine g_lv (lv' := [(0, vR 14), (1, vI l1), (2, vI l2), (3, vI 0)]) [1, 2, 3, 0] rfl ?_
  exact eX4_widest_2 hR h
def wX7_memberAt (l1 : Int) (σ : Mem) (Q : Int → Mem → Prop) : Prop := ((0 ≤ band l1 7 ∧ band l1 7 < 8) ∧ Q (σ 35 (band l1 7).toNat) σ)
set_option maxHeartbeats 1000000 in
theorem kX7_memberAt {l1 : Int} {σ : Mem} {Q : Int → Mem → Prop} (h : wX7_memberAt l1 σ Q) (l : Launch) (D : va_G) (cy : Nat → ClassId) (ad : Nat → Nat) : MI l yX7_memberAt cX7_memberAt 2 (some .int) 0 0 D cy ad [vR 32, vI l1] σ Q := by
  refine m_I (own := RX7) (lv := [(0, vR 32), (1, vI l1)]) (by decide +kernel) rfl (Nat.le_of_ble_eq_true rfl) rfl (fun E hR => ?_) l D cy ad
  unfold wX7_memberAt at h
  refine g_aload_n dX7_memberAt_0 rfl ?_
  refine g_getR (r := 35) fl_7_18 kd_32 rfl dX7_memberAt_1 ?_
  refine g_iload_n dX7_memberAt_4 rfl ?_
  refine g_bipush dX7_memberAt_5 7 rfl (by decide) ?_
  refine g_iand dX7_memberAt_7 ?_
  obtain ⟨hin, h⟩ := h
  refine g_iald kd_35 hin dX7_memberAt_8 ?_
  exact g_iret hR dX7_memberAt_9 h
def wX7_measure_87 (b1 : Nat) (K43 : (Int × Int × Int) → Mem → Prop) (K87 : (Int × Int × Int × Int × Int × Int) → Mem → Prop) (Q : Mem → Prop) (l2 : Int) (l3 : Int) (l4 : Int) (l5 : Int) (l6 : Int) (l7 : Int) (σ : Mem) : Prop := ((σ b1 0 ≤ l7 → (∀ x1 : Int, x1 = w32 (l4 + 1) → K43 (l2, l3, x1) σ)) ∧ (¬ σ b1 0 ≤ l7 → ((8 ≤ l3 → (∀ x2 : Int, x2 = w32 (l4 + 1) → K43 (l2, l3, x2) σ)) ∧ (¬ 8 ≤ l3 → ((0 ≤ band l7 7 ∧ band l7 7 < 8) ∧ ((0 ≤ σ 33 (band l7 7).toNat → (∀ x3 : Int, x3 = w32 (l7 + 1) → K87 (l2, l3, l4, l5, l6, x3) σ)) ∧ (¬ 0 ≤ σ 33 (band l7 7).toNat → (wX10_at l7 l5 σ (fun y5 m4 => ((0 ≤ y5 ∧ y5 < 64) ∧ ((m4 (b1 + 2) y5.toNat ≤ 0 → (∀ x6 : Int, x6 = w32 (l7 + 1) → K87 (l2, l3, l4, l5, l6, x6) m4)) ∧ (¬ m4 (b1 + 2) y5.toNat ≤ 0 → ((0 ≤ band l7 7 ∧ band l7 7 < 8) ∧ (∀ m7 : Mem, m7 = up2 m4 33 (band l7 7).toNat l6 → ((0 ≤ l3 ∧ l3 < 8) ∧ (∀ m8 : Mem, m8 = up2 m7 34 l3.toNat l7 → (∀ x9 : Int, x9 = w32 (l3 + 1) → (∀ x10 : Int, x10 = w32 (l7 + 1) → K87 (l2, x9, l4, l5, l6, x10) m8))))))))))))))))))
def wLX7_measure_87 (b1 : Nat) (K43 : (Int × Int × Int) → Mem → Prop) (Q : Mem → Prop) (l2 : Int) (l3 : Int) (l4 : Int) (l5 : Int) (l6 : Int) (l7 : Int) (σ : Mem) : Prop := ∃ n, lp (fun (K87 : (Int × Int × Int × Int × Int × Int) → Mem → Prop) (x : Int × Int × Int × Int × Int × Int) (σ : Mem) => wX7_measure_87 b1 K43 K87 Q x.1 x.2.1 x.2.2.1 x.2.2.2.1 x.2.2.2.2.1 x.2.2.2.2.2 σ) n (l2, l3, l4, l5, l6, l7) σ
def wX7_measure_43 (b1 : Nat) (K43 : (Int × Int × Int) → Mem → Prop) (Q : Mem → Prop) (l2 : Int) (l3 : Int) (l4 : Int) (σ : Mem) : Prop := ((l3 ≤ l4 → Q σ) ∧ (¬ l3 ≤ l4 → ((8 ≤ l4 → Q σ) ∧ (¬ 8 ≤ l4 → ((0 ≤ band l4 7 ∧ band l4 7 < 8) ∧ (∀ x1 : Int, x1 = σ 34 (band l4 7).toNat → ((0 ≤ band x1 7 ∧ band x1 7 < 8) ∧ (∀ x2 : Int, x2 = w32 ((σ 33 (band x1 7).toNat) + 1) → (∀ x3 : Int, x3 = w32 (l2 + 1) → wLX7_measure_87 b1 K43 Q l2 l3 l4 x1 x2 x3 σ)))))))))
def wLX7_measure_43 (b1 : Nat) (Q : Mem → Prop) (l2 : Int) (l3 : Int) (l4 : Int) (σ : Mem) : Prop := ∃ n, lp (fun (K43 : (Int × Int × Int) → Mem → Prop) (x : Int × Int × Int) (σ : Mem) => wX7_measure_43 b1 K43 Q x.1 x.2.1 x.2.2 σ) n (l2, l3, l4) σ
def wX7_measure_2 (b1 : Nat) (K2 : (Int × Int) → Mem → Prop) (Q : Mem → Prop) (l2 : Int) (l3 : Int) (σ : Mem) : Prop := ((8 ≤ l3 → ((0 ≤ band l2 7 ∧ band l2 7 < 8) ∧ (∀ m1 : Mem, m1 = up2 σ 33 (band l2 7).toNat 0 → (∀ m2 : Mem, m2 = up2 m1 34 0 l2 → wLX7_measure_43 b1 Q l2 1 0 m2)))) ∧ (¬ 8 ≤ l3 → ((0 ≤ l3 ∧ l3 < 8) ∧ (∀ m3 : Mem, m3 = up2 σ 33 l3.toNat ((-1)) → (∀ x4 : Int, x4 = w32 (l3 + 1) → K2 (l2, x4) m3)))))
def wLX7_measure_2 (b1 : Nat) (Q : Mem → Prop) (l2 : Int) (l3 : Int) (σ : Mem) : Prop := ∃ n, lp (fun (K2 : (Int × Int) → Mem → Prop) (x : Int × Int) (σ : Mem) => wX7_measure_2 b1 K2 Q x.1 x.2 σ) n (l2, l3) σ
def wX7_measure (b1 : Nat) (l2 : Int) (σ : Mem) (Q : Mem → Prop) : Prop := wLX7_measure_2 b1 Q l2 0 σ
set_option maxHeartbeats 1000000 in
theorem bX7_measure_87 {E : TE} {b1 : Nat} (hb1 : isBk b1) {K43 : (Int × Int × Int) → Mem → Prop} {K87 : (Int × Int × Int × Int × Int × Int) → Mem → Prop} (hK43 : ∀ (x : Int × Int × Int) (σ : Mem), K43 x σ → GW E cX7_measure 8 RX7 1 21 σ 43 [(0, vR 32), (1, vR b1), (2, vI x.1), (3, vI x.2.1), (4, vI x.2.2)] []) (hK87 : ∀ (x : Int × Int × Int × Int × Int × Int) (σ : Mem), K87 x σ → GW E cX7_measure 8 RX7 1 21 σ 87 [(0, vR 32), (1, vR b1), (2, vI x.1), (3, vI x.2.1), (4, vI x.2.2.1), (5, vI x.2.2.2.1), (6, vI x.2.2.2.2.1), (7, vI x.2.2.2.2.2)] []) {Q : Mem → Prop} (hR : RV E none Q) {l2 : Int} {l3 : Int} {l4 : Int} {l5 : Int} {l6 : Int} {l7 : Int} {σ : Mem} (h : wX7_measure_87 b1 K43 K87 Q l2 l3 l4 l5 l6 l7 σ) : GW E cX7_measure 8 RX7 1 21 σ 87 [(0, vR 32), (1, vR b1), (2, vI l2), (3, vI l3), (4, vI l4), (5, vI l5), (6, vI l6), (7, vI l7)] [] := by
  unfold wX7_measure_87 at h
  refine g_iload dX7_measure_87 rfl ?_
  refine g_aload_n dX7_measure_89 rfl ?_
  refine g_getI fl_7_25 (kd_bk0 hb1) rfl dX7_measure_90 ?_
  obtain ⟨hA, hB⟩ := h
  refine g_icmp_ge (tgt := 159) dX7_measure_93 (by decide) (fun hc => ?_) (fun hc => ?_)
  · replace h := hA hc
    refine g_iinc (lv' := [(4, vI (w32 (l4 + 1))), (0, vR 32), (1, vR b1), (2, vI l2), (3, vI l3), (5, vI l5), (6, vI l6), (7, vI l7)]) dX7_measure_159 rfl (by decide) rfl ?_
    refine g_loc (a := w32 (l4 + 1)) (i := 4) (lv := [(0, vR 32), (1, vR b1), (2, vI l2), (3, vI l3), (5, vI l5), (6, vI l6), (7, vI l7)]) (fun x1 ex1 => ?_)
    replace h := h x1 ex1
    refine g_goto (tgt := 43) dX7_measure_162 (by decide) ?_
    refine g_lv (lv' := [(0, vR 32), (1, vR b1), (2, vI l2), (3, vI l3), (4, vI x1)]) [1, 2, 3, 4, 0] rfl ?_
    exact hK43 ((l2, l3, x1)) σ h
  · replace h := hB hc
    refine g_iload_n dX7_measure_96 rfl ?_
    refine g_bipush dX7_measure_97 8 rfl (by decide) ?_
    obtain ⟨hA, hB⟩ := h
    refine g_icmp_ge (tgt := 159) dX7_measure_99 (by decide) (fun hc => ?_) (fun hc => ?_)
    · replace h := hA hc
      refine g_iinc (lv' := [(4, vI (w32 (l4 + 1))), (0, vR 32), (1, vR b1), (2, vI l2), (3, vI l3), (5, vI l5), (6, vI l6), (7, vI l7)]) dX7_measure_159 rfl (by decide) rfl ?_
      refine g_loc (a := w32 (l4 + 1)) (i := 4) (lv := [(0, vR 32), (1, vR b1), (2, vI l2), (3, vI l3), (5, vI l5), (6, vI l6), (7, vI l7)]) (fun x2 ex2 => ?_)
      replace h := h x2 ex2
      refine g_goto (tgt := 43) dX7_measure_162 (by decide) ?_
      refine g_lv (lv' := [(0, vR 32), (1, vR b1), (2, vI l2), (3, vI l3), (4, vI x2)]) [1, 2, 3, 4, 0] rfl ?_
      exact hK43 ((l2, l3, x2)) σ h
    · replace h := hB hc
      refine g_aload_n dX7_measure_102 rfl ?_
      refine g_getR (r := 33) fl_7_9 kd_32 rfl dX7_measure_103 ?_
      refine g_iload dX7_measure_106 rfl ?_
      refine g_bipush dX7_measure_108 7 rfl (by decide) ?_
      refine g_iand dX7_measure_110 ?_
      obtain ⟨hin, h⟩ := h
      refine g_iald kd_33 hin dX7_measure_111 ?_
      obtain ⟨hA, hB⟩ := h
      refine g_if_ge (tgt := 153) dX7_measure_112 (by decide) (fun hc => ?_) (fun hc => ?_)
      · replace h := hA hc
        refine g_iinc (lv' := [(7, vI (w32 (l7 + 1))), (0, vR 32), (1, vR b1), (2, vI l2), (3, vI l3), (4, vI l4), (5, vI l5), (6, vI l6)]) dX7_measure_153 rfl (by decide) rfl ?_
        refine g_loc (a := w32 (l7 + 1)) (i := 7) (lv := [(0, vR 32), (1, vR b1), (2, vI l2), (3, vI l3), (4, vI l4), (5, vI l5), (6, vI l6)]) (fun x3 ex3 => ?_)
        replace h := h x3 ex3
        refine g_goto (tgt := 87) dX7_measure_156 (by decide) ?_
        refine g_lv (lv' := [(0, vR 32), (1, vR b1), (2, vI l2), (3, vI l3), (4, vI l4), (5, vI l5), (6, vI l6), (7, vI x3)]) [1, 2, 3, 4, 5, 6, 7, 0] rfl ?_
        exact hK87 ((l2, l3, l4, l5, l6, x3)) σ h
      · replace h := hB hc
        refine g_aload_n dX7_measure_115 rfl ?_
        refine g_getR (r := b1 + 2) fl_7_53 (kd_bk0 hb1) rfl dX7_measure_116 ?_
        refine g_iload dX7_measure_119 rfl ?_
        refine g_iload dX7_measure_121 rfl ?_
        refine g_cNi (st := [vR (b1 + 2)]) (av := [vI l7, vI l5]) (kX10_at h) cw_RX7_56 (by decide) (by decide) (Nat.le_of_ble_eq_true rfl) rfl dX7_measure_123 (fun y5 m4 h => ?_)
        obtain ⟨hin, h⟩ := h
        refine g_iald (kd_bk2 hb1) hin dX7_measure_126 ?_
        obtain ⟨hA, hB⟩ := h
        refine g_if_le (tgt := 153) dX7_measure_127 (by decide) (fun hc => ?_) (fun hc => ?_)
        · replace h := hA hc
          refine g_iinc (lv' := [(7, vI (w32 (l7 + 1))), (0, vR 32), (1, vR b1), (2, vI l2), (3, vI l3), (4, vI l4), (5, vI l5), (6, vI l6)]) dX7_measure_153 rfl (by decide) rfl ?_
          refine g_loc (a := w32 (l7 + 1)) (i := 7) (lv := [(0, vR 32), (1, vR b1), (2, vI l2), (3, vI l3), (4, vI l4), (5, vI l5), (6, vI l6)]) (fun x6 ex6 => ?_)
          replace h := h x6 ex6
          refine g_goto (tgt := 87) dX7_measure_156 (by decide) ?_
          refine g_lv (lv' := [(0, vR 32), (1, vR b1), (2, vI l2), (3, vI l3), (4, vI l4), (5, vI l5), (6, vI l6), (7, vI x6)]) [1, 2, 3, 4, 5, 6, 7, 0] rfl ?_
          exact hK87 ((l2, l3, l4, l5, l6, x6)) m4 h
        · replace h := hB hc
          refine g_aload_n dX7_measure_130 rfl ?_
          refine g_getR (r := 33) fl_7_9 kd_32 rfl dX7_measure_131 ?_
          refine g_iload dX7_measure_134 rfl ?_
          refine g_bipush dX7_measure_136 7 rfl (by decide) ?_
          refine g_iand dX7_measure_138 ?_
          refine g_iload dX7_measure_139 rfl ?_
          obtain ⟨hin, h⟩ := h
          refine g_iast kd_33 hin dX7_measure_141 ?_
          refine g_nm (fun m7 em7 => ?_)
          replace h := h m7 em7
          refine g_aload_n dX7_measure_142 rfl ?_
          refine g_getR (r := 34) fl_7_15 kd_32 rfl dX7_measure_143 ?_
          refine g_iload_n dX7_measure_146 rfl ?_
          refine g_iload dX7_measure_147 rfl ?_
          obtain ⟨hin, h⟩ := h
          refine g_iast kd_34 hin dX7_measure_149 ?_
          refine g_nm (fun m8 em8 => ?_)
          replace h := h m8 em8
          refine g_iinc (lv' := [(3, vI (w32 (l3 + 1))), (0, vR 32), (1, vR b1), (2, vI l2), (4, vI l4), (5, vI l5), (6, vI l6), (7, vI l7)]) dX7_measure_150 rfl (by decide) rfl ?_
          refine g_loc (a := w32 (l3 + 1)) (i := 3) (lv := [(0, vR 32), (1, vR b1), (2, vI l2), (4, vI l4), (5, vI l5), (6, vI l6), (7, vI l7)]) (fun x9 ex9 => ?_)
          replace h := h x9 ex9
          refine g_iinc (lv' := [(7, vI (w32 (l7 + 1))), (3, vI x9), (0, vR 32), (1, vR b1), (2, vI l2), (4, vI l4), (5, vI l5), (6, vI l6)]) dX7_measure_153 rfl (by decide) rfl ?_
          refine g_loc (a := w32 (l7 + 1)) (i := 7) (lv := [(3, vI x9), (0, vR 32), (1, vR b1), (2, vI l2), (4, vI l4), (5, vI l5), (6, vI l6)]) (fun x10 ex10 => ?_)
          replace h := h x10 ex10
          refine g_goto (tgt := 87) dX7_measure_156 (by decide) ?_
          refine g_lv (lv' := [(0, vR 32), (1, vR b1), (2, vI l2), (3, vI x9), (4, vI l4), (5, vI l5), (6, vI l6), (7, vI x10)]) [2, 3, 4, 1, 5, 6, 7, 0] rfl ?_
          exact hK87 ((l2, x9, l4, l5, l6, x10)) m8 h
theorem eX7_measure_87 {E : TE} {b1 : Nat} (hb1 : isBk b1) {K43 : (Int × Int × Int) → Mem → Prop} (hK43 : ∀ (x : Int × Int × Int) (σ : Mem), K43 x σ → GW E cX7_measure 8 RX7 1 21 σ 43 [(0, vR 32), (1, vR b1), (2, vI x.1), (3, vI x.2.1), (4, vI x.2.2)] []) {Q : Mem → Prop} (hR : RV E none Q) {l2 : Int} {l3 : Int} {l4 : Int} {l5 : Int} {l6 : Int} {l7 : Int} {σ : Mem} (h : wLX7_measure_87 b1 K43 Q l2 l3 l4 l5 l6 l7 σ) : GW E cX7_measure 8 RX7 1 21 σ 87 [(0, vR 32), (1, vR b1), (2, vI l2), (3, vI l3), (4, vI l4), (5, vI l5), (6, vI l6), (7, vI l7)] [] := by
  obtain ⟨n, h⟩ := h
  exact lp_GW (P := fun (x : Int × Int × Int × Int × Int × Int) (σ : Mem) => GW E cX7_measure 8 RX7 1 21 σ 87 [(0, vR 32), (1, vR b1), (2, vI x.1), (3, vI x.2.1), (4, vI x.2.2.1), (5, vI x.2.2.2.1), (6, vI x.2.2.2.2.1), (7, vI x.2.2.2.2.2)] []) (fun K hK x σ h  => bX7_measure_87 hb1 hK43 hK hR h) n _ σ h 
set_option maxHeartbeats 1000000 in
theorem bX7_measure_43 {E : TE} {b1 : Nat} (hb1 : isBk b1) {K43 : (Int × Int × Int) → Mem → Prop} (hK43 : ∀ (x : Int × Int × Int) (σ : Mem), K43 x σ → GW E cX7_measure 8 RX7 1 21 σ 43 [(0, vR 32), (1, vR b1), (2, vI x.1), (3, vI x.2.1), (4, vI x.2.2)] []) {Q : Mem → Prop} (hR : RV E none Q) {l2 : Int} {l3 : Int} {l4 : Int} {σ : Mem} (h : wX7_measure_43 b1 K43 Q l2 l3 l4 σ) : GW E cX7_measure 8 RX7 1 21 σ 43 [(0, vR 32), (1, vR b1), (2, vI l2), (3, vI l3), (4, vI l4)] [] := by
  unfold wX7_measure_43 at h
  refine g_iload dX7_measure_43 rfl ?_
  refine g_iload_n dX7_measure_45 rfl ?_
  obtain ⟨hA, hB⟩ := h
  refine g_icmp_ge (tgt := 165) dX7_measure_46 (by decide) (fun hc => ?_) (fun hc => ?_)
  · replace h := hA hc
    exact g_vret hR dX7_measure_165 h
  · replace h := hB hc
    refine g_iload dX7_measure_49 rfl ?_
    refine g_bipush dX7_measure_51 8 rfl (by decide) ?_
    obtain ⟨hA, hB⟩ := h
    refine g_icmp_ge (tgt := 165) dX7_measure_53 (by decide) (fun hc => ?_) (fun hc => ?_)
    · replace h := hA hc
      exact g_vret hR dX7_measure_165 h
    · replace h := hB hc
      refine g_aload_n dX7_measure_56 rfl ?_
      refine g_getR (r := 34) fl_7_15 kd_32 rfl dX7_measure_57 ?_
      refine g_iload dX7_measure_60 rfl ?_
      refine g_bipush dX7_measure_62 7 rfl (by decide) ?_
      refine g_iand dX7_measure_64 ?_
      obtain ⟨hin, h⟩ := h
      refine g_iald kd_34 hin dX7_measure_65 ?_
      refine g_topI (fun x1 ex1 => ?_)
      replace h := h x1 ex1
      refine g_istore (lv' := [(5, vI x1), (0, vR 32), (1, vR b1), (2, vI l2), (3, vI l3), (4, vI l4)]) dX7_measure_66 (by decide) rfl ?_
      refine g_aload_n dX7_measure_68 rfl ?_
      refine g_getR (r := 33) fl_7_9 kd_32 rfl dX7_measure_69 ?_
      refine g_iload dX7_measure_72 rfl ?_
      refine g_bipush dX7_measure_74 7 rfl (by decide) ?_
      refine g_iand dX7_measure_76 ?_
      obtain ⟨hin, h⟩ := h
      refine g_iald kd_33 hin dX7_measure_77 ?_
      refine g_iconst dX7_measure_78 1 rfl (by decide) ?_
      refine g_iadd dX7_measure_79 ?_
      refine g_topI (fun x2 ex2 => ?_)
      replace h := h x2 ex2
      refine g_istore (lv' := [(6, vI x2), (5, vI x1), (0, vR 32), (1, vR b1), (2, vI l2), (3, vI l3), (4, vI l4)]) dX7_measure_80 (by decide) rfl ?_
      refine g_iload_n dX7_measure_82 rfl ?_
      refine g_iconst dX7_measure_83 1 rfl (by decide) ?_
      refine g_iadd dX7_measure_84 ?_
      refine g_topI (fun x3 ex3 => ?_)
      replace h := h x3 ex3
      refine g_istore (lv' := [(7, vI x3), (6, vI x2), (5, vI x1), (0, vR 32), (1, vR b1), (2, vI l2), (3, vI l3), (4, vI l4)]) dX7_measure_85 (by decide) rfl ?_
      refine g_lv (lv' := [(0, vR 32), (1, vR b1), (2, vI l2), (3, vI l3), (4, vI l4), (5, vI x1), (6, vI x2), (7, vI x3)]) [3, 4, 5, 6, 7, 2, 1, 0] rfl ?_
      exact eX7_measure_87 hb1 hK43 hR h
theorem eX7_measure_43 {E : TE} {b1 : Nat} (hb1 : isBk b1) {Q : Mem → Prop} (hR : RV E none Q) {l2 : Int} {l3 : Int} {l4 : Int} {σ : Mem} (h : wLX7_measure_43 b1 Q l2 l3 l4 σ) : GW E cX7_measure 8 RX7 1 21 σ 43 [(0, vR 32), (1, vR b1), (2, vI l2), (3, vI l3), (4, vI l4)] [] := by
  obtain ⟨n, h⟩ := h
  exact lp_GW (P := fun (x : Int × Int × Int) (σ : Mem) => GW E cX7_measure 8 RX7 1 21 σ 43 [(0, vR 32), (1, vR b1), (2, vI x.1), (3, vI x.2.1), (4, vI x.2.2)] []) (fun K hK x σ h  => bX7_measure_43 hb1 hK hR h) n _ σ h 
set_option maxHeartbeats 1000000 in
theorem bX7_measure_2 {E : TE} {b1 : Nat} (hb1 : isBk b1) {K2 : (Int × Int) → Mem → Prop} (hK2 : ∀ (x : Int × Int) (σ : Mem), K2 x σ → GW E cX7_measure 8 RX7 1 21 σ 2 [(0, vR 32), (1, vR b1), (2, vI x.1), (3, vI x.2)] []) {Q : Mem → Prop} (hR : RV E none Q) {l2 : Int} {l3 : Int} {σ : Mem} (h : wX7_measure_2 b1 K2 Q l2 l3 σ) : GW E cX7_measure 8 RX7 1 21 σ 2 [(0, vR 32), (1, vR b1), (2, vI l2), (3, vI l3)] [] := by
  unfold wX7_measure_2 at h
  refine g_iload_n dX7_measure_2 rfl ?_
  refine g_bipush dX7_measure_3 8 rfl (by decide) ?_
  obtain ⟨hA, hB⟩ := h
  refine g_icmp_ge (tgt := 21) dX7_measure_5 (by decide) (fun hc => ?_) (fun hc => ?_)
  · replace h := hA hc
    refine g_aload_n dX7_measure_21 rfl ?_
    refine g_getR (r := 33) fl_7_9 kd_32 rfl dX7_measure_22 ?_
    refine g_iload_n dX7_measure_25 rfl ?_
    refine g_bipush dX7_measure_26 7 rfl (by decide) ?_
    refine g_iand dX7_measure_28 ?_
    refine g_iconst dX7_measure_29 0 rfl (by decide) ?_
    obtain ⟨hin, h⟩ := h
    refine g_iast kd_33 hin dX7_measure_30 ?_
    refine g_nm (fun m1 em1 => ?_)
    replace h := h m1 em1
    refine g_aload_n dX7_measure_31 rfl ?_
    refine g_getR (r := 34) fl_7_15 kd_32 rfl dX7_measure_32 ?_
    refine g_iconst dX7_measure_35 0 rfl (by decide) ?_
    refine g_iload_n dX7_measure_36 rfl ?_
    refine g_iast kd_34 (by decide) dX7_measure_37 ?_
    refine g_nm (fun m2 em2 => ?_)
    replace h := h m2 em2
    refine g_iconst dX7_measure_38 1 rfl (by decide) ?_
    refine g_istore_n (lv' := [(3, vI 1), (0, vR 32), (1, vR b1), (2, vI l2)]) dX7_measure_39 (by decide) rfl ?_
    refine g_iconst dX7_measure_40 0 rfl (by decide) ?_
    refine g_istore (lv' := [(4, vI 0), (3, vI 1), (0, vR 32), (1, vR b1), (2, vI l2)]) dX7_measure_41 (by decide) rfl ?_
    refine g_lv (lv' := [(0, vR 32), (1, vR b1), (2, vI l2), (3, vI 1), (4, vI 0)]) [2, 3, 4, 1, 0] rfl ?_
    exact eX7_measure_43 hb1 hR h
  · replace h := hB hc
    refine g_aload_n dX7_measure_8 rfl ?_
    refine g_getR (r := 33) fl_7_9 kd_32 rfl dX7_measure_9 ?_
    refine g_iload_n dX7_measure_12 rfl ?_
    refine g_iconst dX7_measure_13 (-1) rfl (by decide) ?_
    obtain ⟨hin, h⟩ := h
    refine g_iast kd_33 hin dX7_measure_14 ?_
    refine g_nm (fun m3 em3 => ?_)
    replace h := h m3 em3
    refine g_iinc (lv' := [(3, vI (w32 (l3 + 1))), (0, vR 32), (1, vR b1), (2, vI l2)]) dX7_measure_15 rfl (by decide) rfl ?_
    refine g_loc (a := w32 (l3 + 1)) (i := 3) (lv := [(0, vR 32), (1, vR b1), (2, vI l2)]) (fun x4 ex4 => ?_)
    replace h := h x4 ex4
    refine g_goto (tgt := 2) dX7_measure_18 (by decide) ?_
    refine g_lv (lv' := [(0, vR 32), (1, vR b1), (2, vI l2), (3, vI x4)]) [1, 2, 3, 0] rfl ?_
    exact hK2 ((l2, x4)) m3 h
theorem eX7_measure_2 {E : TE} {b1 : Nat} (hb1 : isBk b1) {Q : Mem → Prop} (hR : RV E none Q) {l2 : Int} {l3 : Int} {σ : Mem} (h : wLX7_measure_2 b1 Q l2 l3 σ) : GW E cX7_measure 8 RX7 1 21 σ 2 [(0, vR 32), (1, vR b1), (2, vI l2), (3, vI l3)] [] := by
  obtain ⟨n, h⟩ := h
  exact lp_GW (P := fun (x : Int × Int) (σ : Mem) => GW E cX7_measure 8 RX7 1 21 σ 2 [(0, vR 32), (1, vR b1), (2, vI x.1), (3, vI x.2)] []) (fun K hK x σ h  => bX7_measure_2 hb1 hK hR h) n _ σ h 
set_option maxHeartbeats 1000000 in
theorem kX7_measure {b1 : Nat} {l2 : Int} (hb1 : isBk b1) {σ : Mem} {Q : Mem → Prop} (h : wX7_measure b1 l2 σ Q) (l : Launch) (D : va_G) (cy : Nat → ClassId) (ad : Nat → Nat) : MV l yX7_measure cX7_measure 8 none 1 21 D cy ad [vR 32, vR b1, vI l2] σ Q := by
  refine m_V (own := RX7) (lv := [(0, vR 32), (1, vR b1), (2, vI l2)]) (by decide +kernel) rfl (Nat.le_of_ble_eq_true rfl) rfl (fun E hR => ?_) l D cy ad
  unfold wX7_measure at h
  refine g_iconst dX7_measure_0 0 rfl (by decide) ?_
  refine g_istore_n (lv' := [(3, vI 0), (0, vR 32), (1, vR b1), (2, vI l2)]) dX7_measure_1 (by decide) rfl ?_
  refine g_lv (lv' := [(0, vR 32), (1, vR b1), (2, vI l2), (3, vI 0)]) [1, 2, 3, 0] rfl ?_
  exact eX7_measure_2 hb1 hR h
def wX7_lengthFrom_62 (b1 : Nat) (K13 : (Int × Int × Int) → Mem → Prop) (Q : Int → Mem → Prop) (l2 : Int) (l4 : Int) (l5 : Int) (σ : Mem) : Prop := (∀ x1 : Int, x1 = w32 (l4 + 1) → K13 (l2, l5, x1) σ)
def wX7_lengthFrom_13 (b1 : Nat) (K13 : (Int × Int × Int) → Mem → Prop) (Q : Int → Mem → Prop) (l2 : Int) (l3 : Int) (l4 : Int) (σ : Mem) : Prop := ((σ b1 0 ≤ l4 → Q l3 σ) ∧ (¬ σ b1 0 ≤ l4 → ((0 ≤ band l4 7 ∧ band l4 7 < 8) ∧ (∀ x1 : Int, x1 = w32 ((σ 33 (band l4 7).toNat) + 1) → ((x1 ≤ 1 → (∀ x2 : Int, x2 = w32 (l4 + 1) → K13 (l2, l3, x2) σ)) ∧ (¬ x1 ≤ 1 → (wX1_owed b1 l2 l4 σ (fun y4 m3 => ((y4 ≤ 0 → (∀ x5 : Int, x5 = w32 (l4 + 1) → K13 (l2, l3, x5) m3)) ∧ (¬ y4 ≤ 0 → ((l3 = 0 → wX7_lengthFrom_62 b1 K13 Q l2 l4 x1 m3) ∧ (¬ l3 = 0 → ((l3 ≤ x1 → (∀ x6 : Int, x6 = w32 (l4 + 1) → K13 (l2, l3, x6) m3)) ∧ (¬ l3 ≤ x1 → wX7_lengthFrom_62 b1 K13 Q l2 l4 x1 m3))))))))))))))
def wLX7_lengthFrom_13 (b1 : Nat) (Q : Int → Mem → Prop) (l2 : Int) (l3 : Int) (l4 : Int) (σ : Mem) : Prop := ∃ n, lp (fun (K13 : (Int × Int × Int) → Mem → Prop) (x : Int × Int × Int) (σ : Mem) => wX7_lengthFrom_13 b1 K13 Q x.1 x.2.1 x.2.2 σ) n (l2, l3, l4) σ
def wX7_lengthFrom (b1 : Nat) (l2 : Int) (σ : Mem) (Q : Int → Mem → Prop) : Prop := (wX7_measure b1 l2 σ (fun m1 => (∀ x2 : Int, x2 = w32 (l2 + 1) → wLX7_lengthFrom_13 b1 Q l2 0 x2 m1)))
set_option maxHeartbeats 1000000 in
theorem bX7_lengthFrom_62 {E : TE} {b1 : Nat} (hb1 : isBk b1) {K13 : (Int × Int × Int) → Mem → Prop} (hK13 : ∀ (x : Int × Int × Int) (σ : Mem), K13 x σ → GW E cX7_lengthFrom 6 RX7 2 48 σ 13 [(0, vR 32), (1, vR b1), (2, vI x.1), (3, vI x.2.1), (4, vI x.2.2)] []) {Q : Int → Mem → Prop} (hR : RI E (some .int) Q) {l2 : Int} {l4 : Int} {l5 : Int} {σ : Mem} (h : wX7_lengthFrom_62 b1 K13 Q l2 l4 l5 σ) : GW E cX7_lengthFrom 6 RX7 2 48 σ 62 [(0, vR 32), (1, vR b1), (2, vI l2), (4, vI l4), (5, vI l5)] [] := by
  unfold wX7_lengthFrom_62 at h
  refine g_iload dX7_lengthFrom_62 rfl ?_
  refine g_istore_n (lv' := [(3, vI l5), (0, vR 32), (1, vR b1), (2, vI l2), (4, vI l4), (5, vI l5)]) dX7_lengthFrom_64 (by decide) rfl ?_
  refine g_iinc (lv' := [(4, vI (w32 (l4 + 1))), (3, vI l5), (0, vR 32), (1, vR b1), (2, vI l2), (5, vI l5)]) dX7_lengthFrom_65 rfl (by decide) rfl ?_
  refine g_loc (a := w32 (l4 + 1)) (i := 4) (lv := [(3, vI l5), (0, vR 32), (1, vR b1), (2, vI l2), (5, vI l5)]) (fun x1 ex1 => ?_)
  replace h := h x1 ex1
  refine g_goto (tgt := 13) dX7_lengthFrom_68 (by decide) ?_
  refine g_lv (lv' := [(0, vR 32), (1, vR b1), (2, vI l2), (3, vI l5), (4, vI x1)]) [2, 3, 4, 1, 0] rfl ?_
  exact hK13 ((l2, l5, x1)) σ h
set_option maxHeartbeats 1000000 in
theorem bX7_lengthFrom_13 {E : TE} {b1 : Nat} (hb1 : isBk b1) {K13 : (Int × Int × Int) → Mem → Prop} (hK13 : ∀ (x : Int × Int × Int) (σ : Mem), K13 x σ → GW E cX7_lengthFrom 6 RX7 2 48 σ 13 [(0, vR 32), (1, vR b1), (2, vI x.1), (3, vI x.2.1), (4, vI x.2.2)] []) {Q : Int → Mem → Prop} (hR : RI E (some .int) Q) {l2 : Int} {l3 : Int} {l4 : Int} {σ : Mem} (h : wX7_lengthFrom_13 b1 K13 Q l2 l3 l4 σ) : GW E cX7_lengthFrom 6 RX7 2 48 σ 13 [(0, vR 32), (1, vR b1), (2, vI l2), (3, vI l3), (4, vI l4)] [] := by
  unfold wX7_lengthFrom_13 at h
  refine g_iload dX7_lengthFrom_13 rfl ?_
  refine g_aload_n dX7_lengthFrom_15 rfl ?_
  refine g_getI fl_7_25 (kd_bk0 hb1) rfl dX7_lengthFrom_16 ?_
  obtain ⟨hA, hB⟩ := h
  refine g_icmp_ge (tgt := 71) dX7_lengthFrom_19 (by decide) (fun hc => ?_) (fun hc => ?_)
  · replace h := hA hc
    refine g_iload_n dX7_lengthFrom_71 rfl ?_
    exact g_iret hR dX7_lengthFrom_72 h
  · replace h := hB hc
    refine g_aload_n dX7_lengthFrom_22 rfl ?_
    refine g_getR (r := 33) fl_7_9 kd_32 rfl dX7_lengthFrom_23 ?_
    refine g_iload dX7_lengthFrom_26 rfl ?_
    refine g_bipush dX7_lengthFrom_28 7 rfl (by decide) ?_
    refine g_iand dX7_lengthFrom_30 ?_
    obtain ⟨hin, h⟩ := h
    refine g_iald kd_33 hin dX7_lengthFrom_31 ?_
    refine g_iconst dX7_lengthFrom_32 1 rfl (by decide) ?_
    refine g_iadd dX7_lengthFrom_33 ?_
    refine g_topI (fun x1 ex1 => ?_)
    replace h := h x1 ex1
    refine g_istore (lv' := [(5, vI x1), (0, vR 32), (1, vR b1), (2, vI l2), (3, vI l3), (4, vI l4)]) dX7_lengthFrom_34 (by decide) rfl ?_
    refine g_iload dX7_lengthFrom_36 rfl ?_
    refine g_iconst dX7_lengthFrom_38 1 rfl (by decide) ?_
    obtain ⟨hA, hB⟩ := h
    refine g_icmp_le (tgt := 65) dX7_lengthFrom_39 (by decide) (fun hc => ?_) (fun hc => ?_)
    · replace h := hA hc
      refine g_iinc (lv' := [(4, vI (w32 (l4 + 1))), (5, vI x1), (0, vR 32), (1, vR b1), (2, vI l2), (3, vI l3)]) dX7_lengthFrom_65 rfl (by decide) rfl ?_
      refine g_loc (a := w32 (l4 + 1)) (i := 4) (lv := [(5, vI x1), (0, vR 32), (1, vR b1), (2, vI l2), (3, vI l3)]) (fun x2 ex2 => ?_)
      replace h := h x2 ex2
      refine g_goto (tgt := 13) dX7_lengthFrom_68 (by decide) ?_
      refine g_lv (lv' := [(0, vR 32), (1, vR b1), (2, vI l2), (3, vI l3), (4, vI x2)]) [2, 3, 4, 5, 0] rfl ?_
      exact hK13 ((l2, l3, x2)) σ h
    · replace h := hB hc
      refine g_aload_n dX7_lengthFrom_42 rfl ?_
      refine g_iload_n dX7_lengthFrom_43 rfl ?_
      refine g_iload dX7_lengthFrom_44 rfl ?_
      refine g_cVi (st := []) (av := [vI l2, vI l4]) (kX1_owed hb1 h) (kd_bk0 hb1) rfl cw_RX7_49 (by decide) (by decide) (Nat.le_of_ble_eq_true rfl) rfl dX7_lengthFrom_46 (fun y4 m3 h => ?_)
      obtain ⟨hA, hB⟩ := h
      refine g_if_le (tgt := 65) dX7_lengthFrom_49 (by decide) (fun hc => ?_) (fun hc => ?_)
      · replace h := hA hc
        refine g_iinc (lv' := [(4, vI (w32 (l4 + 1))), (5, vI x1), (0, vR 32), (1, vR b1), (2, vI l2), (3, vI l3)]) dX7_lengthFrom_65 rfl (by decide) rfl ?_
        refine g_loc (a := w32 (l4 + 1)) (i := 4) (lv := [(5, vI x1), (0, vR 32), (1, vR b1), (2, vI l2), (3, vI l3)]) (fun x5 ex5 => ?_)
        replace h := h x5 ex5
        refine g_goto (tgt := 13) dX7_lengthFrom_68 (by decide) ?_
        refine g_lv (lv' := [(0, vR 32), (1, vR b1), (2, vI l2), (3, vI l3), (4, vI x5)]) [2, 3, 4, 5, 0] rfl ?_
        exact hK13 ((l2, l3, x5)) m3 h
      · replace h := hB hc
        refine g_iload_n dX7_lengthFrom_52 rfl ?_
        obtain ⟨hA, hB⟩ := h
        refine g_if_eq (tgt := 62) dX7_lengthFrom_53 (by decide) (fun hc => ?_) (fun hc => ?_)
        · replace h := hA hc
          refine g_lv (lv' := [(0, vR 32), (1, vR b1), (2, vI l2), (4, vI l4), (5, vI x1)]) [1, 2, 3, 5, 0] rfl ?_
          exact bX7_lengthFrom_62 hb1 hK13 hR h
        · replace h := hB hc
          refine g_iload dX7_lengthFrom_56 rfl ?_
          refine g_iload_n dX7_lengthFrom_58 rfl ?_
          obtain ⟨hA, hB⟩ := h
          refine g_icmp_ge (tgt := 65) dX7_lengthFrom_59 (by decide) (fun hc => ?_) (fun hc => ?_)
          · replace h := hA hc
            refine g_iinc (lv' := [(4, vI (w32 (l4 + 1))), (5, vI x1), (0, vR 32), (1, vR b1), (2, vI l2), (3, vI l3)]) dX7_lengthFrom_65 rfl (by decide) rfl ?_
            refine g_loc (a := w32 (l4 + 1)) (i := 4) (lv := [(5, vI x1), (0, vR 32), (1, vR b1), (2, vI l2), (3, vI l3)]) (fun x6 ex6 => ?_)
            replace h := h x6 ex6
            refine g_goto (tgt := 13) dX7_lengthFrom_68 (by decide) ?_
            refine g_lv (lv' := [(0, vR 32), (1, vR b1), (2, vI l2), (3, vI l3), (4, vI x6)]) [2, 3, 4, 5, 0] rfl ?_
            exact hK13 ((l2, l3, x6)) m3 h
          · replace h := hB hc
            refine g_lv (lv' := [(0, vR 32), (1, vR b1), (2, vI l2), (4, vI l4), (5, vI x1)]) [1, 2, 3, 5, 0] rfl ?_
            exact bX7_lengthFrom_62 hb1 hK13 hR h
theorem eX7_lengthFrom_13 {E : TE} {b1 : Nat} (hb1 : isBk b1) {Q : Int → Mem → Prop} (hR : RI E (some .int) Q) {l2 : Int} {l3 : Int} {l4 : Int} {σ : Mem} (h : wLX7_lengthFrom_13 b1 Q l2 l3 l4 σ) : GW E cX7_lengthFrom 6 RX7 2 48 σ 13 [(0, vR 32), (1, vR b1), (2, vI l2), (3, vI l3), (4, vI l4)] [] := by
  obtain ⟨n, h⟩ := h
  exact lp_GW (P := fun (x : Int × Int × Int) (σ : Mem) => GW E cX7_lengthFrom 6 RX7 2 48 σ 13 [(0, vR 32), (1, vR b1), (2, vI x.1), (3, vI x.2.1), (4, vI x.2.2)] []) (fun K hK x σ h  => bX7_lengthFrom_13 hb1 hK hR h) n _ σ h 
set_option maxHeartbeats 1000000 in
theorem kX7_lengthFrom {b1 : Nat} {l2 : Int} (hb1 : isBk b1) {σ : Mem} {Q : Int → Mem → Prop} (h : wX7_lengthFrom b1 l2 σ Q) (l : Launch) (D : va_G) (cy : Nat → ClassId) (ad : Nat → Nat) : MI l yX7_lengthFrom cX7_lengthFrom 6 (some .int) 2 48 D cy ad [vR 32, vR b1, vI l2] σ Q := by
  refine m_I (own := RX7) (lv := [(0, vR 32), (1, vR b1), (2, vI l2)]) (by decide +kernel) rfl (Nat.le_of_ble_eq_true rfl) rfl (fun E hR => ?_) l D cy ad
  unfold wX7_lengthFrom at h
  refine g_aload_n dX7_lengthFrom_0 rfl ?_
  refine g_aload_n dX7_lengthFrom_1 rfl ?_
  refine g_iload_n dX7_lengthFrom_2 rfl ?_
  refine g_cVv (st := []) (av := [vR b1, vI l2]) (kX7_measure hb1 h) kd_32 rfl cw_RX7_34 (by decide) (by decide) (Nat.le_of_ble_eq_true rfl) rfl dX7_lengthFrom_3 (fun m1 h => ?_)
  refine g_iconst dX7_lengthFrom_6 0 rfl (by decide) ?_
  refine g_istore_n (lv' := [(3, vI 0), (0, vR 32), (1, vR b1), (2, vI l2)]) dX7_lengthFrom_7 (by decide) rfl ?_
  refine g_iload_n dX7_lengthFrom_8 rfl ?_
  refine g_iconst dX7_lengthFrom_9 1 rfl (by decide) ?_
  refine g_iadd dX7_lengthFrom_10 ?_
  refine g_topI (fun x2 ex2 => ?_)
  replace h := h x2 ex2
  refine g_istore (lv' := [(4, vI x2), (3, vI 0), (0, vR 32), (1, vR b1), (2, vI l2)]) dX7_lengthFrom_11 (by decide) rfl ?_
  refine g_lv (lv' := [(0, vR 32), (1, vR b1), (2, vI l2), (3, vI 0), (4, vI x2)]) [2, 3, 4, 1, 0] rfl ?_
  exact eX7_lengthFrom_13 hb1 hR h
def wX7_nextTowards_5 (b1 : Nat) (K5 : (Int × Int × Int) → Mem → Prop) (Q : Int → Mem → Prop) (l3 : Int) (l4 : Int) (l5 : Int) (σ : Mem) : Prop := ((σ b1 0 ≤ l5 → Q l3 σ) ∧ (¬ σ b1 0 ≤ l5 → ((0 ≤ band l5 7 ∧ band l5 7 < 8) ∧ ((¬ σ 33 (band l5 7).toNat = l4 → (∀ x1 : Int, x1 = w32 (l5 + 1) → K5 (l3, l4, x1) σ)) ∧ (σ 33 (band l5 7).toNat = l4 → (wX1_owed b1 l3 l5 σ (fun y3 m2 => ((y3 ≤ 0 → (∀ x4 : Int, x4 = w32 (l5 + 1) → K5 (l3, l4, x4) m2)) ∧ (¬ y3 ≤ 0 → Q l5 m2)))))))))
def wLX7_nextTowards_5 (b1 : Nat) (Q : Int → Mem → Prop) (l3 : Int) (l4 : Int) (l5 : Int) (σ : Mem) : Prop := ∃ n, lp (fun (K5 : (Int × Int × Int) → Mem → Prop) (x : Int × Int × Int) (σ : Mem) => wX7_nextTowards_5 b1 K5 Q x.1 x.2.1 x.2.2 σ) n (l3, l4, l5) σ
def wX7_nextTowards (b1 : Nat) (l2 : Int) (l3 : Int) (l4 : Int) (σ : Mem) (Q : Int → Mem → Prop) : Prop := (∀ x1 : Int, x1 = w32 (l2 + 1) → wLX7_nextTowards_5 b1 Q l3 l4 x1 σ)
set_option maxHeartbeats 1000000 in
theorem bX7_nextTowards_5 {E : TE} {b1 : Nat} (hb1 : isBk b1) {K5 : (Int × Int × Int) → Mem → Prop} (hK5 : ∀ (x : Int × Int × Int) (σ : Mem), K5 x σ → GW E cX7_nextTowards 6 RX7 2 46 σ 5 [(0, vR 32), (1, vR b1), (3, vI x.1), (4, vI x.2.1), (5, vI x.2.2)] []) {Q : Int → Mem → Prop} (hR : RI E (some .int) Q) {l3 : Int} {l4 : Int} {l5 : Int} {σ : Mem} (h : wX7_nextTowards_5 b1 K5 Q l3 l4 l5 σ) : GW E cX7_nextTowards 6 RX7 2 46 σ 5 [(0, vR 32), (1, vR b1), (3, vI l3), (4, vI l4), (5, vI l5)] [] := by
  unfold wX7_nextTowards_5 at h
  refine g_iload dX7_nextTowards_5 rfl ?_
  refine g_aload_n dX7_nextTowards_7 rfl ?_
  refine g_getI fl_7_25 (kd_bk0 hb1) rfl dX7_nextTowards_8 ?_
  obtain ⟨hA, hB⟩ := h
  refine g_icmp_ge (tgt := 48) dX7_nextTowards_11 (by decide) (fun hc => ?_) (fun hc => ?_)
  · replace h := hA hc
    refine g_iload_n dX7_nextTowards_48 rfl ?_
    exact g_iret hR dX7_nextTowards_49 h
  · replace h := hB hc
    refine g_aload_n dX7_nextTowards_14 rfl ?_
    refine g_getR (r := 33) fl_7_9 kd_32 rfl dX7_nextTowards_15 ?_
    refine g_iload dX7_nextTowards_18 rfl ?_
    refine g_bipush dX7_nextTowards_20 7 rfl (by decide) ?_
    refine g_iand dX7_nextTowards_22 ?_
    obtain ⟨hin, h⟩ := h
    refine g_iald kd_33 hin dX7_nextTowards_23 ?_
    refine g_iload dX7_nextTowards_24 rfl ?_
    obtain ⟨hA, hB⟩ := h
    refine g_icmp_ne (tgt := 42) dX7_nextTowards_26 (by decide) (fun hc => ?_) (fun hc => ?_)
    · replace h := hA hc
      refine g_iinc (lv' := [(5, vI (w32 (l5 + 1))), (0, vR 32), (1, vR b1), (3, vI l3), (4, vI l4)]) dX7_nextTowards_42 rfl (by decide) rfl ?_
      refine g_loc (a := w32 (l5 + 1)) (i := 5) (lv := [(0, vR 32), (1, vR b1), (3, vI l3), (4, vI l4)]) (fun x1 ex1 => ?_)
      replace h := h x1 ex1
      refine g_goto (tgt := 5) dX7_nextTowards_45 (by decide) ?_
      refine g_lv (lv' := [(0, vR 32), (1, vR b1), (3, vI l3), (4, vI l4), (5, vI x1)]) [1, 2, 3, 4, 0] rfl ?_
      exact hK5 ((l3, l4, x1)) σ h
    · replace h := hB hc
      refine g_aload_n dX7_nextTowards_29 rfl ?_
      refine g_iload_n dX7_nextTowards_30 rfl ?_
      refine g_iload dX7_nextTowards_31 rfl ?_
      refine g_cVi (st := []) (av := [vI l3, vI l5]) (kX1_owed hb1 h) (kd_bk0 hb1) rfl cw_RX7_49 (by decide) (by decide) (Nat.le_of_ble_eq_true rfl) rfl dX7_nextTowards_33 (fun y3 m2 h => ?_)
      obtain ⟨hA, hB⟩ := h
      refine g_if_le (tgt := 42) dX7_nextTowards_36 (by decide) (fun hc => ?_) (fun hc => ?_)
      · replace h := hA hc
        refine g_iinc (lv' := [(5, vI (w32 (l5 + 1))), (0, vR 32), (1, vR b1), (3, vI l3), (4, vI l4)]) dX7_nextTowards_42 rfl (by decide) rfl ?_
        refine g_loc (a := w32 (l5 + 1)) (i := 5) (lv := [(0, vR 32), (1, vR b1), (3, vI l3), (4, vI l4)]) (fun x4 ex4 => ?_)
        replace h := h x4 ex4
        refine g_goto (tgt := 5) dX7_nextTowards_45 (by decide) ?_
        refine g_lv (lv' := [(0, vR 32), (1, vR b1), (3, vI l3), (4, vI l4), (5, vI x4)]) [1, 2, 3, 4, 0] rfl ?_
        exact hK5 ((l3, l4, x4)) m2 h
      · replace h := hB hc
        refine g_iload dX7_nextTowards_39 rfl ?_
        exact g_iret hR dX7_nextTowards_41 h
theorem eX7_nextTowards_5 {E : TE} {b1 : Nat} (hb1 : isBk b1) {Q : Int → Mem → Prop} (hR : RI E (some .int) Q) {l3 : Int} {l4 : Int} {l5 : Int} {σ : Mem} (h : wLX7_nextTowards_5 b1 Q l3 l4 l5 σ) : GW E cX7_nextTowards 6 RX7 2 46 σ 5 [(0, vR 32), (1, vR b1), (3, vI l3), (4, vI l4), (5, vI l5)] [] := by
  obtain ⟨n, h⟩ := h
  exact lp_GW (P := fun (x : Int × Int × Int) (σ : Mem) => GW E cX7_nextTowards 6 RX7 2 46 σ 5 [(0, vR 32), (1, vR b1), (3, vI x.1), (4, vI x.2.1), (5, vI x.2.2)] []) (fun K hK x σ h  => bX7_nextTowards_5 hb1 hK hR h) n _ σ h 
set_option maxHeartbeats 1000000 in
theorem kX7_nextTowards {b1 : Nat} {l2 : Int} {l3 : Int} {l4 : Int} (hb1 : isBk b1) {σ : Mem} {Q : Int → Mem → Prop} (h : wX7_nextTowards b1 l2 l3 l4 σ Q) (l : Launch) (D : va_G) (cy : Nat → ClassId) (ad : Nat → Nat) : MI l yX7_nextTowards cX7_nextTowards 6 (some .int) 2 46 D cy ad [vR 32, vR b1, vI l2, vI l3, vI l4] σ Q := by
  refine m_I (own := RX7) (lv := [(0, vR 32), (1, vR b1), (2, vI l2), (3, vI l3), (4, vI l4)]) (by decide +kernel) rfl (Nat.le_of_ble_eq_true rfl) rfl (fun E hR => ?_) l D cy ad
  unfold wX7_nextTowards at h
  refine g_iload_n dX7_nextTowards_0 rfl ?_
  refine g_iconst dX7_nextTowards_1 1 rfl (by decide) ?_
  refine g_iadd dX7_nextTowards_2 ?_
  refine g_topI (fun x1 ex1 => ?_)
  replace h := h x1 ex1
  refine g_istore (lv' := [(5, vI x1), (0, vR 32), (1, vR b1), (2, vI l2), (3, vI l3), (4, vI l4)]) dX7_nextTowards_3 (by decide) rfl ?_
  refine g_lv (lv' := [(0, vR 32), (1, vR b1), (3, vI l3), (4, vI l4), (5, vI x1)]) [1, 2, 4, 5, 0] rfl ?_
  exact eX7_nextTowards_5 hb1 hR h
def wX7_nextOnRing (l1 : Int) (σ : Mem) (Q : Int → Mem → Prop) : Prop := ((σ 32 3 ≤ w32 (l1 + 1) → (wX7_memberAt 0 σ (fun y2 m1 => Q y2 m1))) ∧ (¬ σ 32 3 ≤ w32 (l1 + 1) → (wX7_memberAt (w32 (l1 + 1)) σ (fun y4 m3 => Q y4 m3))))
set_option maxHeartbeats 1000000 in
theorem kX7_nextOnRing {l1 : Int} {σ : Mem} {Q : Int → Mem → Prop} (h : wX7_nextOnRing l1 σ Q) (l : Launch) (D : va_G) (cy : Nat → ClassId) (ad : Nat → Nat) : MI l yX7_nextOnRing cX7_nextOnRing 2 (some .int) 1 21 D cy ad [vR 32, vI l1] σ Q := by
  refine m_I (own := RX7) (lv := [(0, vR 32), (1, vI l1)]) (by decide +kernel) rfl (Nat.le_of_ble_eq_true rfl) rfl (fun E hR => ?_) l D cy ad
  unfold wX7_nextOnRing at h
  refine g_iload_n dX7_nextOnRing_0 rfl ?_
  refine g_iconst dX7_nextOnRing_1 1 rfl (by decide) ?_
  refine g_iadd dX7_nextOnRing_2 ?_
  refine g_aload_n dX7_nextOnRing_3 rfl ?_
  refine g_getI fl_7_21 kd_32 rfl dX7_nextOnRing_4 ?_
  obtain ⟨hA, hB⟩ := h
  refine g_icmp_ge (tgt := 20) dX7_nextOnRing_7 (by decide) (fun hc => ?_) (fun hc => ?_)
  · replace h := hA hc
    refine g_aload_n dX7_nextOnRing_20 rfl ?_
    refine g_iconst dX7_nextOnRing_21 0 rfl (by decide) ?_
    refine g_cVi (st := []) (av := [vI 0]) (kX7_memberAt h) kd_32 rfl cw_RX7_60 (by decide) (by decide) (Nat.le_of_ble_eq_true rfl) rfl dX7_nextOnRing_22 (fun y2 m1 h => ?_)
    exact g_iret hR dX7_nextOnRing_25 h
  · replace h := hB hc
    refine g_aload_n dX7_nextOnRing_10 rfl ?_
    refine g_iload_n dX7_nextOnRing_11 rfl ?_
    refine g_iconst dX7_nextOnRing_12 1 rfl (by decide) ?_
    refine g_iadd dX7_nextOnRing_13 ?_
    refine g_cVi (st := []) (av := [vI (w32 (l1 + 1))]) (kX7_memberAt h) kd_32 rfl cw_RX7_60 (by decide) (by decide) (Nat.le_of_ble_eq_true rfl) rfl dX7_nextOnRing_14 (fun y4 m3 h => ?_)
    refine g_goto (tgt := 25) dX7_nextOnRing_17 (by decide) ?_
    exact g_iret hR dX7_nextOnRing_25 h
def wX7_leastOwed_5 (b1 : Nat) (K5 : (Int × Int) → Mem → Prop) (Q : Int → Mem → Prop) (l2 : Int) (l3 : Int) (σ : Mem) : Prop := ((σ 32 3 ≤ l3 → Q l2 σ) ∧ (¬ σ 32 3 ≤ l3 → (wX7_memberAt l3 σ (fun y2 m1 => (wX7_nextOnRing l3 m1 (fun y4 m3 => (wX1_owed b1 y2 y4 m3 (fun y6 m5 => (∀ x7 : Int, x7 = min l2 y6 → (∀ x8 : Int, x8 = w32 (l3 + 1) → K5 (x7, x8) m5))))))))))
def wLX7_leastOwed_5 (b1 : Nat) (Q : Int → Mem → Prop) (l2 : Int) (l3 : Int) (σ : Mem) : Prop := ∃ n, lp (fun (K5 : (Int × Int) → Mem → Prop) (x : Int × Int) (σ : Mem) => wX7_leastOwed_5 b1 K5 Q x.1 x.2 σ) n (l2, l3) σ
def wX7_leastOwed (b1 : Nat) (σ : Mem) (Q : Int → Mem → Prop) : Prop := wLX7_leastOwed_5 b1 Q 1000000 0 σ
set_option maxHeartbeats 1000000 in
theorem bX7_leastOwed_5 {E : TE} {b1 : Nat} (hb1 : isBk b1) {K5 : (Int × Int) → Mem → Prop} (hK5 : ∀ (x : Int × Int) (σ : Mem), K5 x σ → GW E cX7_leastOwed 4 RX7 2 46 σ 5 [(0, vR 32), (1, vR b1), (2, vI x.1), (3, vI x.2)] []) {Q : Int → Mem → Prop} (hR : RI E (some .int) Q) {l2 : Int} {l3 : Int} {σ : Mem} (h : wX7_leastOwed_5 b1 K5 Q l2 l3 σ) : GW E cX7_leastOwed 4 RX7 2 46 σ 5 [(0, vR 32), (1, vR b1), (2, vI l2), (3, vI l3)] [] := by
  unfold wX7_leastOwed_5 at h
  refine g_iload_n dX7_leastOwed_5 rfl ?_
  refine g_aload_n dX7_leastOwed_6 rfl ?_
  refine g_getI fl_7_21 kd_32 rfl dX7_leastOwed_7 ?_
  obtain ⟨hA, hB⟩ := h
  refine g_icmp_ge (tgt := 38) dX7_leastOwed_10 (by decide) (fun hc => ?_) (fun hc => ?_)
  · replace h := hA hc
    refine g_iload_n dX7_leastOwed_38 rfl ?_
    exact g_iret hR dX7_leastOwed_39 h
  · replace h := hB hc
    refine g_iload_n dX7_leastOwed_13 rfl ?_
    refine g_aload_n dX7_leastOwed_14 rfl ?_
    refine g_aload_n dX7_leastOwed_15 rfl ?_
    refine g_iload_n dX7_leastOwed_16 rfl ?_
    refine g_cVi (st := [vR b1, vI l2]) (av := [vI l3]) (kX7_memberAt h) kd_32 rfl cw_RX7_60 (by decide) (by decide) (Nat.le_of_ble_eq_true rfl) rfl dX7_leastOwed_17 (fun y2 m1 h => ?_)
    refine g_aload_n dX7_leastOwed_20 rfl ?_
    refine g_iload_n dX7_leastOwed_21 rfl ?_
    refine g_cVi (st := [vI y2, vR b1, vI l2]) (av := [vI l3]) (kX7_nextOnRing h) kd_32 rfl cw_RX7_64 (by decide) (by decide) (Nat.le_of_ble_eq_true rfl) rfl dX7_leastOwed_22 (fun y4 m3 h => ?_)
    refine g_cVi (st := [vI l2]) (av := [vI y2, vI y4]) (kX1_owed hb1 h) (kd_bk0 hb1) rfl cw_RX7_49 (by decide) (by decide) (Nat.le_of_ble_eq_true rfl) rfl dX7_leastOwed_25 (fun y6 m5 h => ?_)
    refine g_mmin q_687 q_641 q_107 q_mmin (by decide) (Nat.le_of_ble_eq_true rfl) dX7_leastOwed_28 ?_
    refine g_topI (fun x7 ex7 => ?_)
    replace h := h x7 ex7
    refine g_istore_n (lv' := [(2, vI x7), (0, vR 32), (1, vR b1), (3, vI l3)]) dX7_leastOwed_31 (by decide) rfl ?_
    refine g_iinc (lv' := [(3, vI (w32 (l3 + 1))), (2, vI x7), (0, vR 32), (1, vR b1)]) dX7_leastOwed_32 rfl (by decide) rfl ?_
    refine g_loc (a := w32 (l3 + 1)) (i := 3) (lv := [(2, vI x7), (0, vR 32), (1, vR b1)]) (fun x8 ex8 => ?_)
    replace h := h x8 ex8
    refine g_goto (tgt := 5) dX7_leastOwed_35 (by decide) ?_
    refine g_lv (lv' := [(0, vR 32), (1, vR b1), (2, vI x7), (3, vI x8)]) [2, 3, 1, 0] rfl ?_
    exact hK5 ((x7, x8)) m5 h
theorem eX7_leastOwed_5 {E : TE} {b1 : Nat} (hb1 : isBk b1) {Q : Int → Mem → Prop} (hR : RI E (some .int) Q) {l2 : Int} {l3 : Int} {σ : Mem} (h : wLX7_leastOwed_5 b1 Q l2 l3 σ) : GW E cX7_leastOwed 4 RX7 2 46 σ 5 [(0, vR 32), (1, vR b1), (2, vI l2), (3, vI l3)] [] := by
  obtain ⟨n, h⟩ := h
  exact lp_GW (P := fun (x : Int × Int) (σ : Mem) => GW E cX7_leastOwed 4 RX7 2 46 σ 5 [(0, vR 32), (1, vR b1), (2, vI x.1), (3, vI x.2)] []) (fun K hK x σ h  => bX7_leastOwed_5 hb1 hK hR h) n _ σ h 
set_option maxHeartbeats 1000000 in
theorem kX7_leastOwed {b1 : Nat} (hb1 : isBk b1) {σ : Mem} {Q : Int → Mem → Prop} (h : wX7_leastOwed b1 σ Q) (l : Launch) (D : va_G) (cy : Nat → ClassId) (ad : Nat → Nat) : MI l yX7_leastOwed cX7_leastOwed 4 (some .int) 2 46 D cy ad [vR 32, vR b1] σ Q := by
  refine m_I (own := RX7) (lv := [(0, vR 32), (1, vR b1)]) (by decide +kernel) rfl (Nat.le_of_ble_eq_true rfl) rfl (fun E hR => ?_) l D cy ad
  unfold wX7_leastOwed at h
  refine g_ldc dX7_leastOwed_0 1000000 q_678 (by decide) ?_
  refine g_istore_n (lv' := [(2, vI 1000000), (0, vR 32), (1, vR b1)]) dX7_leastOwed_2 (by decide) rfl ?_
  refine g_iconst dX7_leastOwed_3 0 rfl (by decide) ?_
  refine g_istore_n (lv' := [(3, vI 0), (2, vI 1000000), (0, vR 32), (1, vR b1)]) dX7_leastOwed_4 (by decide) rfl ?_
  refine g_lv (lv' := [(0, vR 32), (1, vR b1), (2, vI 1000000), (3, vI 0)]) [2, 3, 1, 0] rfl ?_
  exact eX7_leastOwed_5 hb1 hR h
