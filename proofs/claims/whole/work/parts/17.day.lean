def wJ0_isLatin1_aae02 (σ : Mem) (Q : Int → Mem → Prop) : Prop := (((1 : Int) = 0 → Q 0 σ) ∧ (¬ (1 : Int) = 0 → ((¬ (0 : Int) = 0 → Q 0 σ) ∧ ((0 : Int) = 0 → Q 1 σ))))
set_option maxHeartbeats 1000000 in
theorem kJ0_isLatin1_aae02 {σ : Mem} {Q : Int → Mem → Prop} (h : wJ0_isLatin1_aae02 σ Q) (l : Launch) (D : va_G) (cy : Nat → ClassId) (ad : Nat → Nat) : MI l yJ0_isLatin1_aae02 cJ0_isLatin1_aae02 1 (some .boolean) 0 0 D cy ad [vR 400] σ Q := by
  refine m_I (own := RJ0) (lv := [(0, vR 400)]) (by decide +kernel) rfl (Nat.le_of_ble_eq_true rfl) rfl (fun E hR => ?_) l D cy ad
  unfold wJ0_isLatin1_aae02 at h
  refine g_strS q_1615 dJ0_isLatin1_aae02_0 ?_
  obtain ⟨hA, hB⟩ := h
  refine g_if_eq (tgt := 17) dJ0_isLatin1_aae02_3 (by decide) (fun hc => ?_) (fun hc => ?_)
  · replace h := hA hc
    refine g_iconst dJ0_isLatin1_aae02_17 0 rfl (by decide) ?_
    exact g_zret hR dJ0_isLatin1_aae02_18 (by decide) h
  · replace h := hB hc
    refine g_aload_n dJ0_isLatin1_aae02_6 rfl ?_
    refine g_strC q_1746 dJ0_isLatin1_aae02_7 ?_
    obtain ⟨hA, hB⟩ := h
    refine g_if_ne (tgt := 17) dJ0_isLatin1_aae02_10 (by decide) (fun hc => ?_) (fun hc => ?_)
    · replace h := hA hc
      refine g_iconst dJ0_isLatin1_aae02_17 0 rfl (by decide) ?_
      exact g_zret hR dJ0_isLatin1_aae02_18 (by decide) h
    · replace h := hB hc
      refine g_iconst dJ0_isLatin1_aae02_13 1 rfl (by decide) ?_
      refine g_goto (tgt := 18) dJ0_isLatin1_aae02_14 (by decide) ?_
      exact g_zret hR dJ0_isLatin1_aae02_18 (by decide) h
def wJ0_coder_7d493 (σ : Mem) (Q : Int → Mem → Prop) : Prop := (((1 : Int) = 0 → Q 1 σ) ∧ (¬ (1 : Int) = 0 → Q 0 σ))
set_option maxHeartbeats 1000000 in
theorem kJ0_coder_7d493 {σ : Mem} {Q : Int → Mem → Prop} (h : wJ0_coder_7d493 σ Q) (l : Launch) (D : va_G) (cy : Nat → ClassId) (ad : Nat → Nat) : MI l yJ0_coder_7d493 cJ0_coder_7d493 1 (some .byte) 0 0 D cy ad [vR 400] σ Q := by
  refine m_I (own := RJ0) (lv := [(0, vR 400)]) (by decide +kernel) rfl (Nat.le_of_ble_eq_true rfl) rfl (fun E hR => ?_) l D cy ad
  unfold wJ0_coder_7d493 at h
  refine g_strS q_1615 dJ0_coder_7d493_0 ?_
  obtain ⟨hA, hB⟩ := h
  refine g_if_eq (tgt := 13) dJ0_coder_7d493_3 (by decide) (fun hc => ?_) (fun hc => ?_)
  · replace h := hA hc
    refine g_iconst dJ0_coder_7d493_13 1 rfl (by decide) ?_
    exact g_bret hR dJ0_coder_7d493_14 (by decide) h
  · replace h := hB hc
    refine g_aload_n dJ0_coder_7d493_6 rfl ?_
    refine g_strC q_1746 dJ0_coder_7d493_7 ?_
    refine g_goto (tgt := 14) dJ0_coder_7d493_10 (by decide) ?_
    exact g_bret hR dJ0_coder_7d493_14 (by decide) h
def wJ0_length_8abf5 (σ : Mem) (Q : Int → Mem → Prop) : Prop := (wJ0_coder_7d493  σ (fun y2 m1 => Q (bshr 9 y2) m1))
set_option maxHeartbeats 1000000 in
theorem kJ0_length_8abf5 {σ : Mem} {Q : Int → Mem → Prop} (h : wJ0_length_8abf5 σ Q) (l : Launch) (D : va_G) (cy : Nat → ClassId) (ad : Nat → Nat) : MI l yJ0_length_8abf5 cJ0_length_8abf5 1 (some .int) 1 20 D cy ad [vR 400] σ Q := by
  refine m_I (own := RJ0) (lv := [(0, vR 400)]) (by decide +kernel) rfl (Nat.le_of_ble_eq_true rfl) rfl (fun E hR => ?_) l D cy ad
  unfold wJ0_length_8abf5 at h
  refine g_aload_n dJ0_length_8abf5_0 rfl ?_
  refine g_strV q_1747 dJ0_length_8abf5_1 ?_
  refine g_strL dJ0_length_8abf5_4 ?_
  refine g_aload_n dJ0_length_8abf5_5 rfl ?_
  refine g_cV4 (st := [vI 9]) (av := []) (kJ0_coder_7d493 h) cw_RJ0_335 (by decide) (by decide) (Nat.le_of_ble_eq_true rfl) rfl dJ0_length_8abf5_6 (fun y2 m1 h => ?_)
  refine g_ishr dJ0_length_8abf5_9 ?_
  exact g_iret hR dJ0_length_8abf5_10 h
def wJ1_canEncode_9a6ad (l0 : Int) (σ : Mem) (Q : Int → Mem → Prop) : Prop := ((l0 < 0 → Q 0 σ) ∧ (¬ l0 < 0 → ((255 < l0 → Q 0 σ) ∧ (¬ 255 < l0 → Q 1 σ))))
set_option maxHeartbeats 1000000 in
theorem kJ1_canEncode_9a6ad {l0 : Int} {σ : Mem} {Q : Int → Mem → Prop} (h : wJ1_canEncode_9a6ad l0 σ Q) (l : Launch) (D : va_G) (cy : Nat → ClassId) (ad : Nat → Nat) : MI l yJ1_canEncode_9a6ad cJ1_canEncode_9a6ad 1 (some .boolean) 0 0 D cy ad [vI l0] σ Q := by
  refine m_I (own := RJ1) (lv := [(0, vI l0)]) (by decide +kernel) rfl (Nat.le_of_ble_eq_true rfl) rfl (fun E hR => ?_) l D cy ad
  unfold wJ1_canEncode_9a6ad at h
  refine g_iload_n dJ1_canEncode_9a6ad_0 rfl ?_
  obtain ⟨hA, hB⟩ := h
  refine g_if_lt (tgt := 15) dJ1_canEncode_9a6ad_1 (by decide) (fun hc => ?_) (fun hc => ?_)
  · replace h := hA hc
    refine g_iconst dJ1_canEncode_9a6ad_15 0 rfl (by decide) ?_
    exact g_zret hR dJ1_canEncode_9a6ad_16 (by decide) h
  · replace h := hB hc
    refine g_iload_n dJ1_canEncode_9a6ad_4 rfl ?_
    refine g_sipush dJ1_canEncode_9a6ad_5 255 rfl (by decide) ?_
    obtain ⟨hA, hB⟩ := h
    refine g_icmp_gt (tgt := 15) dJ1_canEncode_9a6ad_8 (by decide) (fun hc => ?_) (fun hc => ?_)
    · replace h := hA hc
      refine g_iconst dJ1_canEncode_9a6ad_15 0 rfl (by decide) ?_
      exact g_zret hR dJ1_canEncode_9a6ad_16 (by decide) h
    · replace h := hB hc
      refine g_iconst dJ1_canEncode_9a6ad_11 1 rfl (by decide) ?_
      refine g_goto (tgt := 16) dJ1_canEncode_9a6ad_12 (by decide) ?_
      exact g_zret hR dJ1_canEncode_9a6ad_16 (by decide) h
def wJ1_indexOfChar_4cfef_7 (K7 : (Int × Int × Int) → Mem → Prop) (Q : Int → Mem → Prop) (l3 : Int) (l4 : Int) (l5 : Int) (σ : Mem) : Prop := ((l3 ≤ l5 → Q ((-1)) σ) ∧ (¬ l3 ≤ l5 → ((0 ≤ l5 ∧ l5 < 9) ∧ ((¬ sxI l5.toNat = l4 → (∀ x1 : Int, x1 = w32 (l5 + 1) → K7 (l3, l4, x1) σ)) ∧ (sxI l5.toNat = l4 → Q l5 σ)))))
def wLJ1_indexOfChar_4cfef_7 (Q : Int → Mem → Prop) (l3 : Int) (l4 : Int) (l5 : Int) (σ : Mem) : Prop := ∃ n, lp (fun (K7 : (Int × Int × Int) → Mem → Prop) (x : Int × Int × Int) (σ : Mem) => wJ1_indexOfChar_4cfef_7 K7 Q x.1 x.2.1 x.2.2 σ) n (l3, l4, l5) σ
def wJ1_indexOfChar_4cfef (l1 : Int) (l2 : Int) (l3 : Int) (σ : Mem) (Q : Int → Mem → Prop) : Prop := (∀ x1 : Int, x1 = i8 l1 → wLJ1_indexOfChar_4cfef_7 Q l3 x1 l2 σ)
set_option maxHeartbeats 1000000 in
theorem bJ1_indexOfChar_4cfef_7 {E : TE} {K7 : (Int × Int × Int) → Mem → Prop} (hK7 : ∀ (x : Int × Int × Int) (σ : Mem), K7 x σ → GW E cJ1_indexOfChar_4cfef 6 RJ1 0 0 σ 7 [(0, vR 401), (3, vI x.1), (4, vI x.2.1), (5, vI x.2.2)] []) {Q : Int → Mem → Prop} (hR : RI E (some .int) Q) {l3 : Int} {l4 : Int} {l5 : Int} {σ : Mem} (h : wJ1_indexOfChar_4cfef_7 K7 Q l3 l4 l5 σ) : GW E cJ1_indexOfChar_4cfef 6 RJ1 0 0 σ 7 [(0, vR 401), (3, vI l3), (4, vI l4), (5, vI l5)] [] := by
  unfold wJ1_indexOfChar_4cfef_7 at h
  refine g_iload dJ1_indexOfChar_4cfef_7 rfl ?_
  refine g_iload_n dJ1_indexOfChar_4cfef_9 rfl ?_
  obtain ⟨hA, hB⟩ := h
  refine g_icmp_ge (tgt := 31) dJ1_indexOfChar_4cfef_10 (by decide) (fun hc => ?_) (fun hc => ?_)
  · replace h := hA hc
    refine g_iconst dJ1_indexOfChar_4cfef_31 (-1) rfl (by decide) ?_
    exact g_iret hR dJ1_indexOfChar_4cfef_32 h
  · replace h := hB hc
    refine g_aload_n dJ1_indexOfChar_4cfef_13 rfl ?_
    refine g_iload dJ1_indexOfChar_4cfef_14 rfl ?_
    obtain ⟨hin, h⟩ := h
    refine g_strB hin dJ1_indexOfChar_4cfef_16 ?_
    refine g_iload dJ1_indexOfChar_4cfef_17 rfl ?_
    obtain ⟨hA, hB⟩ := h
    refine g_icmp_ne (tgt := 25) dJ1_indexOfChar_4cfef_19 (by decide) (fun hc => ?_) (fun hc => ?_)
    · replace h := hA hc
      refine g_iinc (lv' := [(5, vI (w32 (l5 + 1))), (0, vR 401), (3, vI l3), (4, vI l4)]) dJ1_indexOfChar_4cfef_25 rfl (by decide) rfl ?_
      refine g_loc (a := w32 (l5 + 1)) (i := 5) (lv := [(0, vR 401), (3, vI l3), (4, vI l4)]) (fun x1 ex1 => ?_)
      replace h := h x1 ex1
      refine g_goto (tgt := 7) dJ1_indexOfChar_4cfef_28 (by decide) ?_
      refine g_lv (lv' := [(0, vR 401), (3, vI l3), (4, vI l4), (5, vI x1)]) [1, 2, 3, 0] rfl ?_
      exact hK7 ((l3, l4, x1)) σ h
    · replace h := hB hc
      refine g_iload dJ1_indexOfChar_4cfef_22 rfl ?_
      exact g_iret hR dJ1_indexOfChar_4cfef_24 h
theorem eJ1_indexOfChar_4cfef_7 {E : TE} {Q : Int → Mem → Prop} (hR : RI E (some .int) Q) {l3 : Int} {l4 : Int} {l5 : Int} {σ : Mem} (h : wLJ1_indexOfChar_4cfef_7 Q l3 l4 l5 σ) : GW E cJ1_indexOfChar_4cfef 6 RJ1 0 0 σ 7 [(0, vR 401), (3, vI l3), (4, vI l4), (5, vI l5)] [] := by
  obtain ⟨n, h⟩ := h
  exact lp_GW (P := fun (x : Int × Int × Int) (σ : Mem) => GW E cJ1_indexOfChar_4cfef 6 RJ1 0 0 σ 7 [(0, vR 401), (3, vI x.1), (4, vI x.2.1), (5, vI x.2.2)] []) (fun K hK x σ h  => bJ1_indexOfChar_4cfef_7 hK hR h) n _ σ h 
set_option maxHeartbeats 1000000 in
theorem kJ1_indexOfChar_4cfef {l1 : Int} {l2 : Int} {l3 : Int} {σ : Mem} {Q : Int → Mem → Prop} (h : wJ1_indexOfChar_4cfef l1 l2 l3 σ Q) (l : Launch) (D : va_G) (cy : Nat → ClassId) (ad : Nat → Nat) : MI l yJ1_indexOfChar_4cfef cJ1_indexOfChar_4cfef 6 (some .int) 0 0 D cy ad [vR 401, vI l1, vI l2, vI l3] σ Q := by
  refine m_I (own := RJ1) (lv := [(0, vR 401), (1, vI l1), (2, vI l2), (3, vI l3)]) (by decide +kernel) rfl (Nat.le_of_ble_eq_true rfl) rfl (fun E hR => ?_) l D cy ad
  unfold wJ1_indexOfChar_4cfef at h
  refine g_iload_n dJ1_indexOfChar_4cfef_0 rfl ?_
  refine g_i2b dJ1_indexOfChar_4cfef_1 ?_
  refine g_topI (fun x1 ex1 => ?_)
  replace h := h x1 ex1
  refine g_istore (lv' := [(4, vI x1), (0, vR 401), (1, vI l1), (2, vI l2), (3, vI l3)]) dJ1_indexOfChar_4cfef_2 (by decide) rfl ?_
  refine g_iload_n dJ1_indexOfChar_4cfef_4 rfl ?_
  refine g_istore (lv' := [(5, vI l2), (4, vI x1), (0, vR 401), (1, vI l1), (2, vI l2), (3, vI l3)]) dJ1_indexOfChar_4cfef_5 (by decide) rfl ?_
  refine g_lv (lv' := [(0, vR 401), (3, vI l3), (4, vI x1), (5, vI l2)]) [2, 5, 1, 0] rfl ?_
  exact eJ1_indexOfChar_4cfef_7 hR h
def wJ1_indexOf_4cfef (l1 : Int) (l2 : Int) (l3 : Int) (σ : Mem) (Q : Int → Mem → Prop) : Prop := (wJ1_canEncode_9a6ad l1 σ (fun y2 m1 => ((¬ y2 = 0 → (∀ x3 : Int, x3 = max l2 0 → (∀ x4 : Int, x4 = min l3 9 → ((x3 < x4 → (wJ1_indexOfChar_4cfef l1 x3 x4 m1 (fun y6 m5 => Q y6 m5))) ∧ (¬ x3 < x4 → Q ((-1)) m1))))) ∧ (y2 = 0 → Q ((-1)) m1))))
set_option maxHeartbeats 1000000 in
theorem kJ1_indexOf_4cfef {l1 : Int} {l2 : Int} {l3 : Int} {σ : Mem} {Q : Int → Mem → Prop} (h : wJ1_indexOf_4cfef l1 l2 l3 σ Q) (l : Launch) (D : va_G) (cy : Nat → ClassId) (ad : Nat → Nat) : MI l yJ1_indexOf_4cfef cJ1_indexOf_4cfef 4 (some .int) 1 25 D cy ad [vR 401, vI l1, vI l2, vI l3] σ Q := by
  refine m_I (own := RJ1) (lv := [(0, vR 401), (1, vI l1), (2, vI l2), (3, vI l3)]) (by decide +kernel) rfl (Nat.le_of_ble_eq_true rfl) rfl (fun E hR => ?_) l D cy ad
  unfold wJ1_indexOf_4cfef at h
  refine g_iload_n dJ1_indexOf_4cfef_0 rfl ?_
  refine g_cSi (st := []) (av := [vI l1]) (kJ1_canEncode_9a6ad h) cw_RJ1_88 (by decide) (by decide) (Nat.le_of_ble_eq_true rfl) rfl dJ1_indexOf_4cfef_1 (fun y2 m1 h => ?_)
  obtain ⟨hA, hB⟩ := h
  refine g_if_ne (tgt := 9) dJ1_indexOf_4cfef_4 (by decide) (fun hc => ?_) (fun hc => ?_)
  · replace h := hA hc
    refine g_iload_n dJ1_indexOf_4cfef_9 rfl ?_
    refine g_iconst dJ1_indexOf_4cfef_10 0 rfl (by decide) ?_
    refine g_mmax q_1631 q_519 q_107 q_mmax (by decide) (Nat.le_of_ble_eq_true rfl) dJ1_indexOf_4cfef_11 ?_
    refine g_topI (fun x3 ex3 => ?_)
    replace h := h x3 ex3
    refine g_istore_n (lv' := [(2, vI x3), (0, vR 401), (1, vI l1), (3, vI l3)]) dJ1_indexOf_4cfef_14 (by decide) rfl ?_
    refine g_iload_n dJ1_indexOf_4cfef_15 rfl ?_
    refine g_aload_n dJ1_indexOf_4cfef_16 rfl ?_
    refine g_strL dJ1_indexOf_4cfef_17 ?_
    refine g_mmin q_1632 q_641 q_107 q_mmin (by decide) (Nat.le_of_ble_eq_true rfl) dJ1_indexOf_4cfef_18 ?_
    refine g_topI (fun x4 ex4 => ?_)
    replace h := h x4 ex4
    refine g_istore_n (lv' := [(3, vI x4), (2, vI x3), (0, vR 401), (1, vI l1)]) dJ1_indexOf_4cfef_21 (by decide) rfl ?_
    refine g_iload_n dJ1_indexOf_4cfef_22 rfl ?_
    refine g_iload_n dJ1_indexOf_4cfef_23 rfl ?_
    obtain ⟨hA, hB⟩ := h
    refine g_icmp_lt (tgt := 29) dJ1_indexOf_4cfef_24 (by decide) (fun hc => ?_) (fun hc => ?_)
    · replace h := hA hc
      refine g_aload_n dJ1_indexOf_4cfef_29 rfl ?_
      refine g_iload_n dJ1_indexOf_4cfef_30 rfl ?_
      refine g_iload_n dJ1_indexOf_4cfef_31 rfl ?_
      refine g_iload_n dJ1_indexOf_4cfef_32 rfl ?_
      refine g_cSi (st := []) (av := [vR 401, vI l1, vI x3, vI x4]) (kJ1_indexOfChar_4cfef h) cw_RJ1_95 (by decide) (by decide) (Nat.le_of_ble_eq_true rfl) rfl dJ1_indexOf_4cfef_33 (fun y6 m5 h => ?_)
      exact g_iret hR dJ1_indexOf_4cfef_36 h
    · replace h := hB hc
      refine g_iconst dJ1_indexOf_4cfef_27 (-1) rfl (by decide) ?_
      exact g_iret hR dJ1_indexOf_4cfef_28 h
  · replace h := hB hc
    refine g_iconst dJ1_indexOf_4cfef_7 (-1) rfl (by decide) ?_
    exact g_iret hR dJ1_indexOf_4cfef_8 h
def wJ0_indexOf_7cf53 (l1 : Int) (l2 : Int) (σ : Mem) (Q : Int → Mem → Prop) : Prop := (wJ0_isLatin1_aae02  σ (fun y2 m1 => ((y2 = 0 → (wJ0_length_8abf5  m1 (fun y4 m3 => False))) ∧ (¬ y2 = 0 → (wJ0_length_8abf5  m1 (fun y6 m5 => (wJ1_indexOf_4cfef l1 l2 y6 m5 (fun y8 m7 => Q y8 m7))))))))
set_option maxHeartbeats 1000000 in
theorem kJ0_indexOf_7cf53 {l1 : Int} {l2 : Int} {σ : Mem} {Q : Int → Mem → Prop} (h : wJ0_indexOf_7cf53 l1 l2 σ Q) (l : Launch) (D : va_G) (cy : Nat → ClassId) (ad : Nat → Nat) : MI l yJ0_indexOf_7cf53 cJ0_indexOf_7cf53 3 (some .int) 2 48 D cy ad [vR 400, vI l1, vI l2] σ Q := by
  refine m_I (own := RJ0) (lv := [(0, vR 400), (1, vI l1), (2, vI l2)]) (by decide +kernel) rfl (Nat.le_of_ble_eq_true rfl) rfl (fun E hR => ?_) l D cy ad
  unfold wJ0_indexOf_7cf53 at h
  refine g_aload_n dJ0_indexOf_7cf53_0 rfl ?_
  refine g_cV4 (st := []) (av := []) (kJ0_isLatin1_aae02 h) cw_RJ0_492 (by decide) (by decide) (Nat.le_of_ble_eq_true rfl) rfl dJ0_indexOf_7cf53_1 (fun y2 m1 h => ?_)
  obtain ⟨hA, hB⟩ := h
  refine g_if_eq (tgt := 23) dJ0_indexOf_7cf53_4 (by decide) (fun hc => ?_) (fun hc => ?_)
  · replace h := hA hc
    refine g_aload_n dJ0_indexOf_7cf53_23 rfl ?_
    refine g_strV q_1747 dJ0_indexOf_7cf53_24 ?_
    refine g_iload_n dJ0_indexOf_7cf53_27 rfl ?_
    refine g_iload_n dJ0_indexOf_7cf53_28 rfl ?_
    refine g_aload_n dJ0_indexOf_7cf53_29 rfl ?_
    refine g_cV4 (st := [vI l2, vI l1, vR 401]) (av := []) (kJ0_length_8abf5 h) cw_RJ0_505 (by decide) (by decide) (Nat.le_of_ble_eq_true rfl) rfl dJ0_indexOf_7cf53_30 (fun y4 m3 h => ?_)
    exact h.elim
  · replace h := hB hc
    refine g_aload_n dJ0_indexOf_7cf53_7 rfl ?_
    refine g_strV q_1747 dJ0_indexOf_7cf53_8 ?_
    refine g_iload_n dJ0_indexOf_7cf53_11 rfl ?_
    refine g_iload_n dJ0_indexOf_7cf53_12 rfl ?_
    refine g_aload_n dJ0_indexOf_7cf53_13 rfl ?_
    refine g_cV4 (st := [vI l2, vI l1, vR 401]) (av := []) (kJ0_length_8abf5 h) cw_RJ0_505 (by decide) (by decide) (Nat.le_of_ble_eq_true rfl) rfl dJ0_indexOf_7cf53_14 (fun y6 m5 h => ?_)
    refine g_cJi (st := []) (av := [vR 401, vI l1, vI l2, vI y6]) (kJ1_indexOf_4cfef h) cw_RJ0_637 (by decide) (by decide) (Nat.le_of_ble_eq_true rfl) rfl dJ0_indexOf_7cf53_17 (fun y8 m7 h => ?_)
    refine g_goto (tgt := 36) dJ0_indexOf_7cf53_20 (by decide) ?_
    exact g_iret hR dJ0_indexOf_7cf53_36 h
def wJ0_indexOf_0f7a4 (l1 : Int) (σ : Mem) (Q : Int → Mem → Prop) : Prop := (wJ0_indexOf_7cf53 l1 0 σ (fun y2 m1 => Q y2 m1))
set_option maxHeartbeats 1000000 in
theorem kJ0_indexOf_0f7a4 {l1 : Int} {σ : Mem} {Q : Int → Mem → Prop} (h : wJ0_indexOf_0f7a4 l1 σ Q) (l : Launch) (D : va_G) (cy : Nat → ClassId) (ad : Nat → Nat) : MI l yJ0_indexOf_0f7a4 cJ0_indexOf_0f7a4 2 (some .int) 3 70 D cy ad [vR 400, vI l1] σ Q := by
  refine m_I (own := RJ0) (lv := [(0, vR 400), (1, vI l1)]) (by decide +kernel) rfl (Nat.le_of_ble_eq_true rfl) rfl (fun E hR => ?_) l D cy ad
  unfold wJ0_indexOf_0f7a4 at h
  refine g_aload_n dJ0_indexOf_0f7a4_0 rfl ?_
  refine g_iload_n dJ0_indexOf_0f7a4_1 rfl ?_
  refine g_iconst dJ0_indexOf_0f7a4_2 0 rfl (by decide) ?_
  refine g_cV4 (st := []) (av := [vI l1, vI 0]) (kJ0_indexOf_7cf53 h) cw_RJ0_633 (by decide) (by decide) (Nat.le_of_ble_eq_true rfl) rfl dJ0_indexOf_0f7a4_3 (fun y2 m1 h => ?_)
  exact g_iret hR dJ0_indexOf_0f7a4_6 h
def wX11_readAct_145 (Q : Mem → Prop) (s0 : Int) (s2 : Int) (σ : Mem) : Prop := (wX11_digits s0 σ (fun y2 m1 => ((0 ≤ s2 ∧ s2 < 320) ∧ (∀ m3 : Mem, m3 = up2 m1 310 s2.toNat y2 → Q m3))))
def wX11_readAct_120 (Q : Mem → Prop) (l1 : Int) (l2 : Int) (σ : Mem) : Prop := ((l2 = 108 → wX11_readAct_145 Q 3 (w32 (l1 + 3)) σ) ∧ (¬ l2 = 108 → ((¬ l2 = 107 → wX11_readAct_145 Q 4 (w32 (l1 + 3)) σ) ∧ (l2 = 107 → wX11_readAct_145 Q 3 (w32 (l1 + 3)) σ))))
def wX11_readAct_84 (Q : Mem → Prop) (l1 : Int) (l2 : Int) (s0 : Int) (s1 : Int) (σ : Mem) : Prop := ((0 ≤ s1 ∧ s1 < 320) ∧ (∀ m1 : Mem, m1 = up2 σ 310 s1.toNat s0 → ((l2 = 109 → Q m1) ∧ (¬ l2 = 109 → ((¬ l2 = 103 → ((l2 = 107 → wX11_readAct_120 Q l1 l2 m1) ∧ (¬ l2 = 107 → (wX11_oneOf 97 8 m1 (fun y3 m2 => ((0 ≤ w32 (l1 + 2) ∧ w32 (l1 + 2) < 320) ∧ (∀ m4 : Mem, m4 = up2 m2 310 (w32 (l1 + 2)).toNat y3 → wX11_readAct_120 Q l1 l2 m4))))))) ∧ (l2 = 103 → Q m1))))))
def wX11_readAct_68 (Q : Mem → Prop) (l1 : Int) (l2 : Int) (s0 : Int) (σ : Mem) : Prop := (wX11_digits 1 σ (fun y2 m1 => wX11_readAct_84 Q l1 l2 y2 s0 m1))
def wX11_readAct (l1 : Int) (σ : Mem) (Q : Mem → Prop) : Prop := (wX11_here  σ (fun y2 m1 => (wJ0_indexOf_0f7a4 (u16 y2) m1 (fun y4 m3 => ((0 ≤ y4 → (∀ m5 : Mem, m5 = up2 m3 300 7 (w32 ((m3 300 7) + 1)) → ((0 ≤ l1 ∧ l1 < 320) ∧ (∀ m6 : Mem, m6 = up2 m5 310 l1.toNat y2 → ((¬ y2 = 115 → ((y2 = 109 → wX11_readAct_68 Q l1 y2 (w32 (l1 + 1)) m6) ∧ (¬ y2 = 109 → ((¬ y2 = 103 → (wX11_oneOf 97 8 m6 (fun y8 m7 => wX11_readAct_84 Q l1 y2 y8 (w32 (l1 + 1)) m7))) ∧ (y2 = 103 → wX11_readAct_68 Q l1 y2 (w32 (l1 + 1)) m6))))) ∧ (y2 = 115 → Q m6)))))) ∧ (¬ 0 ≤ y4 → (wX11_fault (m3 300 7) m3 (fun m9 => Q m9))))))))
set_option maxHeartbeats 1000000 in
theorem bX11_readAct_145 {E : TE} {Q : Mem → Prop} (hR : RV E none Q) {s0 : Int} {s2 : Int} {σ : Mem} (h : wX11_readAct_145 Q s0 s2 σ) : GW E cX11_readAct 3 RX11 4 91 σ 145 [] [vI s0, vR 300, vI s2, vR 310] := by
  unfold wX11_readAct_145 at h
  refine g_cVi (st := [vI s2, vR 310]) (av := [vI s0]) (kX11_digits h) kd_300 rfl cw_RX11_132 (by decide) (by decide) (Nat.le_of_ble_eq_true rfl) rfl dX11_readAct_145 (fun y2 m1 h => ?_)
  obtain ⟨hin, h⟩ := h
  refine g_iast kd_310 hin dX11_readAct_148 ?_
  refine g_nm (fun m3 em3 => ?_)
  replace h := h m3 em3
  exact g_vret hR dX11_readAct_149 h
set_option maxHeartbeats 1000000 in
theorem bX11_readAct_120 {E : TE} {Q : Mem → Prop} (hR : RV E none Q) {l1 : Int} {l2 : Int} {σ : Mem} (h : wX11_readAct_120 Q l1 l2 σ) : GW E cX11_readAct 3 RX11 4 91 σ 120 [(0, vR 300), (1, vI l1), (2, vI l2)] [] := by
  unfold wX11_readAct_120 at h
  refine g_aload_n dX11_readAct_120 rfl ?_
  refine g_getR (r := 310) fl_11_21 kd_300 rfl dX11_readAct_121 ?_
  refine g_iload_n dX11_readAct_124 rfl ?_
  refine g_iconst dX11_readAct_125 3 rfl (by decide) ?_
  refine g_iadd dX11_readAct_126 ?_
  refine g_aload_n dX11_readAct_127 rfl ?_
  refine g_iload_n dX11_readAct_128 rfl ?_
  refine g_bipush dX11_readAct_129 108 rfl (by decide) ?_
  obtain ⟨hA, hB⟩ := h
  refine g_icmp_eq (tgt := 140) dX11_readAct_131 (by decide) (fun hc => ?_) (fun hc => ?_)
  · replace h := hA hc
    refine g_iconst dX11_readAct_140 3 rfl (by decide) ?_
    refine g_goto (tgt := 145) dX11_readAct_141 (by decide) ?_
    refine g_lv (lv' := []) [] rfl ?_
    exact bX11_readAct_145 hR h
  · replace h := hB hc
    refine g_iload_n dX11_readAct_134 rfl ?_
    refine g_bipush dX11_readAct_135 107 rfl (by decide) ?_
    obtain ⟨hA, hB⟩ := h
    refine g_icmp_ne (tgt := 144) dX11_readAct_137 (by decide) (fun hc => ?_) (fun hc => ?_)
    · replace h := hA hc
      refine g_iconst dX11_readAct_144 4 rfl (by decide) ?_
      refine g_lv (lv' := []) [] rfl ?_
      exact bX11_readAct_145 hR h
    · replace h := hB hc
      refine g_iconst dX11_readAct_140 3 rfl (by decide) ?_
      refine g_goto (tgt := 145) dX11_readAct_141 (by decide) ?_
      refine g_lv (lv' := []) [] rfl ?_
      exact bX11_readAct_145 hR h
set_option maxHeartbeats 1000000 in
theorem bX11_readAct_84 {E : TE} {Q : Mem → Prop} (hR : RV E none Q) {l1 : Int} {l2 : Int} {s0 : Int} {s1 : Int} {σ : Mem} (h : wX11_readAct_84 Q l1 l2 s0 s1 σ) : GW E cX11_readAct 3 RX11 4 91 σ 84 [(0, vR 300), (1, vI l1), (2, vI l2)] [vI s0, vI s1, vR 310] := by
  unfold wX11_readAct_84 at h
  obtain ⟨hin, h⟩ := h
  refine g_iast kd_310 hin dX11_readAct_84 ?_
  refine g_nm (fun m1 em1 => ?_)
  replace h := h m1 em1
  refine g_iload_n dX11_readAct_85 rfl ?_
  refine g_bipush dX11_readAct_86 109 rfl (by decide) ?_
  obtain ⟨hA, hB⟩ := h
  refine g_icmp_eq (tgt := 97) dX11_readAct_88 (by decide) (fun hc => ?_) (fun hc => ?_)
  · replace h := hA hc
    exact g_vret hR dX11_readAct_97 h
  · replace h := hB hc
    refine g_iload_n dX11_readAct_91 rfl ?_
    refine g_bipush dX11_readAct_92 103 rfl (by decide) ?_
    obtain ⟨hA, hB⟩ := h
    refine g_icmp_ne (tgt := 98) dX11_readAct_94 (by decide) (fun hc => ?_) (fun hc => ?_)
    · replace h := hA hc
      refine g_iload_n dX11_readAct_98 rfl ?_
      refine g_bipush dX11_readAct_99 107 rfl (by decide) ?_
      obtain ⟨hA, hB⟩ := h
      refine g_icmp_eq (tgt := 120) dX11_readAct_101 (by decide) (fun hc => ?_) (fun hc => ?_)
      · replace h := hA hc
        exact bX11_readAct_120 hR h
      · replace h := hB hc
        refine g_aload_n dX11_readAct_104 rfl ?_
        refine g_getR (r := 310) fl_11_21 kd_300 rfl dX11_readAct_105 ?_
        refine g_iload_n dX11_readAct_108 rfl ?_
        refine g_iconst dX11_readAct_109 2 rfl (by decide) ?_
        refine g_iadd dX11_readAct_110 ?_
        refine g_aload_n dX11_readAct_111 rfl ?_
        refine g_bipush dX11_readAct_112 97 rfl (by decide) ?_
        refine g_bipush dX11_readAct_114 8 rfl (by decide) ?_
        refine g_cVi (st := [vI (w32 (l1 + 2)), vR 310]) (av := [vI 97, vI 8]) (kX11_oneOf h) kd_300 rfl cw_RX11_125 (by decide) (by decide) (Nat.le_of_ble_eq_true rfl) rfl dX11_readAct_116 (fun y3 m2 h => ?_)
        obtain ⟨hin, h⟩ := h
        refine g_iast kd_310 hin dX11_readAct_119 ?_
        refine g_nm (fun m4 em4 => ?_)
        replace h := h m4 em4
        exact bX11_readAct_120 hR h
    · replace h := hB hc
      exact g_vret hR dX11_readAct_97 h
set_option maxHeartbeats 1000000 in
theorem bX11_readAct_68 {E : TE} {Q : Mem → Prop} (hR : RV E none Q) {l1 : Int} {l2 : Int} {s0 : Int} {σ : Mem} (h : wX11_readAct_68 Q l1 l2 s0 σ) : GW E cX11_readAct 3 RX11 4 91 σ 68 [(0, vR 300), (1, vI l1), (2, vI l2)] [vI s0, vR 310] := by
  unfold wX11_readAct_68 at h
  refine g_aload_n dX11_readAct_68 rfl ?_
  refine g_iconst dX11_readAct_69 1 rfl (by decide) ?_
  refine g_cVi (st := [vI s0, vR 310]) (av := [vI 1]) (kX11_digits h) kd_300 rfl cw_RX11_132 (by decide) (by decide) (Nat.le_of_ble_eq_true rfl) rfl dX11_readAct_70 (fun y2 m1 h => ?_)
  refine g_goto (tgt := 84) dX11_readAct_73 (by decide) ?_
  exact bX11_readAct_84 hR h
set_option maxHeartbeats 1000000 in
theorem kX11_readAct {l1 : Int} {σ : Mem} {Q : Mem → Prop} (h : wX11_readAct l1 σ Q) (l : Launch) (D : va_G) (cy : Nat → ClassId) (ad : Nat → Nat) : MV l yX11_readAct cX11_readAct 3 none 4 91 D cy ad [vR 300, vI l1] σ Q := by
  refine m_V (own := RX11) (lv := [(0, vR 300), (1, vI l1)]) (by decide +kernel) rfl (Nat.le_of_ble_eq_true rfl) rfl (fun E hR => ?_) l D cy ad
  unfold wX11_readAct at h
  refine g_aload_n dX11_readAct_0 rfl ?_
  refine g_cVi (st := []) (av := []) (kX11_here h) kd_300 rfl cw_RX11_117 (by decide) (by decide) (Nat.le_of_ble_eq_true rfl) rfl dX11_readAct_1 (fun y2 m1 h => ?_)
  refine g_istore_n (lv' := [(2, vI y2), (0, vR 300), (1, vI l1)]) dX11_readAct_4 (by decide) rfl ?_
  refine g_ldcS dX11_readAct_5 rfl ?_
  refine g_iload_n dX11_readAct_8 rfl ?_
  refine g_i2c dX11_readAct_9 ?_
  refine g_cV4 (st := []) (av := [vI (u16 y2)]) (kJ0_indexOf_0f7a4 h) cw_RX11_331 (by decide) (by decide) (Nat.le_of_ble_eq_true rfl) rfl dX11_readAct_10 (fun y4 m3 h => ?_)
  obtain ⟨hA, hB⟩ := h
  refine g_if_ge (tgt := 25) dX11_readAct_13 (by decide) (fun hc => ?_) (fun hc => ?_)
  · replace h := hA hc
    refine g_aload_n dX11_readAct_25 rfl ?_
    refine g_dup dX11_readAct_26 rfl ?_
    refine g_getI fl_11_107 kd_300 rfl dX11_readAct_27 ?_
    refine g_iconst dX11_readAct_30 1 rfl (by decide) ?_
    refine g_iadd dX11_readAct_31 ?_
    refine g_putI fp_11_107 kd_300 rfl dX11_readAct_32 ?_
    refine g_nm (fun m5 em5 => ?_)
    replace h := h m5 em5
    refine g_aload_n dX11_readAct_35 rfl ?_
    refine g_getR (r := 310) fl_11_21 kd_300 rfl dX11_readAct_36 ?_
    refine g_iload_n dX11_readAct_39 rfl ?_
    refine g_iload_n dX11_readAct_40 rfl ?_
    obtain ⟨hin, h⟩ := h
    refine g_iast kd_310 hin dX11_readAct_41 ?_
    refine g_nm (fun m6 em6 => ?_)
    replace h := h m6 em6
    refine g_iload_n dX11_readAct_42 rfl ?_
    refine g_bipush dX11_readAct_43 115 rfl (by decide) ?_
    obtain ⟨hA, hB⟩ := h
    refine g_icmp_ne (tgt := 49) dX11_readAct_45 (by decide) (fun hc => ?_) (fun hc => ?_)
    · replace h := hA hc
      refine g_aload_n dX11_readAct_49 rfl ?_
      refine g_getR (r := 310) fl_11_21 kd_300 rfl dX11_readAct_50 ?_
      refine g_iload_n dX11_readAct_53 rfl ?_
      refine g_iconst dX11_readAct_54 1 rfl (by decide) ?_
      refine g_iadd dX11_readAct_55 ?_
      refine g_iload_n dX11_readAct_56 rfl ?_
      refine g_bipush dX11_readAct_57 109 rfl (by decide) ?_
      obtain ⟨hA, hB⟩ := h
      refine g_icmp_eq (tgt := 68) dX11_readAct_59 (by decide) (fun hc => ?_) (fun hc => ?_)
      · replace h := hA hc
        refine g_lv (lv' := [(0, vR 300), (1, vI l1), (2, vI y2)]) [1, 2, 0] rfl ?_
        exact bX11_readAct_68 hR h
      · replace h := hB hc
        refine g_iload_n dX11_readAct_62 rfl ?_
        refine g_bipush dX11_readAct_63 103 rfl (by decide) ?_
        obtain ⟨hA, hB⟩ := h
        refine g_icmp_ne (tgt := 76) dX11_readAct_65 (by decide) (fun hc => ?_) (fun hc => ?_)
        · replace h := hA hc
          refine g_aload_n dX11_readAct_76 rfl ?_
          refine g_bipush dX11_readAct_77 97 rfl (by decide) ?_
          refine g_bipush dX11_readAct_79 8 rfl (by decide) ?_
          refine g_cVi (st := [vI (w32 (l1 + 1)), vR 310]) (av := [vI 97, vI 8]) (kX11_oneOf h) kd_300 rfl cw_RX11_125 (by decide) (by decide) (Nat.le_of_ble_eq_true rfl) rfl dX11_readAct_81 (fun y8 m7 h => ?_)
          refine g_lv (lv' := [(0, vR 300), (1, vI l1), (2, vI y2)]) [1, 2, 0] rfl ?_
          exact bX11_readAct_84 hR h
        · replace h := hB hc
          refine g_lv (lv' := [(0, vR 300), (1, vI l1), (2, vI y2)]) [1, 2, 0] rfl ?_
          exact bX11_readAct_68 hR h
    · replace h := hB hc
      exact g_vret hR dX11_readAct_48 h
  · replace h := hB hc
    refine g_aload_n dX11_readAct_16 rfl ?_
    refine g_aload_n dX11_readAct_17 rfl ?_
    refine g_getI fl_11_107 kd_300 rfl dX11_readAct_18 ?_
    refine g_cVv (st := []) (av := [vI (m3 300 7)]) (kX11_fault h) kd_300 rfl cw_RX11_121 (by decide) (by decide) (Nat.le_of_ble_eq_true rfl) rfl dX11_readAct_21 (fun m9 h => ?_)
    exact g_vret hR dX11_readAct_24 h
def wX11_day_107 (Q : Int → Mem → Prop) (l2 : Int) (s0 : Int) (σ : Mem) : Prop := (wX11_tell s0 σ (fun m1 => (wX11_allDebts  m1 (fun y3 m2 => (wX11_tell y3 m2 (fun m4 => Q l2 m4))))))
def wX11_day_91 (Q : Int → Mem → Prop) (l1 : Int) (l2 : Int) (σ : Mem) : Prop := (∀ m1 : Mem, m1 = up2 σ 300 4 0 → ((l1 ≤ l2 → wX11_day_107 Q l2 0 m1) ∧ (¬ l1 ≤ l2 → wX11_day_107 Q l2 1 m1)))
def wX11_day_83 (Q : Int → Mem → Prop) (l1 : Int) (l2 : Int) (σ : Mem) : Prop := ((l2 ≤ 0 → wX11_day_91 Q l1 l2 σ) ∧ (¬ l2 ≤ 0 → (wX11_note  σ (fun m1 => wX11_day_91 Q l1 l2 m1))))
def wX11_day_62 (K62 : (Int × Int) → Mem → Prop) (Q : Int → Mem → Prop) (l1 : Int) (l2 : Int) (σ : Mem) : Prop := ((l1 ≤ l2 → wX11_day_83 Q l1 l2 σ) ∧ (¬ l1 ≤ l2 → (wX11_act (w32 (4 * l2)) σ (fun y2 m1 => ((y2 = 0 → wX11_day_83 Q l1 l2 m1) ∧ (¬ y2 = 0 → (∀ x3 : Int, x3 = w32 (l2 + 1) → K62 (l1, x3) m1)))))))
def wLX11_day_62 (Q : Int → Mem → Prop) (l1 : Int) (l2 : Int) (σ : Mem) : Prop := ∃ n, lp (fun (K62 : (Int × Int) → Mem → Prop) (x : Int × Int) (σ : Mem) => wX11_day_62 K62 Q x.1 x.2 σ) n (l1, l2) σ
def wX11_day_42 (Q : Int → Mem → Prop) (l1 : Int) (σ : Mem) : Prop := (wX11_wasRight  σ (fun y2 m1 => ((¬ y2 = 0 → (wX11_lay  m1 (fun m3 => wLX11_day_62 Q l1 0 m3))) ∧ (y2 = 0 → Q (w32 (((-1)) - (m1 300 8))) m1))))
def wX11_day_11 (K11 : Int → Mem → Prop) (Q : Int → Mem → Prop) (l1 : Int) (σ : Mem) : Prop := (wX11_fine  σ (fun y2 m1 => ((y2 = 0 → wX11_day_42 Q l1 m1) ∧ (¬ y2 = 0 → ((m1 300 6 ≤ m1 300 7 → wX11_day_42 Q l1 m1) ∧ (¬ m1 300 6 ≤ m1 300 7 → (wX11_readAct (w32 (4 * l1)) m1 (fun m3 => (∀ x4 : Int, x4 = w32 (l1 + 1) → K11 x4 m3)))))))))
def wLX11_day_11 (Q : Int → Mem → Prop) (l1 : Int) (σ : Mem) : Prop := ∃ n, lp (fun (K11 : Int → Mem → Prop) (x : Int) (σ : Mem) => wX11_day_11 K11 Q x σ) n l1 σ
def wX11_day (σ : Mem) (Q : Int → Mem → Prop) : Prop := (∀ m1 : Mem, m1 = up2 σ 300 5 0 → (wX11_begin  m1 (fun m2 => wLX11_day_11 Q 0 m2)))
set_option maxHeartbeats 1000000 in
theorem bX11_day_107 {E : TE} {Q : Int → Mem → Prop} (hR : RI E (some .int) Q) {l2 : Int} {s0 : Int} {σ : Mem} (h : wX11_day_107 Q l2 s0 σ) : GW E cX11_day 3 RX11 16 369 σ 107 [(0, vR 300), (2, vI l2)] [vL s0, vR 300] := by
  unfold wX11_day_107 at h
  refine g_cVv (st := []) (av := [vL s0]) (kX11_tell h) kd_300 rfl cw_RX11_155 (by decide) (by decide) (Nat.le_of_ble_eq_true rfl) rfl dX11_day_107 (fun m1 h => ?_)
  refine g_aload_n dX11_day_110 rfl ?_
  refine g_aload_n dX11_day_111 rfl ?_
  refine g_cVi (st := [vR 300]) (av := []) (kX11_allDebts h) kd_300 rfl cw_RX11_172 (by decide) (by decide) (Nat.le_of_ble_eq_true rfl) rfl dX11_day_112 (fun y3 m2 h => ?_)
  refine g_i2l dX11_day_115 ?_
  refine g_cVv (st := []) (av := [vL y3]) (kX11_tell h) kd_300 rfl cw_RX11_155 (by decide) (by decide) (Nat.le_of_ble_eq_true rfl) rfl dX11_day_116 (fun m4 h => ?_)
  refine g_iload_n dX11_day_119 rfl ?_
  exact g_iret hR dX11_day_120 h
set_option maxHeartbeats 1000000 in
theorem bX11_day_91 {E : TE} {Q : Int → Mem → Prop} (hR : RI E (some .int) Q) {l1 : Int} {l2 : Int} {σ : Mem} (h : wX11_day_91 Q l1 l2 σ) : GW E cX11_day 3 RX11 16 369 σ 91 [(0, vR 300), (1, vI l1), (2, vI l2)] [] := by
  unfold wX11_day_91 at h
  refine g_aload_n dX11_day_91 rfl ?_
  refine g_iconst dX11_day_92 0 rfl (by decide) ?_
  refine g_putI fp_11_71 kd_300 rfl dX11_day_93 ?_
  refine g_nm (fun m1 em1 => ?_)
  replace h := h m1 em1
  refine g_aload_n dX11_day_96 rfl ?_
  refine g_iload_n dX11_day_97 rfl ?_
  refine g_iload_n dX11_day_98 rfl ?_
  obtain ⟨hA, hB⟩ := h
  refine g_icmp_ge (tgt := 106) dX11_day_99 (by decide) (fun hc => ?_) (fun hc => ?_)
  · replace h := hA hc
    refine g_lconst dX11_day_106 0 rfl (by decide) ?_
    refine g_lv (lv' := [(0, vR 300), (2, vI l2)]) [0, 2] rfl ?_
    exact bX11_day_107 hR h
  · replace h := hB hc
    refine g_lconst dX11_day_102 1 rfl (by decide) ?_
    refine g_goto (tgt := 107) dX11_day_103 (by decide) ?_
    refine g_lv (lv' := [(0, vR 300), (2, vI l2)]) [0, 2] rfl ?_
    exact bX11_day_107 hR h
set_option maxHeartbeats 1000000 in
theorem bX11_day_83 {E : TE} {Q : Int → Mem → Prop} (hR : RI E (some .int) Q) {l1 : Int} {l2 : Int} {σ : Mem} (h : wX11_day_83 Q l1 l2 σ) : GW E cX11_day 3 RX11 16 369 σ 83 [(0, vR 300), (1, vI l1), (2, vI l2)] [] := by
  unfold wX11_day_83 at h
  refine g_iload_n dX11_day_83 rfl ?_
  obtain ⟨hA, hB⟩ := h
  refine g_if_le (tgt := 91) dX11_day_84 (by decide) (fun hc => ?_) (fun hc => ?_)
  · replace h := hA hc
    exact bX11_day_91 hR h
  · replace h := hB hc
    refine g_aload_n dX11_day_87 rfl ?_
    refine g_cVv (st := []) (av := []) (kX11_note h) kd_300 rfl cw_RX11_268 (by decide) (by decide) (Nat.le_of_ble_eq_true rfl) rfl dX11_day_88 (fun m1 h => ?_)
    exact bX11_day_91 hR h
set_option maxHeartbeats 1000000 in
theorem bX11_day_62 {E : TE} {K62 : (Int × Int) → Mem → Prop} (hK62 : ∀ (x : Int × Int) (σ : Mem), K62 x σ → GW E cX11_day 3 RX11 16 369 σ 62 [(0, vR 300), (1, vI x.1), (2, vI x.2)] []) {Q : Int → Mem → Prop} (hR : RI E (some .int) Q) {l1 : Int} {l2 : Int} {σ : Mem} (h : wX11_day_62 K62 Q l1 l2 σ) : GW E cX11_day 3 RX11 16 369 σ 62 [(0, vR 300), (1, vI l1), (2, vI l2)] [] := by
  unfold wX11_day_62 at h
  refine g_iload_n dX11_day_62 rfl ?_
  refine g_iload_n dX11_day_63 rfl ?_
  obtain ⟨hA, hB⟩ := h
  refine g_icmp_ge (tgt := 83) dX11_day_64 (by decide) (fun hc => ?_) (fun hc => ?_)
  · replace h := hA hc
    exact bX11_day_83 hR h
  · replace h := hB hc
    refine g_aload_n dX11_day_67 rfl ?_
    refine g_iconst dX11_day_68 4 rfl (by decide) ?_
    refine g_iload_n dX11_day_69 rfl ?_
    refine g_imul dX11_day_70 ?_
    refine g_cVi (st := []) (av := [vI (w32 (4 * l2))]) (kX11_act h) kd_300 rfl cw_RX11_339 (by decide) (by decide) (Nat.le_of_ble_eq_true rfl) rfl dX11_day_71 (fun y2 m1 h => ?_)
    obtain ⟨hA, hB⟩ := h
    refine g_if_eq (tgt := 83) dX11_day_74 (by decide) (fun hc => ?_) (fun hc => ?_)
    · replace h := hA hc
      exact bX11_day_83 hR h
    · replace h := hB hc
      refine g_iinc (lv' := [(2, vI (w32 (l2 + 1))), (0, vR 300), (1, vI l1)]) dX11_day_77 rfl (by decide) rfl ?_
      refine g_loc (a := w32 (l2 + 1)) (i := 2) (lv := [(0, vR 300), (1, vI l1)]) (fun x3 ex3 => ?_)
      replace h := h x3 ex3
      refine g_goto (tgt := 62) dX11_day_80 (by decide) ?_
      refine g_lv (lv' := [(0, vR 300), (1, vI l1), (2, vI x3)]) [1, 2, 0] rfl ?_
      exact hK62 ((l1, x3)) m1 h
theorem eX11_day_62 {E : TE} {Q : Int → Mem → Prop} (hR : RI E (some .int) Q) {l1 : Int} {l2 : Int} {σ : Mem} (h : wLX11_day_62 Q l1 l2 σ) : GW E cX11_day 3 RX11 16 369 σ 62 [(0, vR 300), (1, vI l1), (2, vI l2)] [] := by
  obtain ⟨n, h⟩ := h
  exact lp_GW (P := fun (x : Int × Int) (σ : Mem) => GW E cX11_day 3 RX11 16 369 σ 62 [(0, vR 300), (1, vI x.1), (2, vI x.2)] []) (fun K hK x σ h  => bX11_day_62 hK hR h) n _ σ h 
set_option maxHeartbeats 1000000 in
theorem bX11_day_42 {E : TE} {Q : Int → Mem → Prop} (hR : RI E (some .int) Q) {l1 : Int} {σ : Mem} (h : wX11_day_42 Q l1 σ) : GW E cX11_day 3 RX11 16 369 σ 42 [(0, vR 300), (1, vI l1)] [] := by
  unfold wX11_day_42 at h
  refine g_aload_n dX11_day_42 rfl ?_
  refine g_cVi (st := []) (av := []) (kX11_wasRight h) kd_300 rfl cw_RX11_135 (by decide) (by decide) (Nat.le_of_ble_eq_true rfl) rfl dX11_day_43 (fun y2 m1 h => ?_)
  obtain ⟨hA, hB⟩ := h
  refine g_if_ne (tgt := 56) dX11_day_46 (by decide) (fun hc => ?_) (fun hc => ?_)
  · replace h := hA hc
    refine g_aload_n dX11_day_56 rfl ?_
    refine g_cVv (st := []) (av := []) (kX11_lay h) kd_300 rfl cw_RX11_262 (by decide) (by decide) (Nat.le_of_ble_eq_true rfl) rfl dX11_day_57 (fun m3 h => ?_)
    refine g_iconst dX11_day_60 0 rfl (by decide) ?_
    refine g_istore_n (lv' := [(2, vI 0), (0, vR 300), (1, vI l1)]) dX11_day_61 (by decide) rfl ?_
    refine g_lv (lv' := [(0, vR 300), (1, vI l1), (2, vI 0)]) [1, 2, 0] rfl ?_
    exact eX11_day_62 hR h
  · replace h := hB hc
    refine g_iconst dX11_day_49 (-1) rfl (by decide) ?_
    refine g_aload_n dX11_day_50 rfl ?_
    refine g_getI fl_11_110 kd_300 rfl dX11_day_51 ?_
    refine g_isub dX11_day_54 ?_
    exact g_iret hR dX11_day_55 h
set_option maxHeartbeats 1000000 in
theorem bX11_day_11 {E : TE} {K11 : Int → Mem → Prop} (hK11 : ∀ (x : Int) (σ : Mem), K11 x σ → GW E cX11_day 3 RX11 16 369 σ 11 [(0, vR 300), (1, vI x)] []) {Q : Int → Mem → Prop} (hR : RI E (some .int) Q) {l1 : Int} {σ : Mem} (h : wX11_day_11 K11 Q l1 σ) : GW E cX11_day 3 RX11 16 369 σ 11 [(0, vR 300), (1, vI l1)] [] := by
  unfold wX11_day_11 at h
  refine g_aload_n dX11_day_11 rfl ?_
  refine g_cVi (st := []) (av := []) (kX11_fine h) kd_300 rfl cw_RX11_113 (by decide) (by decide) (Nat.le_of_ble_eq_true rfl) rfl dX11_day_12 (fun y2 m1 h => ?_)
  obtain ⟨hA, hB⟩ := h
  refine g_if_eq (tgt := 42) dX11_day_15 (by decide) (fun hc => ?_) (fun hc => ?_)
  · replace h := hA hc
    exact bX11_day_42 hR h
  · replace h := hB hc
    refine g_aload_n dX11_day_18 rfl ?_
    refine g_getI fl_11_107 kd_300 rfl dX11_day_19 ?_
    refine g_aload_n dX11_day_22 rfl ?_
    refine g_getI fl_11_104 kd_300 rfl dX11_day_23 ?_
    obtain ⟨hA, hB⟩ := h
    refine g_icmp_ge (tgt := 42) dX11_day_26 (by decide) (fun hc => ?_) (fun hc => ?_)
    · replace h := hA hc
      exact bX11_day_42 hR h
    · replace h := hB hc
      refine g_aload_n dX11_day_29 rfl ?_
      refine g_iconst dX11_day_30 4 rfl (by decide) ?_
      refine g_iload_n dX11_day_31 rfl ?_
      refine g_imul dX11_day_32 ?_
      refine g_cVv (st := []) (av := [vI (w32 (4 * l1))]) (kX11_readAct h) kd_300 rfl cw_RX11_336 (by decide) (by decide) (Nat.le_of_ble_eq_true rfl) rfl dX11_day_33 (fun m3 h => ?_)
      refine g_iinc (lv' := [(1, vI (w32 (l1 + 1))), (0, vR 300)]) dX11_day_36 rfl (by decide) rfl ?_
      refine g_loc (a := w32 (l1 + 1)) (i := 1) (lv := [(0, vR 300)]) (fun x4 ex4 => ?_)
      replace h := h x4 ex4
      refine g_goto (tgt := 11) dX11_day_39 (by decide) ?_
      refine g_lv (lv' := [(0, vR 300), (1, vI x4)]) [1, 0] rfl ?_
      exact hK11 x4 m3 h
theorem eX11_day_11 {E : TE} {Q : Int → Mem → Prop} (hR : RI E (some .int) Q) {l1 : Int} {σ : Mem} (h : wLX11_day_11 Q l1 σ) : GW E cX11_day 3 RX11 16 369 σ 11 [(0, vR 300), (1, vI l1)] [] := by
  obtain ⟨n, h⟩ := h
  exact lp_GW (P := fun (x : Int) (σ : Mem) => GW E cX11_day 3 RX11 16 369 σ 11 [(0, vR 300), (1, vI x)] []) (fun K hK x σ h  => bX11_day_11 hK hR h) n _ σ h 
set_option maxHeartbeats 1000000 in
theorem kX11_day {σ : Mem} {Q : Int → Mem → Prop} (h : wX11_day σ Q) (l : Launch) (D : va_G) (cy : Nat → ClassId) (ad : Nat → Nat) : MI l yX11_day cX11_day 3 (some .int) 16 369 D cy ad [vR 300] σ Q := by
  refine m_I (own := RX11) (lv := [(0, vR 300)]) (by decide +kernel) rfl (Nat.le_of_ble_eq_true rfl) rfl (fun E hR => ?_) l D cy ad
  unfold wX11_day at h
  refine g_aload_n dX11_day_0 rfl ?_
  refine g_iconst dX11_day_1 0 rfl (by decide) ?_
  refine g_putI fp_11_68 kd_300 rfl dX11_day_2 ?_
  refine g_nm (fun m1 em1 => ?_)
  replace h := h m1 em1
  refine g_aload_n dX11_day_5 rfl ?_
  refine g_cVv (st := []) (av := []) (kX11_begin h) kd_300 rfl cw_RX11_129 (by decide) (by decide) (Nat.le_of_ble_eq_true rfl) rfl dX11_day_6 (fun m2 h => ?_)
  refine g_iconst dX11_day_9 0 rfl (by decide) ?_
  refine g_istore_n (lv' := [(1, vI 0), (0, vR 300)]) dX11_day_10 (by decide) rfl ?_
  refine g_lv (lv' := [(0, vR 300), (1, vI 0)]) [1, 0] rfl ?_
  exact eX11_day_11 hR h
