def wX11_tryOrders_41 (R : Int → Int → Int → Mem → (Mem → Prop) → Prop) (Q : Mem → Prop) (σ : Mem) : Prop := (∀ m1 : Mem, m1 = up2 σ 300 23 (w32 ((σ 300 23) + 1)) → Q m1)
def wX11_tryOrders_8 (R : Int → Int → Int → Mem → (Mem → Prop) → Prop) (K8 : (Int × Int) → Mem → Prop) (Q : Mem → Prop) (l3 : Int) (l4 : Int) (σ : Mem) : Prop := ((l3 ≤ l4 → wX11_tryOrders_41 R Q σ) ∧ (¬ l3 ≤ l4 → ((¬ σ 300 23 = 0 → wX11_tryOrders_41 R Q σ) ∧ (σ 300 23 = 0 → ((0 ≤ l4 ∧ l4 < 5) ∧ ((0 ≤ l4 ∧ l4 < 5) ∧ (∀ m1 : Mem, m1 = up2 σ 322 l4.toNat (σ 321 l4.toNat) → (∀ x2 : Int, x2 = w32 (l4 + 1) → K8 (l3, x2) m1))))))))
def wLX11_tryOrders_8 (R : Int → Int → Int → Mem → (Mem → Prop) → Prop) (Q : Mem → Prop) (l3 : Int) (l4 : Int) (σ : Mem) : Prop := ∃ n, lp (fun (K8 : (Int × Int) → Mem → Prop) (x : Int × Int) (σ : Mem) => wX11_tryOrders_8 R K8 Q x.1 x.2 σ) n (l3, l4) σ
def wX11_tryOrders_145 (R : Int → Int → Int → Mem → (Mem → Prop) → Prop) (K92 : (Int × Int × Int × Int) → Mem → Prop) (K145 : (Int × Int × Int × Int × Int) → Mem → Prop) (Q : Mem → Prop) (l1 : Int) (l2 : Int) (l3 : Int) (l4 : Int) (l5 : Int) (σ : Mem) : Prop := ((405 ≤ l5 → (∀ x1 : Int, x1 = w32 (l4 + 1) → K92 (l1, l2, l3, x1) σ)) ∧ (¬ 405 ≤ l5 → ((0 ≤ w32 ((w32 (405 * l1)) + l5) ∧ w32 ((w32 (405 * l1)) + l5) < 2430) ∧ ((0 ≤ l5 ∧ l5 < 405) ∧ (∀ m2 : Mem, m2 = up2 σ 301 l5.toNat (σ 323 (w32 ((w32 (405 * l1)) + l5)).toNat) → (∀ x3 : Int, x3 = w32 (l5 + 1) → K145 (l1, l2, l3, l4, x3) m2))))))
def wLX11_tryOrders_145 (R : Int → Int → Int → Mem → (Mem → Prop) → Prop) (K92 : (Int × Int × Int × Int) → Mem → Prop) (Q : Mem → Prop) (l1 : Int) (l2 : Int) (l3 : Int) (l4 : Int) (l5 : Int) (σ : Mem) : Prop := ∃ n, lp (fun (K145 : (Int × Int × Int × Int × Int) → Mem → Prop) (x : Int × Int × Int × Int × Int) (σ : Mem) => wX11_tryOrders_145 R K92 K145 Q x.1 x.2.1 x.2.2.1 x.2.2.2.1 x.2.2.2.2 σ) n (l1, l2, l3, l4, l5) σ
def wX11_tryOrders_142 (R : Int → Int → Int → Mem → (Mem → Prop) → Prop) (K92 : (Int × Int × Int × Int) → Mem → Prop) (Q : Mem → Prop) (l1 : Int) (l2 : Int) (l3 : Int) (l4 : Int) (σ : Mem) : Prop := wLX11_tryOrders_145 R K92 Q l1 l2 l3 l4 0 σ
def wX11_tryOrders_92 (R : Int → Int → Int → Mem → (Mem → Prop) → Prop) (K92 : (Int × Int × Int × Int) → Mem → Prop) (Q : Mem → Prop) (l1 : Int) (l2 : Int) (l3 : Int) (l4 : Int) (σ : Mem) : Prop := ((l3 ≤ l4 → Q σ) ∧ (¬ l3 ≤ l4 → ((¬ band (bshr l2 l4) 1 = 1 → ((0 ≤ l1 ∧ l1 < 5) ∧ (∀ m1 : Mem, m1 = up2 σ 321 l1.toNat l4 → (wX11_goRead l4 m1 (fun y3 m2 => ((y3 = 0 → wX11_tryOrders_142 R K92 Q l1 l2 l3 l4 m2) ∧ (¬ y3 = 0 → (R (w32 (l1 + 1)) (bor l2 (bshl 1 l4)) l3 m2 (fun m4 => wX11_tryOrders_142 R K92 Q l1 l2 l3 l4 m4))))))))) ∧ (band (bshr l2 l4) 1 = 1 → (∀ x5 : Int, x5 = w32 (l4 + 1) → K92 (l1, l2, l3, x5) σ)))))
def wLX11_tryOrders_92 (R : Int → Int → Int → Mem → (Mem → Prop) → Prop) (Q : Mem → Prop) (l1 : Int) (l2 : Int) (l3 : Int) (l4 : Int) (σ : Mem) : Prop := ∃ n, lp (fun (K92 : (Int × Int × Int × Int) → Mem → Prop) (x : Int × Int × Int × Int) (σ : Mem) => wX11_tryOrders_92 R K92 Q x.1 x.2.1 x.2.2.1 x.2.2.2 σ) n (l1, l2, l3, l4) σ
def wX11_tryOrders_55 (R : Int → Int → Int → Mem → (Mem → Prop) → Prop) (K55 : (Int × Int × Int × Int) → Mem → Prop) (Q : Mem → Prop) (l1 : Int) (l2 : Int) (l3 : Int) (l4 : Int) (σ : Mem) : Prop := ((405 ≤ l4 → wLX11_tryOrders_92 R Q l1 l2 l3 0 σ) ∧ (¬ 405 ≤ l4 → ((0 ≤ l4 ∧ l4 < 405) ∧ ((0 ≤ w32 ((w32 (405 * l1)) + l4) ∧ w32 ((w32 (405 * l1)) + l4) < 2430) ∧ (∀ m1 : Mem, m1 = up2 σ 323 (w32 ((w32 (405 * l1)) + l4)).toNat (σ 301 l4.toNat) → (∀ x2 : Int, x2 = w32 (l4 + 1) → K55 (l1, l2, l3, x2) m1))))))
def wLX11_tryOrders_55 (R : Int → Int → Int → Mem → (Mem → Prop) → Prop) (Q : Mem → Prop) (l1 : Int) (l2 : Int) (l3 : Int) (l4 : Int) (σ : Mem) : Prop := ∃ n, lp (fun (K55 : (Int × Int × Int × Int) → Mem → Prop) (x : Int × Int × Int × Int) (σ : Mem) => wX11_tryOrders_55 R K55 Q x.1 x.2.1 x.2.2.1 x.2.2.2 σ) n (l1, l2, l3, l4) σ
def wBX11_tryOrders (R : Int → Int → Int → Mem → (Mem → Prop) → Prop) (l1 : Int) (l2 : Int) (l3 : Int) (σ : Mem) (Q : Mem → Prop) : Prop := ((¬ l1 = l3 → wLX11_tryOrders_55 R Q l1 l2 l3 0 σ) ∧ (l1 = l3 → wLX11_tryOrders_8 R Q l3 0 σ))
def wRX11_tryOrders : Nat → Int → Int → Int → Mem → (Mem → Prop) → Prop
  | 0, _, _, _, _, _ => False
  | d + 1, l1, l2, l3, σ, Q => wBX11_tryOrders (wRX11_tryOrders d) l1 l2 l3 σ Q
def wX11_tryOrders (l1 : Int) (l2 : Int) (l3 : Int) (σ : Mem) (Q : Mem → Prop) : Prop := wRX11_tryOrders 10 l1 l2 l3 σ Q
set_option maxHeartbeats 1000000 in
theorem bX11_tryOrders_41 {E : TE} {fr lo fr2 lo2 : Nat} (hfl : 9 ≤ fr ∧ 213 ≤ lo ∧ fr2 + 1 ≤ fr ∧ 8 + (6 + 11) + lo2 ≤ lo) {R : Int → Int → Int → Mem → (Mem → Prop) → Prop} (hRec : ∀ {l1 l2 l3 : Int} {σ : Mem} {Q : Mem → Prop}, R l1 l2 l3 σ Q → ∀ (l : Launch) (D : va_G) (cy : Nat → ClassId) (ad : Nat → Nat), MV l yX11_tryOrders cX11_tryOrders 6 none fr2 lo2 D cy ad [vR 300, vI l1, vI l2, vI l3] σ Q) {Q : Mem → Prop} (hR : RV E none Q) {σ : Mem} (h : wX11_tryOrders_41 R Q σ) : GW E cX11_tryOrders 6 RX11 fr lo σ 41 [(0, vR 300)] [] := by
  unfold wX11_tryOrders_41 at h
  refine g_aload_n dX11_tryOrders_41 rfl ?_
  refine g_dup dX11_tryOrders_42 rfl ?_
  refine g_getI fl_11_271 kd_300 rfl dX11_tryOrders_43 ?_
  refine g_iconst dX11_tryOrders_46 1 rfl (by decide) ?_
  refine g_iadd dX11_tryOrders_47 ?_
  refine g_putI fp_11_271 kd_300 rfl dX11_tryOrders_48 ?_
  refine g_nm (fun m1 em1 => ?_)
  replace h := h m1 em1
  exact g_vret hR dX11_tryOrders_51 h
set_option maxHeartbeats 1000000 in
theorem bX11_tryOrders_8 {E : TE} {fr lo fr2 lo2 : Nat} (hfl : 9 ≤ fr ∧ 213 ≤ lo ∧ fr2 + 1 ≤ fr ∧ 8 + (6 + 11) + lo2 ≤ lo) {R : Int → Int → Int → Mem → (Mem → Prop) → Prop} (hRec : ∀ {l1 l2 l3 : Int} {σ : Mem} {Q : Mem → Prop}, R l1 l2 l3 σ Q → ∀ (l : Launch) (D : va_G) (cy : Nat → ClassId) (ad : Nat → Nat), MV l yX11_tryOrders cX11_tryOrders 6 none fr2 lo2 D cy ad [vR 300, vI l1, vI l2, vI l3] σ Q) {K8 : (Int × Int) → Mem → Prop} (hK8 : ∀ (x : Int × Int) (σ : Mem), K8 x σ → GW E cX11_tryOrders 6 RX11 fr lo σ 8 [(0, vR 300), (3, vI x.1), (4, vI x.2)] []) {Q : Mem → Prop} (hR : RV E none Q) {l3 : Int} {l4 : Int} {σ : Mem} (h : wX11_tryOrders_8 R K8 Q l3 l4 σ) : GW E cX11_tryOrders 6 RX11 fr lo σ 8 [(0, vR 300), (3, vI l3), (4, vI l4)] [] := by
  unfold wX11_tryOrders_8 at h
  refine g_iload dX11_tryOrders_8 rfl ?_
  refine g_iload_n dX11_tryOrders_10 rfl ?_
  obtain ⟨hA, hB⟩ := h
  refine g_icmp_ge (tgt := 41) dX11_tryOrders_11 (by decide) (fun hc => ?_) (fun hc => ?_)
  · replace h := hA hc
    refine g_lv (lv' := [(0, vR 300)]) [0] rfl ?_
    exact bX11_tryOrders_41 hfl hRec hR h
  · replace h := hB hc
    refine g_aload_n dX11_tryOrders_14 rfl ?_
    refine g_getI fl_11_271 kd_300 rfl dX11_tryOrders_15 ?_
    obtain ⟨hA, hB⟩ := h
    refine g_if_ne (tgt := 41) dX11_tryOrders_18 (by decide) (fun hc => ?_) (fun hc => ?_)
    · replace h := hA hc
      refine g_lv (lv' := [(0, vR 300)]) [0] rfl ?_
      exact bX11_tryOrders_41 hfl hRec hR h
    · replace h := hB hc
      refine g_aload_n dX11_tryOrders_21 rfl ?_
      refine g_getR (r := 322) fl_11_46 kd_300 rfl dX11_tryOrders_22 ?_
      refine g_iload dX11_tryOrders_25 rfl ?_
      refine g_aload_n dX11_tryOrders_27 rfl ?_
      refine g_getR (r := 321) fl_11_43 kd_300 rfl dX11_tryOrders_28 ?_
      refine g_iload dX11_tryOrders_31 rfl ?_
      obtain ⟨hin, h⟩ := h
      refine g_iald kd_321 hin dX11_tryOrders_33 ?_
      obtain ⟨hin, h⟩ := h
      refine g_iast kd_322 hin dX11_tryOrders_34 ?_
      refine g_nm (fun m1 em1 => ?_)
      replace h := h m1 em1
      refine g_iinc (lv' := [(4, vI (w32 (l4 + 1))), (0, vR 300), (3, vI l3)]) dX11_tryOrders_35 rfl (by decide) rfl ?_
      refine g_loc (a := w32 (l4 + 1)) (i := 4) (lv := [(0, vR 300), (3, vI l3)]) (fun x2 ex2 => ?_)
      replace h := h x2 ex2
      refine g_goto (tgt := 8) dX11_tryOrders_38 (by decide) ?_
      refine g_lv (lv' := [(0, vR 300), (3, vI l3), (4, vI x2)]) [1, 2, 0] rfl ?_
      exact hK8 ((l3, x2)) m1 h
theorem eX11_tryOrders_8 {E : TE} {fr lo fr2 lo2 : Nat} (hfl : 9 ≤ fr ∧ 213 ≤ lo ∧ fr2 + 1 ≤ fr ∧ 8 + (6 + 11) + lo2 ≤ lo) {R : Int → Int → Int → Mem → (Mem → Prop) → Prop} (hRec : ∀ {l1 l2 l3 : Int} {σ : Mem} {Q : Mem → Prop}, R l1 l2 l3 σ Q → ∀ (l : Launch) (D : va_G) (cy : Nat → ClassId) (ad : Nat → Nat), MV l yX11_tryOrders cX11_tryOrders 6 none fr2 lo2 D cy ad [vR 300, vI l1, vI l2, vI l3] σ Q) {Q : Mem → Prop} (hR : RV E none Q) {l3 : Int} {l4 : Int} {σ : Mem} (h : wLX11_tryOrders_8 R Q l3 l4 σ) : GW E cX11_tryOrders 6 RX11 fr lo σ 8 [(0, vR 300), (3, vI l3), (4, vI l4)] [] := by
  obtain ⟨n, h⟩ := h
  exact lp_GW (P := fun (x : Int × Int) (σ : Mem) => GW E cX11_tryOrders 6 RX11 fr lo σ 8 [(0, vR 300), (3, vI x.1), (4, vI x.2)] []) (fun K hK x σ h  => bX11_tryOrders_8 hfl hRec hK hR h) n _ σ h 
set_option maxHeartbeats 1000000 in
theorem bX11_tryOrders_145 {E : TE} {fr lo fr2 lo2 : Nat} (hfl : 9 ≤ fr ∧ 213 ≤ lo ∧ fr2 + 1 ≤ fr ∧ 8 + (6 + 11) + lo2 ≤ lo) {R : Int → Int → Int → Mem → (Mem → Prop) → Prop} (hRec : ∀ {l1 l2 l3 : Int} {σ : Mem} {Q : Mem → Prop}, R l1 l2 l3 σ Q → ∀ (l : Launch) (D : va_G) (cy : Nat → ClassId) (ad : Nat → Nat), MV l yX11_tryOrders cX11_tryOrders 6 none fr2 lo2 D cy ad [vR 300, vI l1, vI l2, vI l3] σ Q) {K92 : (Int × Int × Int × Int) → Mem → Prop} {K145 : (Int × Int × Int × Int × Int) → Mem → Prop} (hK92 : ∀ (x : Int × Int × Int × Int) (σ : Mem), K92 x σ → GW E cX11_tryOrders 6 RX11 fr lo σ 92 [(0, vR 300), (1, vI x.1), (2, vI x.2.1), (3, vI x.2.2.1), (4, vI x.2.2.2)] []) (hK145 : ∀ (x : Int × Int × Int × Int × Int) (σ : Mem), K145 x σ → GW E cX11_tryOrders 6 RX11 fr lo σ 145 [(0, vR 300), (1, vI x.1), (2, vI x.2.1), (3, vI x.2.2.1), (4, vI x.2.2.2.1), (5, vI x.2.2.2.2)] []) {Q : Mem → Prop} (hR : RV E none Q) {l1 : Int} {l2 : Int} {l3 : Int} {l4 : Int} {l5 : Int} {σ : Mem} (h : wX11_tryOrders_145 R K92 K145 Q l1 l2 l3 l4 l5 σ) : GW E cX11_tryOrders 6 RX11 fr lo σ 145 [(0, vR 300), (1, vI l1), (2, vI l2), (3, vI l3), (4, vI l4), (5, vI l5)] [] := by
  unfold wX11_tryOrders_145 at h
  refine g_iload dX11_tryOrders_145 rfl ?_
  refine g_sipush dX11_tryOrders_147 405 rfl (by decide) ?_
  obtain ⟨hA, hB⟩ := h
  refine g_icmp_ge (tgt := 179) dX11_tryOrders_150 (by decide) (fun hc => ?_) (fun hc => ?_)
  · replace h := hA hc
    refine g_iinc (lv' := [(4, vI (w32 (l4 + 1))), (0, vR 300), (1, vI l1), (2, vI l2), (3, vI l3), (5, vI l5)]) dX11_tryOrders_179 rfl (by decide) rfl ?_
    refine g_loc (a := w32 (l4 + 1)) (i := 4) (lv := [(0, vR 300), (1, vI l1), (2, vI l2), (3, vI l3), (5, vI l5)]) (fun x1 ex1 => ?_)
    replace h := h x1 ex1
    refine g_goto (tgt := 92) dX11_tryOrders_182 (by decide) ?_
    refine g_lv (lv' := [(0, vR 300), (1, vI l1), (2, vI l2), (3, vI l3), (4, vI x1)]) [1, 2, 3, 4, 0] rfl ?_
    exact hK92 ((l1, l2, l3, x1)) σ h
  · replace h := hB hc
    refine g_aload_n dX11_tryOrders_153 rfl ?_
    refine g_getR (r := 301) fl_11_9 kd_300 rfl dX11_tryOrders_154 ?_
    refine g_iload dX11_tryOrders_157 rfl ?_
    refine g_aload_n dX11_tryOrders_159 rfl ?_
    refine g_getR (r := 323) fl_11_49 kd_300 rfl dX11_tryOrders_160 ?_
    refine g_sipush dX11_tryOrders_163 405 rfl (by decide) ?_
    refine g_iload_n dX11_tryOrders_166 rfl ?_
    refine g_imul dX11_tryOrders_167 ?_
    refine g_iload dX11_tryOrders_168 rfl ?_
    refine g_iadd dX11_tryOrders_170 ?_
    obtain ⟨hin, h⟩ := h
    refine g_iald kd_323 hin dX11_tryOrders_171 ?_
    obtain ⟨hin, h⟩ := h
    refine g_iast kd_301 hin dX11_tryOrders_172 ?_
    refine g_nm (fun m2 em2 => ?_)
    replace h := h m2 em2
    refine g_iinc (lv' := [(5, vI (w32 (l5 + 1))), (0, vR 300), (1, vI l1), (2, vI l2), (3, vI l3), (4, vI l4)]) dX11_tryOrders_173 rfl (by decide) rfl ?_
    refine g_loc (a := w32 (l5 + 1)) (i := 5) (lv := [(0, vR 300), (1, vI l1), (2, vI l2), (3, vI l3), (4, vI l4)]) (fun x3 ex3 => ?_)
    replace h := h x3 ex3
    refine g_goto (tgt := 145) dX11_tryOrders_176 (by decide) ?_
    refine g_lv (lv' := [(0, vR 300), (1, vI l1), (2, vI l2), (3, vI l3), (4, vI l4), (5, vI x3)]) [1, 2, 3, 4, 5, 0] rfl ?_
    exact hK145 ((l1, l2, l3, l4, x3)) m2 h
theorem eX11_tryOrders_145 {E : TE} {fr lo fr2 lo2 : Nat} (hfl : 9 ≤ fr ∧ 213 ≤ lo ∧ fr2 + 1 ≤ fr ∧ 8 + (6 + 11) + lo2 ≤ lo) {R : Int → Int → Int → Mem → (Mem → Prop) → Prop} (hRec : ∀ {l1 l2 l3 : Int} {σ : Mem} {Q : Mem → Prop}, R l1 l2 l3 σ Q → ∀ (l : Launch) (D : va_G) (cy : Nat → ClassId) (ad : Nat → Nat), MV l yX11_tryOrders cX11_tryOrders 6 none fr2 lo2 D cy ad [vR 300, vI l1, vI l2, vI l3] σ Q) {K92 : (Int × Int × Int × Int) → Mem → Prop} (hK92 : ∀ (x : Int × Int × Int × Int) (σ : Mem), K92 x σ → GW E cX11_tryOrders 6 RX11 fr lo σ 92 [(0, vR 300), (1, vI x.1), (2, vI x.2.1), (3, vI x.2.2.1), (4, vI x.2.2.2)] []) {Q : Mem → Prop} (hR : RV E none Q) {l1 : Int} {l2 : Int} {l3 : Int} {l4 : Int} {l5 : Int} {σ : Mem} (h : wLX11_tryOrders_145 R K92 Q l1 l2 l3 l4 l5 σ) : GW E cX11_tryOrders 6 RX11 fr lo σ 145 [(0, vR 300), (1, vI l1), (2, vI l2), (3, vI l3), (4, vI l4), (5, vI l5)] [] := by
  obtain ⟨n, h⟩ := h
  exact lp_GW (P := fun (x : Int × Int × Int × Int × Int) (σ : Mem) => GW E cX11_tryOrders 6 RX11 fr lo σ 145 [(0, vR 300), (1, vI x.1), (2, vI x.2.1), (3, vI x.2.2.1), (4, vI x.2.2.2.1), (5, vI x.2.2.2.2)] []) (fun K hK x σ h  => bX11_tryOrders_145 hfl hRec hK92 hK hR h) n _ σ h 
set_option maxHeartbeats 1000000 in
theorem bX11_tryOrders_142 {E : TE} {fr lo fr2 lo2 : Nat} (hfl : 9 ≤ fr ∧ 213 ≤ lo ∧ fr2 + 1 ≤ fr ∧ 8 + (6 + 11) + lo2 ≤ lo) {R : Int → Int → Int → Mem → (Mem → Prop) → Prop} (hRec : ∀ {l1 l2 l3 : Int} {σ : Mem} {Q : Mem → Prop}, R l1 l2 l3 σ Q → ∀ (l : Launch) (D : va_G) (cy : Nat → ClassId) (ad : Nat → Nat), MV l yX11_tryOrders cX11_tryOrders 6 none fr2 lo2 D cy ad [vR 300, vI l1, vI l2, vI l3] σ Q) {K92 : (Int × Int × Int × Int) → Mem → Prop} (hK92 : ∀ (x : Int × Int × Int × Int) (σ : Mem), K92 x σ → GW E cX11_tryOrders 6 RX11 fr lo σ 92 [(0, vR 300), (1, vI x.1), (2, vI x.2.1), (3, vI x.2.2.1), (4, vI x.2.2.2)] []) {Q : Mem → Prop} (hR : RV E none Q) {l1 : Int} {l2 : Int} {l3 : Int} {l4 : Int} {σ : Mem} (h : wX11_tryOrders_142 R K92 Q l1 l2 l3 l4 σ) : GW E cX11_tryOrders 6 RX11 fr lo σ 142 [(0, vR 300), (1, vI l1), (2, vI l2), (3, vI l3), (4, vI l4)] [] := by
  unfold wX11_tryOrders_142 at h
  refine g_iconst dX11_tryOrders_142 0 rfl (by decide) ?_
  refine g_istore (lv' := [(5, vI 0), (0, vR 300), (1, vI l1), (2, vI l2), (3, vI l3), (4, vI l4)]) dX11_tryOrders_143 (by decide) rfl ?_
  refine g_lv (lv' := [(0, vR 300), (1, vI l1), (2, vI l2), (3, vI l3), (4, vI l4), (5, vI 0)]) [1, 2, 3, 4, 5, 0] rfl ?_
  exact eX11_tryOrders_145 hfl hRec hK92 hR h
set_option maxHeartbeats 1000000 in
theorem bX11_tryOrders_92 {E : TE} {fr lo fr2 lo2 : Nat} (hfl : 9 ≤ fr ∧ 213 ≤ lo ∧ fr2 + 1 ≤ fr ∧ 8 + (6 + 11) + lo2 ≤ lo) {R : Int → Int → Int → Mem → (Mem → Prop) → Prop} (hRec : ∀ {l1 l2 l3 : Int} {σ : Mem} {Q : Mem → Prop}, R l1 l2 l3 σ Q → ∀ (l : Launch) (D : va_G) (cy : Nat → ClassId) (ad : Nat → Nat), MV l yX11_tryOrders cX11_tryOrders 6 none fr2 lo2 D cy ad [vR 300, vI l1, vI l2, vI l3] σ Q) {K92 : (Int × Int × Int × Int) → Mem → Prop} (hK92 : ∀ (x : Int × Int × Int × Int) (σ : Mem), K92 x σ → GW E cX11_tryOrders 6 RX11 fr lo σ 92 [(0, vR 300), (1, vI x.1), (2, vI x.2.1), (3, vI x.2.2.1), (4, vI x.2.2.2)] []) {Q : Mem → Prop} (hR : RV E none Q) {l1 : Int} {l2 : Int} {l3 : Int} {l4 : Int} {σ : Mem} (h : wX11_tryOrders_92 R K92 Q l1 l2 l3 l4 σ) : GW E cX11_tryOrders 6 RX11 fr lo σ 92 [(0, vR 300), (1, vI l1), (2, vI l2), (3, vI l3), (4, vI l4)] [] := by
  unfold wX11_tryOrders_92 at h
  refine g_iload dX11_tryOrders_92 rfl ?_
  refine g_iload_n dX11_tryOrders_94 rfl ?_
  obtain ⟨hA, hB⟩ := h
  refine g_icmp_ge (tgt := 185) dX11_tryOrders_95 (by decide) (fun hc => ?_) (fun hc => ?_)
  · replace h := hA hc
    exact g_vret hR dX11_tryOrders_185 h
  · replace h := hB hc
    refine g_iload_n dX11_tryOrders_98 rfl ?_
    refine g_iload dX11_tryOrders_99 rfl ?_
    refine g_ishr dX11_tryOrders_101 ?_
    refine g_iconst dX11_tryOrders_102 1 rfl (by decide) ?_
    refine g_iand dX11_tryOrders_103 ?_
    refine g_iconst dX11_tryOrders_104 1 rfl (by decide) ?_
    obtain ⟨hA, hB⟩ := h
    refine g_icmp_ne (tgt := 111) dX11_tryOrders_105 (by decide) (fun hc => ?_) (fun hc => ?_)
    · replace h := hA hc
      refine g_aload_n dX11_tryOrders_111 rfl ?_
      refine g_getR (r := 321) fl_11_43 kd_300 rfl dX11_tryOrders_112 ?_
      refine g_iload_n dX11_tryOrders_115 rfl ?_
      refine g_iload dX11_tryOrders_116 rfl ?_
      obtain ⟨hin, h⟩ := h
      refine g_iast kd_321 hin dX11_tryOrders_118 ?_
      refine g_nm (fun m1 em1 => ?_)
      replace h := h m1 em1
      refine g_aload_n dX11_tryOrders_119 rfl ?_
      refine g_iload dX11_tryOrders_120 rfl ?_
      refine g_cVi (st := []) (av := [vI l4]) (kX11_goRead h) kd_300 rfl cw_RX11_265 (by omega) (by omega) (Nat.le_of_ble_eq_true rfl) rfl dX11_tryOrders_122 (fun y3 m2 h => ?_)
      obtain ⟨hA, hB⟩ := h
      refine g_if_eq (tgt := 142) dX11_tryOrders_125 (by decide) (fun hc => ?_) (fun hc => ?_)
      · replace h := hA hc
        exact bX11_tryOrders_142 hfl hRec hK92 hR h
      · replace h := hB hc
        refine g_aload_n dX11_tryOrders_128 rfl ?_
        refine g_iload_n dX11_tryOrders_129 rfl ?_
        refine g_iconst dX11_tryOrders_130 1 rfl (by decide) ?_
        refine g_iadd dX11_tryOrders_131 ?_
        refine g_iload_n dX11_tryOrders_132 rfl ?_
        refine g_iconst dX11_tryOrders_133 1 rfl (by decide) ?_
        refine g_iload dX11_tryOrders_134 rfl ?_
        refine g_ishl dX11_tryOrders_136 ?_
        refine g_ior dX11_tryOrders_137 ?_
        refine g_iload_n dX11_tryOrders_138 rfl ?_
        refine g_cVv (st := []) (av := [vI (w32 (l1 + 1)), vI (bor l2 (bshl 1 l4)), vI l3]) (hRec h) kd_300 rfl cw_RX11_274 (by omega) (by omega) (Nat.le_of_ble_eq_true rfl) rfl dX11_tryOrders_139 (fun m4 h => ?_)
        exact bX11_tryOrders_142 hfl hRec hK92 hR h
    · replace h := hB hc
      refine g_goto (tgt := 179) dX11_tryOrders_108 (by decide) ?_
      refine g_iinc (lv' := [(4, vI (w32 (l4 + 1))), (0, vR 300), (1, vI l1), (2, vI l2), (3, vI l3)]) dX11_tryOrders_179 rfl (by decide) rfl ?_
      refine g_loc (a := w32 (l4 + 1)) (i := 4) (lv := [(0, vR 300), (1, vI l1), (2, vI l2), (3, vI l3)]) (fun x5 ex5 => ?_)
      replace h := h x5 ex5
      refine g_goto (tgt := 92) dX11_tryOrders_182 (by decide) ?_
      refine g_lv (lv' := [(0, vR 300), (1, vI l1), (2, vI l2), (3, vI l3), (4, vI x5)]) [1, 2, 3, 4, 0] rfl ?_
      exact hK92 ((l1, l2, l3, x5)) σ h
theorem eX11_tryOrders_92 {E : TE} {fr lo fr2 lo2 : Nat} (hfl : 9 ≤ fr ∧ 213 ≤ lo ∧ fr2 + 1 ≤ fr ∧ 8 + (6 + 11) + lo2 ≤ lo) {R : Int → Int → Int → Mem → (Mem → Prop) → Prop} (hRec : ∀ {l1 l2 l3 : Int} {σ : Mem} {Q : Mem → Prop}, R l1 l2 l3 σ Q → ∀ (l : Launch) (D : va_G) (cy : Nat → ClassId) (ad : Nat → Nat), MV l yX11_tryOrders cX11_tryOrders 6 none fr2 lo2 D cy ad [vR 300, vI l1, vI l2, vI l3] σ Q) {Q : Mem → Prop} (hR : RV E none Q) {l1 : Int} {l2 : Int} {l3 : Int} {l4 : Int} {σ : Mem} (h : wLX11_tryOrders_92 R Q l1 l2 l3 l4 σ) : GW E cX11_tryOrders 6 RX11 fr lo σ 92 [(0, vR 300), (1, vI l1), (2, vI l2), (3, vI l3), (4, vI l4)] [] := by
  obtain ⟨n, h⟩ := h
  exact lp_GW (P := fun (x : Int × Int × Int × Int) (σ : Mem) => GW E cX11_tryOrders 6 RX11 fr lo σ 92 [(0, vR 300), (1, vI x.1), (2, vI x.2.1), (3, vI x.2.2.1), (4, vI x.2.2.2)] []) (fun K hK x σ h  => bX11_tryOrders_92 hfl hRec hK hR h) n _ σ h 
set_option maxHeartbeats 1000000 in
theorem bX11_tryOrders_55 {E : TE} {fr lo fr2 lo2 : Nat} (hfl : 9 ≤ fr ∧ 213 ≤ lo ∧ fr2 + 1 ≤ fr ∧ 8 + (6 + 11) + lo2 ≤ lo) {R : Int → Int → Int → Mem → (Mem → Prop) → Prop} (hRec : ∀ {l1 l2 l3 : Int} {σ : Mem} {Q : Mem → Prop}, R l1 l2 l3 σ Q → ∀ (l : Launch) (D : va_G) (cy : Nat → ClassId) (ad : Nat → Nat), MV l yX11_tryOrders cX11_tryOrders 6 none fr2 lo2 D cy ad [vR 300, vI l1, vI l2, vI l3] σ Q) {K55 : (Int × Int × Int × Int) → Mem → Prop} (hK55 : ∀ (x : Int × Int × Int × Int) (σ : Mem), K55 x σ → GW E cX11_tryOrders 6 RX11 fr lo σ 55 [(0, vR 300), (1, vI x.1), (2, vI x.2.1), (3, vI x.2.2.1), (4, vI x.2.2.2)] []) {Q : Mem → Prop} (hR : RV E none Q) {l1 : Int} {l2 : Int} {l3 : Int} {l4 : Int} {σ : Mem} (h : wX11_tryOrders_55 R K55 Q l1 l2 l3 l4 σ) : GW E cX11_tryOrders 6 RX11 fr lo σ 55 [(0, vR 300), (1, vI l1), (2, vI l2), (3, vI l3), (4, vI l4)] [] := by
  unfold wX11_tryOrders_55 at h
  refine g_iload dX11_tryOrders_55 rfl ?_
  refine g_sipush dX11_tryOrders_57 405 rfl (by decide) ?_
  obtain ⟨hA, hB⟩ := h
  refine g_icmp_ge (tgt := 89) dX11_tryOrders_60 (by decide) (fun hc => ?_) (fun hc => ?_)
  · replace h := hA hc
    refine g_iconst dX11_tryOrders_89 0 rfl (by decide) ?_
    refine g_istore (lv' := [(4, vI 0), (0, vR 300), (1, vI l1), (2, vI l2), (3, vI l3)]) dX11_tryOrders_90 (by decide) rfl ?_
    refine g_lv (lv' := [(0, vR 300), (1, vI l1), (2, vI l2), (3, vI l3), (4, vI 0)]) [1, 2, 3, 4, 0] rfl ?_
    exact eX11_tryOrders_92 hfl hRec hR h
  · replace h := hB hc
    refine g_aload_n dX11_tryOrders_63 rfl ?_
    refine g_getR (r := 323) fl_11_49 kd_300 rfl dX11_tryOrders_64 ?_
    refine g_sipush dX11_tryOrders_67 405 rfl (by decide) ?_
    refine g_iload_n dX11_tryOrders_70 rfl ?_
    refine g_imul dX11_tryOrders_71 ?_
    refine g_iload dX11_tryOrders_72 rfl ?_
    refine g_iadd dX11_tryOrders_74 ?_
    refine g_aload_n dX11_tryOrders_75 rfl ?_
    refine g_getR (r := 301) fl_11_9 kd_300 rfl dX11_tryOrders_76 ?_
    refine g_iload dX11_tryOrders_79 rfl ?_
    obtain ⟨hin, h⟩ := h
    refine g_iald kd_301 hin dX11_tryOrders_81 ?_
    obtain ⟨hin, h⟩ := h
    refine g_iast kd_323 hin dX11_tryOrders_82 ?_
    refine g_nm (fun m1 em1 => ?_)
    replace h := h m1 em1
    refine g_iinc (lv' := [(4, vI (w32 (l4 + 1))), (0, vR 300), (1, vI l1), (2, vI l2), (3, vI l3)]) dX11_tryOrders_83 rfl (by decide) rfl ?_
    refine g_loc (a := w32 (l4 + 1)) (i := 4) (lv := [(0, vR 300), (1, vI l1), (2, vI l2), (3, vI l3)]) (fun x2 ex2 => ?_)
    replace h := h x2 ex2
    refine g_goto (tgt := 55) dX11_tryOrders_86 (by decide) ?_
    refine g_lv (lv' := [(0, vR 300), (1, vI l1), (2, vI l2), (3, vI l3), (4, vI x2)]) [1, 2, 3, 4, 0] rfl ?_
    exact hK55 ((l1, l2, l3, x2)) m1 h
theorem eX11_tryOrders_55 {E : TE} {fr lo fr2 lo2 : Nat} (hfl : 9 ≤ fr ∧ 213 ≤ lo ∧ fr2 + 1 ≤ fr ∧ 8 + (6 + 11) + lo2 ≤ lo) {R : Int → Int → Int → Mem → (Mem → Prop) → Prop} (hRec : ∀ {l1 l2 l3 : Int} {σ : Mem} {Q : Mem → Prop}, R l1 l2 l3 σ Q → ∀ (l : Launch) (D : va_G) (cy : Nat → ClassId) (ad : Nat → Nat), MV l yX11_tryOrders cX11_tryOrders 6 none fr2 lo2 D cy ad [vR 300, vI l1, vI l2, vI l3] σ Q) {Q : Mem → Prop} (hR : RV E none Q) {l1 : Int} {l2 : Int} {l3 : Int} {l4 : Int} {σ : Mem} (h : wLX11_tryOrders_55 R Q l1 l2 l3 l4 σ) : GW E cX11_tryOrders 6 RX11 fr lo σ 55 [(0, vR 300), (1, vI l1), (2, vI l2), (3, vI l3), (4, vI l4)] [] := by
  obtain ⟨n, h⟩ := h
  exact lp_GW (P := fun (x : Int × Int × Int × Int) (σ : Mem) => GW E cX11_tryOrders 6 RX11 fr lo σ 55 [(0, vR 300), (1, vI x.1), (2, vI x.2.1), (3, vI x.2.2.1), (4, vI x.2.2.2)] []) (fun K hK x σ h  => bX11_tryOrders_55 hfl hRec hK hR h) n _ σ h 
set_option maxHeartbeats 1000000 in
theorem kBX11_tryOrders {fr lo fr2 lo2 : Nat} (hfl : 9 ≤ fr ∧ 213 ≤ lo ∧ fr2 + 1 ≤ fr ∧ 8 + (6 + 11) + lo2 ≤ lo) {R : Int → Int → Int → Mem → (Mem → Prop) → Prop} (hRec : ∀ {l1 l2 l3 : Int} {σ : Mem} {Q : Mem → Prop}, R l1 l2 l3 σ Q → ∀ (l : Launch) (D : va_G) (cy : Nat → ClassId) (ad : Nat → Nat), MV l yX11_tryOrders cX11_tryOrders 6 none fr2 lo2 D cy ad [vR 300, vI l1, vI l2, vI l3] σ Q) {l1 : Int} {l2 : Int} {l3 : Int} {σ : Mem} {Q : Mem → Prop} (h : wBX11_tryOrders R l1 l2 l3 σ Q) (l : Launch) (D : va_G) (cy : Nat → ClassId) (ad : Nat → Nat) : MV l yX11_tryOrders cX11_tryOrders 6 none fr lo D cy ad [vR 300, vI l1, vI l2, vI l3] σ Q := by
  refine m_V (own := RX11) (lv := [(0, vR 300), (1, vI l1), (2, vI l2), (3, vI l3)]) (by decide +kernel) rfl (Nat.le_of_ble_eq_true rfl) rfl (fun E hR => ?_) l D cy ad
  unfold wBX11_tryOrders at h
  refine g_iload_n dX11_tryOrders_0 rfl ?_
  refine g_iload_n dX11_tryOrders_1 rfl ?_
  obtain ⟨hA, hB⟩ := h
  refine g_icmp_ne (tgt := 52) dX11_tryOrders_2 (by decide) (fun hc => ?_) (fun hc => ?_)
  · replace h := hA hc
    refine g_iconst dX11_tryOrders_52 0 rfl (by decide) ?_
    refine g_istore (lv' := [(4, vI 0), (0, vR 300), (1, vI l1), (2, vI l2), (3, vI l3)]) dX11_tryOrders_53 (by decide) rfl ?_
    refine g_lv (lv' := [(0, vR 300), (1, vI l1), (2, vI l2), (3, vI l3), (4, vI 0)]) [1, 2, 3, 4, 0] rfl ?_
    exact eX11_tryOrders_55 hfl hRec hR h
  · replace h := hB hc
    refine g_iconst dX11_tryOrders_5 0 rfl (by decide) ?_
    refine g_istore (lv' := [(4, vI 0), (0, vR 300), (1, vI l1), (2, vI l2), (3, vI l3)]) dX11_tryOrders_6 (by decide) rfl ?_
    refine g_lv (lv' := [(0, vR 300), (3, vI l3), (4, vI 0)]) [1, 4, 0] rfl ?_
    exact eX11_tryOrders_8 hfl hRec hR h
theorem kRX11_tryOrders : ∀ (d : Nat) {l1 l2 l3 : Int} {σ : Mem} {Q : Mem → Prop}, wRX11_tryOrders d l1 l2 l3 σ Q → ∀ (l : Launch) (D : va_G) (cy : Nat → ClassId) (ad : Nat → Nat), MV l yX11_tryOrders cX11_tryOrders 6 none (9 + d) (213 + d * 25) D cy ad [vR 300, vI l1, vI l2, vI l3] σ Q
  | 0, _, _, _, _, _, h => h.elim
  | d + 1, _, _, _, _, _, h => kBX11_tryOrders (R := wRX11_tryOrders d) (fr2 := 9 + d) (lo2 := 213 + d * 25) ⟨by omega, by omega, by omega, by omega⟩ (fun h => kRX11_tryOrders d h) h
theorem kX11_tryOrders {l1 l2 l3 : Int} {σ : Mem} {Q : Mem → Prop} (h : wX11_tryOrders l1 l2 l3 σ Q) (l : Launch) (D : va_G) (cy : Nat → ClassId) (ad : Nat → Nat) : MV l yX11_tryOrders cX11_tryOrders 6 none 19 463 D cy ad [vR 300, vI l1, vI l2, vI l3] σ Q := kRX11_tryOrders 10 h l D cy ad
def wX11_orders_53 (K53 : (Int × Int) → Mem → Prop) (Q : Int → Mem → Prop) (l1 : Int) (l2 : Int) (σ : Mem) : Prop := ((l1 ≤ l2 → (wX11_tell (σ 300 23) σ (fun m1 => Q l1 m1))) ∧ (¬ l1 ≤ l2 → ((0 ≤ l2 ∧ l2 < 5) ∧ (wX11_tell (σ 322 l2.toNat) σ (fun m2 => (∀ x3 : Int, x3 = w32 (l2 + 1) → K53 (l1, x3) m2))))))
def wLX11_orders_53 (Q : Int → Mem → Prop) (l1 : Int) (l2 : Int) (σ : Mem) : Prop := ∃ n, lp (fun (K53 : (Int × Int) → Mem → Prop) (x : Int × Int) (σ : Mem) => wX11_orders_53 K53 Q x.1 x.2 σ) n (l1, l2) σ
def wX11_orders (σ : Mem) (Q : Int → Mem → Prop) : Prop := (∀ m1 : Mem, m1 = up2 σ 300 5 0 → (wX11_readPayments 5 m1 (fun y3 m2 => ((¬ y3 = (-1) → (∀ m4 : Mem, m4 = up2 m2 300 23 0 → (wX11_tryOrders 0 0 y3 m4 (fun m5 => ((¬ m5 300 23 = 0 → (∀ m6 : Mem, m6 = up2 m5 300 4 0 → wLX11_orders_53 Q y3 0 m6)) ∧ (m5 300 23 = 0 → Q ((-200)) m5)))))) ∧ (y3 = (-1) → Q (w32 (((-1)) - (m2 300 8))) m2)))))
set_option maxHeartbeats 1000000 in
theorem bX11_orders_53 {E : TE} {K53 : (Int × Int) → Mem → Prop} (hK53 : ∀ (x : Int × Int) (σ : Mem), K53 x σ → GW E cX11_orders 3 RX11 20 488 σ 53 [(0, vR 300), (1, vI x.1), (2, vI x.2)] []) {Q : Int → Mem → Prop} (hR : RI E (some .int) Q) {l1 : Int} {l2 : Int} {σ : Mem} (h : wX11_orders_53 K53 Q l1 l2 σ) : GW E cX11_orders 3 RX11 20 488 σ 53 [(0, vR 300), (1, vI l1), (2, vI l2)] [] := by
  unfold wX11_orders_53 at h
  refine g_iload_n dX11_orders_53 rfl ?_
  refine g_iload_n dX11_orders_54 rfl ?_
  obtain ⟨hA, hB⟩ := h
  refine g_icmp_ge (tgt := 75) dX11_orders_55 (by decide) (fun hc => ?_) (fun hc => ?_)
  · replace h := hA hc
    refine g_aload_n dX11_orders_75 rfl ?_
    refine g_aload_n dX11_orders_76 rfl ?_
    refine g_getI fl_11_271 kd_300 rfl dX11_orders_77 ?_
    refine g_i2l dX11_orders_80 ?_
    refine g_cVv (st := []) (av := [vL (σ 300 23)]) (kX11_tell h) kd_300 rfl cw_RX11_155 (by decide) (by decide) (Nat.le_of_ble_eq_true rfl) rfl dX11_orders_81 (fun m1 h => ?_)
    refine g_iload_n dX11_orders_84 rfl ?_
    exact g_iret hR dX11_orders_85 h
  · replace h := hB hc
    refine g_aload_n dX11_orders_58 rfl ?_
    refine g_aload_n dX11_orders_59 rfl ?_
    refine g_getR (r := 322) fl_11_46 kd_300 rfl dX11_orders_60 ?_
    refine g_iload_n dX11_orders_63 rfl ?_
    obtain ⟨hin, h⟩ := h
    refine g_iald kd_322 hin dX11_orders_64 ?_
    refine g_i2l dX11_orders_65 ?_
    refine g_cVv (st := []) (av := [vL (σ 322 l2.toNat)]) (kX11_tell h) kd_300 rfl cw_RX11_155 (by decide) (by decide) (Nat.le_of_ble_eq_true rfl) rfl dX11_orders_66 (fun m2 h => ?_)
    refine g_iinc (lv' := [(2, vI (w32 (l2 + 1))), (0, vR 300), (1, vI l1)]) dX11_orders_69 rfl (by decide) rfl ?_
    refine g_loc (a := w32 (l2 + 1)) (i := 2) (lv := [(0, vR 300), (1, vI l1)]) (fun x3 ex3 => ?_)
    replace h := h x3 ex3
    refine g_goto (tgt := 53) dX11_orders_72 (by decide) ?_
    refine g_lv (lv' := [(0, vR 300), (1, vI l1), (2, vI x3)]) [1, 2, 0] rfl ?_
    exact hK53 ((l1, x3)) m2 h
theorem eX11_orders_53 {E : TE} {Q : Int → Mem → Prop} (hR : RI E (some .int) Q) {l1 : Int} {l2 : Int} {σ : Mem} (h : wLX11_orders_53 Q l1 l2 σ) : GW E cX11_orders 3 RX11 20 488 σ 53 [(0, vR 300), (1, vI l1), (2, vI l2)] [] := by
  obtain ⟨n, h⟩ := h
  exact lp_GW (P := fun (x : Int × Int) (σ : Mem) => GW E cX11_orders 3 RX11 20 488 σ 53 [(0, vR 300), (1, vI x.1), (2, vI x.2)] []) (fun K hK x σ h  => bX11_orders_53 hK hR h) n _ σ h 
set_option maxHeartbeats 1000000 in
theorem kX11_orders {σ : Mem} {Q : Int → Mem → Prop} (h : wX11_orders σ Q) (l : Launch) (D : va_G) (cy : Nat → ClassId) (ad : Nat → Nat) : MI l yX11_orders cX11_orders 3 (some .int) 20 488 D cy ad [vR 300] σ Q := by
  refine m_I (own := RX11) (lv := [(0, vR 300)]) (by decide +kernel) rfl (Nat.le_of_ble_eq_true rfl) rfl (fun E hR => ?_) l D cy ad
  unfold wX11_orders at h
  refine g_aload_n dX11_orders_0 rfl ?_
  refine g_iconst dX11_orders_1 0 rfl (by decide) ?_
  refine g_putI fp_11_68 kd_300 rfl dX11_orders_2 ?_
  refine g_nm (fun m1 em1 => ?_)
  replace h := h m1 em1
  refine g_aload_n dX11_orders_5 rfl ?_
  refine g_iconst dX11_orders_6 5 rfl (by decide) ?_
  refine g_cVi (st := []) (av := [vI 5]) (kX11_readPayments h) kd_300 rfl cw_RX11_259 (by decide) (by decide) (Nat.le_of_ble_eq_true rfl) rfl dX11_orders_7 (fun y3 m2 h => ?_)
  refine g_istore_n (lv' := [(1, vI y3), (0, vR 300)]) dX11_orders_10 (by decide) rfl ?_
  refine g_iload_n dX11_orders_11 rfl ?_
  refine g_iconst dX11_orders_12 (-1) rfl (by decide) ?_
  obtain ⟨hA, hB⟩ := h
  refine g_icmp_ne (tgt := 23) dX11_orders_13 (by decide) (fun hc => ?_) (fun hc => ?_)
  · replace h := hA hc
    refine g_aload_n dX11_orders_23 rfl ?_
    refine g_iconst dX11_orders_24 0 rfl (by decide) ?_
    refine g_putI fp_11_271 kd_300 rfl dX11_orders_25 ?_
    refine g_nm (fun m4 em4 => ?_)
    replace h := h m4 em4
    refine g_aload_n dX11_orders_28 rfl ?_
    refine g_iconst dX11_orders_29 0 rfl (by decide) ?_
    refine g_iconst dX11_orders_30 0 rfl (by decide) ?_
    refine g_iload_n dX11_orders_31 rfl ?_
    refine g_cVv (st := []) (av := [vI 0, vI 0, vI y3]) (kX11_tryOrders h) kd_300 rfl cw_RX11_274 (by decide) (by decide) (Nat.le_of_ble_eq_true rfl) rfl dX11_orders_32 (fun m5 h => ?_)
    refine g_aload_n dX11_orders_35 rfl ?_
    refine g_getI fl_11_271 kd_300 rfl dX11_orders_36 ?_
    obtain ⟨hA, hB⟩ := h
    refine g_if_ne (tgt := 46) dX11_orders_39 (by decide) (fun hc => ?_) (fun hc => ?_)
    · replace h := hA hc
      refine g_aload_n dX11_orders_46 rfl ?_
      refine g_iconst dX11_orders_47 0 rfl (by decide) ?_
      refine g_putI fp_11_71 kd_300 rfl dX11_orders_48 ?_
      refine g_nm (fun m6 em6 => ?_)
      replace h := h m6 em6
      refine g_iconst dX11_orders_51 0 rfl (by decide) ?_
      refine g_istore_n (lv' := [(2, vI 0), (1, vI y3), (0, vR 300)]) dX11_orders_52 (by decide) rfl ?_
      refine g_lv (lv' := [(0, vR 300), (1, vI y3), (2, vI 0)]) [2, 1, 0] rfl ?_
      exact eX11_orders_53 hR h
    · replace h := hB hc
      refine g_sipush dX11_orders_42 (-200) rfl (by decide) ?_
      exact g_iret hR dX11_orders_45 h
  · replace h := hB hc
    refine g_iconst dX11_orders_16 (-1) rfl (by decide) ?_
    refine g_aload_n dX11_orders_17 rfl ?_
    refine g_getI fl_11_110 kd_300 rfl dX11_orders_18 ?_
    refine g_isub dX11_orders_21 ?_
    exact g_iret hR dX11_orders_22 h
def wX11_settles (σ : Mem) (Q : Int → Mem → Prop) : Prop := (∀ m1 : Mem, m1 = up2 σ 300 5 0 → (wX11_heldBits  m1 (fun y3 m2 => ((y3 = 0 → (wX11_findRing  m2 (fun y5 m4 => ((¬ y5 = 0 → (wX11_change  m4 (fun m6 => (wX11_allDebts  m6 (fun y8 m7 => (wX11_goSettle  m7 (fun y10 m9 => (∀ m11 : Mem, m11 = up2 m9 300 4 0 → (wX11_allDebts  m11 (fun y13 m12 => (wX11_tell (w32 (y8 - y13)) m12 (fun m14 => Q y10 m14)))))))))))) ∧ (y5 = 0 → Q ((-2)) m4))))) ∧ (¬ y3 = 0 → Q ((-5)) m2)))))
set_option maxHeartbeats 1000000 in
theorem kX11_settles {σ : Mem} {Q : Int → Mem → Prop} (h : wX11_settles σ Q) (l : Launch) (D : va_G) (cy : Nat → ClassId) (ad : Nat → Nat) : MI l yX11_settles cX11_settles 3 (some .int) 15 345 D cy ad [vR 300] σ Q := by
  refine m_I (own := RX11) (lv := [(0, vR 300)]) (by decide +kernel) rfl (Nat.le_of_ble_eq_true rfl) rfl (fun E hR => ?_) l D cy ad
  unfold wX11_settles at h
  refine g_aload_n dX11_settles_0 rfl ?_
  refine g_iconst dX11_settles_1 0 rfl (by decide) ?_
  refine g_putI fp_11_68 kd_300 rfl dX11_settles_2 ?_
  refine g_nm (fun m1 em1 => ?_)
  replace h := h m1 em1
  refine g_aload_n dX11_settles_5 rfl ?_
  refine g_cVi (st := []) (av := []) (kX11_heldBits h) kd_300 rfl cw_RX11_144 (by decide) (by decide) (Nat.le_of_ble_eq_true rfl) rfl dX11_settles_6 (fun y3 m2 h => ?_)
  obtain ⟨hA, hB⟩ := h
  refine g_if_eq (tgt := 15) dX11_settles_9 (by decide) (fun hc => ?_) (fun hc => ?_)
  · replace h := hA hc
    refine g_aload_n dX11_settles_15 rfl ?_
    refine g_cVi (st := []) (av := []) (kX11_findRing h) kd_300 rfl cw_RX11_244 (by decide) (by decide) (Nat.le_of_ble_eq_true rfl) rfl dX11_settles_16 (fun y5 m4 h => ?_)
    obtain ⟨hA, hB⟩ := h
    refine g_if_ne (tgt := 25) dX11_settles_19 (by decide) (fun hc => ?_) (fun hc => ?_)
    · replace h := hA hc
      refine g_aload_n dX11_settles_25 rfl ?_
      refine g_cVv (st := []) (av := []) (kX11_change h) kd_300 rfl cw_RX11_138 (by decide) (by decide) (Nat.le_of_ble_eq_true rfl) rfl dX11_settles_26 (fun m6 h => ?_)
      refine g_aload_n dX11_settles_29 rfl ?_
      refine g_cVi (st := []) (av := []) (kX11_allDebts h) kd_300 rfl cw_RX11_172 (by decide) (by decide) (Nat.le_of_ble_eq_true rfl) rfl dX11_settles_30 (fun y8 m7 h => ?_)
      refine g_istore_n (lv' := [(1, vI y8), (0, vR 300)]) dX11_settles_33 (by decide) rfl ?_
      refine g_aload_n dX11_settles_34 rfl ?_
      refine g_cVi (st := []) (av := []) (kX11_goSettle h) kd_300 rfl cw_RX11_250 (by decide) (by decide) (Nat.le_of_ble_eq_true rfl) rfl dX11_settles_35 (fun y10 m9 h => ?_)
      refine g_istore_n (lv' := [(2, vI y10), (1, vI y8), (0, vR 300)]) dX11_settles_38 (by decide) rfl ?_
      refine g_aload_n dX11_settles_39 rfl ?_
      refine g_iconst dX11_settles_40 0 rfl (by decide) ?_
      refine g_putI fp_11_71 kd_300 rfl dX11_settles_41 ?_
      refine g_nm (fun m11 em11 => ?_)
      replace h := h m11 em11
      refine g_aload_n dX11_settles_44 rfl ?_
      refine g_iload_n dX11_settles_45 rfl ?_
      refine g_aload_n dX11_settles_46 rfl ?_
      refine g_cVi (st := [vI y8, vR 300]) (av := []) (kX11_allDebts h) kd_300 rfl cw_RX11_172 (by decide) (by decide) (Nat.le_of_ble_eq_true rfl) rfl dX11_settles_47 (fun y13 m12 h => ?_)
      refine g_isub dX11_settles_50 ?_
      refine g_i2l dX11_settles_51 ?_
      refine g_cVv (st := []) (av := [vL (w32 (y8 - y13))]) (kX11_tell h) kd_300 rfl cw_RX11_155 (by decide) (by decide) (Nat.le_of_ble_eq_true rfl) rfl dX11_settles_52 (fun m14 h => ?_)
      refine g_iload_n dX11_settles_55 rfl ?_
      exact g_iret hR dX11_settles_56 h
    · replace h := hB hc
      refine g_bipush dX11_settles_22 (-2) rfl (by decide) ?_
      exact g_iret hR dX11_settles_24 h
  · replace h := hB hc
    refine g_bipush dX11_settles_12 (-5) rfl (by decide) ?_
    exact g_iret hR dX11_settles_14 h
def wX11_freePlace_2 (K2 : Int → Mem → Prop) (Q : Int → Mem → Prop) (l1 : Int) (σ : Mem) : Prop := ((4 ≤ l1 → Q l1 σ) ∧ (¬ 4 ≤ l1 → (wX11_holdAt l1 σ (fun y2 m1 => ((0 ≤ w32 (y2 + 2) ∧ w32 (y2 + 2) < 405) ∧ ((m1 301 (w32 (y2 + 2)).toNat ≤ 0 → Q l1 m1) ∧ (¬ m1 301 (w32 (y2 + 2)).toNat ≤ 0 → (∀ x3 : Int, x3 = w32 (l1 + 1) → K2 x3 m1))))))))
def wLX11_freePlace_2 (Q : Int → Mem → Prop) (l1 : Int) (σ : Mem) : Prop := ∃ n, lp (fun (K2 : Int → Mem → Prop) (x : Int) (σ : Mem) => wX11_freePlace_2 K2 Q x σ) n l1 σ
def wX11_freePlace (σ : Mem) (Q : Int → Mem → Prop) : Prop := wLX11_freePlace_2 Q 0 σ
set_option maxHeartbeats 1000000 in
theorem bX11_freePlace_2 {E : TE} {K2 : Int → Mem → Prop} (hK2 : ∀ (x : Int) (σ : Mem), K2 x σ → GW E cX11_freePlace 2 RX11 1 20 σ 2 [(0, vR 300), (1, vI x)] []) {Q : Int → Mem → Prop} (hR : RI E (some .int) Q) {l1 : Int} {σ : Mem} (h : wX11_freePlace_2 K2 Q l1 σ) : GW E cX11_freePlace 2 RX11 1 20 σ 2 [(0, vR 300), (1, vI l1)] [] := by
  unfold wX11_freePlace_2 at h
  refine g_iload_n dX11_freePlace_2 rfl ?_
  refine g_iconst dX11_freePlace_3 4 rfl (by decide) ?_
  obtain ⟨hA, hB⟩ := h
  refine g_icmp_ge (tgt := 27) dX11_freePlace_4 (by decide) (fun hc => ?_) (fun hc => ?_)
  · replace h := hA hc
    refine g_iload_n dX11_freePlace_27 rfl ?_
    exact g_iret hR dX11_freePlace_28 h
  · replace h := hB hc
    refine g_aload_n dX11_freePlace_7 rfl ?_
    refine g_getR (r := 301) fl_11_9 kd_300 rfl dX11_freePlace_8 ?_
    refine g_iload_n dX11_freePlace_11 rfl ?_
    refine g_cSi (st := [vR 301]) (av := [vI l1]) (kX11_holdAt h) cw_RX11_91 (by decide) (by decide) (Nat.le_of_ble_eq_true rfl) rfl dX11_freePlace_12 (fun y2 m1 h => ?_)
    refine g_iconst dX11_freePlace_15 2 rfl (by decide) ?_
    refine g_iadd dX11_freePlace_16 ?_
    obtain ⟨hin, h⟩ := h
    refine g_iald kd_301 hin dX11_freePlace_17 ?_
    obtain ⟨hA, hB⟩ := h
    refine g_if_le (tgt := 27) dX11_freePlace_18 (by decide) (fun hc => ?_) (fun hc => ?_)
    · replace h := hA hc
      refine g_iload_n dX11_freePlace_27 rfl ?_
      exact g_iret hR dX11_freePlace_28 h
    · replace h := hB hc
      refine g_iinc (lv' := [(1, vI (w32 (l1 + 1))), (0, vR 300)]) dX11_freePlace_21 rfl (by decide) rfl ?_
      refine g_loc (a := w32 (l1 + 1)) (i := 1) (lv := [(0, vR 300)]) (fun x3 ex3 => ?_)
      replace h := h x3 ex3
      refine g_goto (tgt := 2) dX11_freePlace_24 (by decide) ?_
      refine g_lv (lv' := [(0, vR 300), (1, vI x3)]) [1, 0] rfl ?_
      exact hK2 x3 m1 h
theorem eX11_freePlace_2 {E : TE} {Q : Int → Mem → Prop} (hR : RI E (some .int) Q) {l1 : Int} {σ : Mem} (h : wLX11_freePlace_2 Q l1 σ) : GW E cX11_freePlace 2 RX11 1 20 σ 2 [(0, vR 300), (1, vI l1)] [] := by
  obtain ⟨n, h⟩ := h
  exact lp_GW (P := fun (x : Int) (σ : Mem) => GW E cX11_freePlace 2 RX11 1 20 σ 2 [(0, vR 300), (1, vI x)] []) (fun K hK x σ h  => bX11_freePlace_2 hK hR h) n _ σ h 
set_option maxHeartbeats 1000000 in
theorem kX11_freePlace {σ : Mem} {Q : Int → Mem → Prop} (h : wX11_freePlace σ Q) (l : Launch) (D : va_G) (cy : Nat → ClassId) (ad : Nat → Nat) : MI l yX11_freePlace cX11_freePlace 2 (some .int) 1 20 D cy ad [vR 300] σ Q := by
  refine m_I (own := RX11) (lv := [(0, vR 300)]) (by decide +kernel) rfl (Nat.le_of_ble_eq_true rfl) rfl (fun E hR => ?_) l D cy ad
  unfold wX11_freePlace at h
  refine g_iconst dX11_freePlace_0 0 rfl (by decide) ?_
  refine g_istore_n (lv' := [(1, vI 0), (0, vR 300)]) dX11_freePlace_1 (by decide) rfl ?_
  refine g_lv (lv' := [(0, vR 300), (1, vI 0)]) [1, 0] rfl ?_
  exact eX11_freePlace_2 hR h
def wX11_hold_104 (K104 : (Int × Int) → Mem → Prop) (Q : Mem → Prop) (l6 : Int) (l7 : Int) (σ : Mem) : Prop := ((64 ≤ l7 → Q σ) ∧ (¬ 64 ≤ l7 → ((0 ≤ l7 ∧ l7 < 64) ∧ ((0 ≤ w32 ((w32 (l6 + 3)) + l7) ∧ w32 ((w32 (l6 + 3)) + l7) < 405) ∧ (∀ m1 : Mem, m1 = up2 σ 301 (w32 ((w32 (l6 + 3)) + l7)).toNat (σ 325 l7.toNat) → (∀ x2 : Int, x2 = w32 (l7 + 1) → K104 (l6, x2) m1))))))
def wLX11_hold_104 (Q : Mem → Prop) (l6 : Int) (l7 : Int) (σ : Mem) : Prop := ∃ n, lp (fun (K104 : (Int × Int) → Mem → Prop) (x : Int × Int) (σ : Mem) => wX11_hold_104 K104 Q x.1 x.2 σ) n (l6, l7) σ
def wX11_hold_25 (K25 : (Int × Int × Int × Int × Int) → Mem → Prop) (Q : Mem → Prop) (l2 : Int) (l3 : Int) (l5 : Int) (l6 : Int) (l7 : Int) (σ : Mem) : Prop := ((64 ≤ l7 → (wX11_comesBack 1 σ (fun m1 => ((0 ≤ l6 ∧ l6 < 405) ∧ (∀ m2 : Mem, m2 = up2 m1 301 l6.toNat l2 → ((0 ≤ w32 (l6 + 1) ∧ w32 (l6 + 1) < 405) ∧ (∀ m3 : Mem, m3 = up2 m2 301 (w32 (l6 + 1)).toNat l3 → ((0 ≤ w32 (l6 + 2) ∧ w32 (l6 + 2) < 405) ∧ (∀ m4 : Mem, m4 = up2 m3 301 (w32 (l6 + 2)).toNat l5 → wLX11_hold_104 Q l6 0 m4))))))))) ∧ (¬ 64 ≤ l7 → ((0 ≤ w32 (65 + l7) ∧ w32 (65 + l7) < 405) ∧ ((0 ≤ w32 (470 + l7) ∧ w32 (470 + l7) < 1620) ∧ ((0 ≤ l7 ∧ l7 < 64) ∧ (∀ m5 : Mem, m5 = up2 σ 325 l7.toNat (w32 ((σ 301 (w32 (65 + l7)).toNat) - (σ 316 (w32 (470 + l7)).toNat))) → (∀ x6 : Int, x6 = w32 (l7 + 1) → K25 (l2, l3, l5, l6, x6) m5)))))))
def wLX11_hold_25 (Q : Mem → Prop) (l2 : Int) (l3 : Int) (l5 : Int) (l6 : Int) (l7 : Int) (σ : Mem) : Prop := ∃ n, lp (fun (K25 : (Int × Int × Int × Int × Int) → Mem → Prop) (x : Int × Int × Int × Int × Int) (σ : Mem) => wX11_hold_25 K25 Q x.1 x.2.1 x.2.2.1 x.2.2.2.1 x.2.2.2.2 σ) n (l2, l3, l5, l6, l7) σ
def wX11_hold (l1 : Int) (l2 : Int) (l3 : Int) (l4 : Int) (σ : Mem) (Q : Mem → Prop) : Prop := (wX11_layAside 1 σ (fun m1 => (wX11_goParts l2 l3 l4 0 m1 (fun y3 m2 => (wX11_holdAt l1 m2 (fun y5 m4 => wLX11_hold_25 Q l2 l3 y3 y5 0 m4))))))
set_option maxHeartbeats 1000000 in
theorem bX11_hold_104 {E : TE} {K104 : (Int × Int) → Mem → Prop} (hK104 : ∀ (x : Int × Int) (σ : Mem), K104 x σ → GW E cX11_hold 8 RX11 7 169 σ 104 [(0, vR 300), (6, vI x.1), (7, vI x.2)] []) {Q : Mem → Prop} (hR : RV E none Q) {l6 : Int} {l7 : Int} {σ : Mem} (h : wX11_hold_104 K104 Q l6 l7 σ) : GW E cX11_hold 8 RX11 7 169 σ 104 [(0, vR 300), (6, vI l6), (7, vI l7)] [] := by
  unfold wX11_hold_104 at h
  refine g_iload dX11_hold_104 rfl ?_
  refine g_bipush dX11_hold_106 64 rfl (by decide) ?_
  obtain ⟨hA, hB⟩ := h
  refine g_icmp_ge (tgt := 136) dX11_hold_108 (by decide) (fun hc => ?_) (fun hc => ?_)
  · replace h := hA hc
    exact g_vret hR dX11_hold_136 h
  · replace h := hB hc
    refine g_aload_n dX11_hold_111 rfl ?_
    refine g_getR (r := 301) fl_11_9 kd_300 rfl dX11_hold_112 ?_
    refine g_iload dX11_hold_115 rfl ?_
    refine g_iconst dX11_hold_117 3 rfl (by decide) ?_
    refine g_iadd dX11_hold_118 ?_
    refine g_iload dX11_hold_119 rfl ?_
    refine g_iadd dX11_hold_121 ?_
    refine g_aload_n dX11_hold_122 rfl ?_
    refine g_getR (r := 325) fl_11_52 kd_300 rfl dX11_hold_123 ?_
    refine g_iload dX11_hold_126 rfl ?_
    obtain ⟨hin, h⟩ := h
    refine g_iald kd_325 hin dX11_hold_128 ?_
    obtain ⟨hin, h⟩ := h
    refine g_iast kd_301 hin dX11_hold_129 ?_
    refine g_nm (fun m1 em1 => ?_)
    replace h := h m1 em1
    refine g_iinc (lv' := [(7, vI (w32 (l7 + 1))), (0, vR 300), (6, vI l6)]) dX11_hold_130 rfl (by decide) rfl ?_
    refine g_loc (a := w32 (l7 + 1)) (i := 7) (lv := [(0, vR 300), (6, vI l6)]) (fun x2 ex2 => ?_)
    replace h := h x2 ex2
    refine g_goto (tgt := 104) dX11_hold_133 (by decide) ?_
    refine g_lv (lv' := [(0, vR 300), (6, vI l6), (7, vI x2)]) [1, 2, 0] rfl ?_
    exact hK104 ((l6, x2)) m1 h
theorem eX11_hold_104 {E : TE} {Q : Mem → Prop} (hR : RV E none Q) {l6 : Int} {l7 : Int} {σ : Mem} (h : wLX11_hold_104 Q l6 l7 σ) : GW E cX11_hold 8 RX11 7 169 σ 104 [(0, vR 300), (6, vI l6), (7, vI l7)] [] := by
  obtain ⟨n, h⟩ := h
  exact lp_GW (P := fun (x : Int × Int) (σ : Mem) => GW E cX11_hold 8 RX11 7 169 σ 104 [(0, vR 300), (6, vI x.1), (7, vI x.2)] []) (fun K hK x σ h  => bX11_hold_104 hK hR h) n _ σ h 
set_option maxHeartbeats 1000000 in
theorem bX11_hold_25 {E : TE} {K25 : (Int × Int × Int × Int × Int) → Mem → Prop} (hK25 : ∀ (x : Int × Int × Int × Int × Int) (σ : Mem), K25 x σ → GW E cX11_hold 8 RX11 7 169 σ 25 [(0, vR 300), (2, vI x.1), (3, vI x.2.1), (5, vI x.2.2.1), (6, vI x.2.2.2.1), (7, vI x.2.2.2.2)] []) {Q : Mem → Prop} (hR : RV E none Q) {l2 : Int} {l3 : Int} {l5 : Int} {l6 : Int} {l7 : Int} {σ : Mem} (h : wX11_hold_25 K25 Q l2 l3 l5 l6 l7 σ) : GW E cX11_hold 8 RX11 7 169 σ 25 [(0, vR 300), (2, vI l2), (3, vI l3), (5, vI l5), (6, vI l6), (7, vI l7)] [] := by
  unfold wX11_hold_25 at h
  refine g_iload dX11_hold_25 rfl ?_
  refine g_bipush dX11_hold_27 64 rfl (by decide) ?_
  obtain ⟨hA, hB⟩ := h
  refine g_icmp_ge (tgt := 67) dX11_hold_29 (by decide) (fun hc => ?_) (fun hc => ?_)
  · replace h := hA hc
    refine g_aload_n dX11_hold_67 rfl ?_
    refine g_iconst dX11_hold_68 1 rfl (by decide) ?_
    refine g_cVv (st := []) (av := [vI 1]) (kX11_comesBack h) kd_300 rfl cw_RX11_232 (by decide) (by decide) (Nat.le_of_ble_eq_true rfl) rfl dX11_hold_69 (fun m1 h => ?_)
    refine g_aload_n dX11_hold_72 rfl ?_
    refine g_getR (r := 301) fl_11_9 kd_300 rfl dX11_hold_73 ?_
    refine g_iload dX11_hold_76 rfl ?_
    refine g_iload_n dX11_hold_78 rfl ?_
    obtain ⟨hin, h⟩ := h
    refine g_iast kd_301 hin dX11_hold_79 ?_
    refine g_nm (fun m2 em2 => ?_)
    replace h := h m2 em2
    refine g_aload_n dX11_hold_80 rfl ?_
    refine g_getR (r := 301) fl_11_9 kd_300 rfl dX11_hold_81 ?_
    refine g_iload dX11_hold_84 rfl ?_
    refine g_iconst dX11_hold_86 1 rfl (by decide) ?_
    refine g_iadd dX11_hold_87 ?_
    refine g_iload_n dX11_hold_88 rfl ?_
    obtain ⟨hin, h⟩ := h
    refine g_iast kd_301 hin dX11_hold_89 ?_
    refine g_nm (fun m3 em3 => ?_)
    replace h := h m3 em3
    refine g_aload_n dX11_hold_90 rfl ?_
    refine g_getR (r := 301) fl_11_9 kd_300 rfl dX11_hold_91 ?_
    refine g_iload dX11_hold_94 rfl ?_
    refine g_iconst dX11_hold_96 2 rfl (by decide) ?_
    refine g_iadd dX11_hold_97 ?_
    refine g_iload dX11_hold_98 rfl ?_
    obtain ⟨hin, h⟩ := h
    refine g_iast kd_301 hin dX11_hold_100 ?_
    refine g_nm (fun m4 em4 => ?_)
    replace h := h m4 em4
    refine g_iconst dX11_hold_101 0 rfl (by decide) ?_
    refine g_istore (lv' := [(7, vI 0), (0, vR 300), (2, vI l2), (3, vI l3), (5, vI l5), (6, vI l6)]) dX11_hold_102 (by decide) rfl ?_
    refine g_lv (lv' := [(0, vR 300), (6, vI l6), (7, vI 0)]) [1, 5, 0] rfl ?_
    exact eX11_hold_104 hR h
  · replace h := hB hc
    refine g_aload_n dX11_hold_32 rfl ?_
    refine g_getR (r := 325) fl_11_52 kd_300 rfl dX11_hold_33 ?_
    refine g_iload dX11_hold_36 rfl ?_
    refine g_aload_n dX11_hold_38 rfl ?_
    refine g_getR (r := 301) fl_11_9 kd_300 rfl dX11_hold_39 ?_
    refine g_bipush dX11_hold_42 65 rfl (by decide) ?_
    refine g_iload dX11_hold_44 rfl ?_
    refine g_iadd dX11_hold_46 ?_
    obtain ⟨hin, h⟩ := h
    refine g_iald kd_301 hin dX11_hold_47 ?_
    refine g_aload_n dX11_hold_48 rfl ?_
    refine g_getR (r := 316) fl_11_37 kd_300 rfl dX11_hold_49 ?_
    refine g_sipush dX11_hold_52 470 rfl (by decide) ?_
    refine g_iload dX11_hold_55 rfl ?_
    refine g_iadd dX11_hold_57 ?_
    obtain ⟨hin, h⟩ := h
    refine g_iald kd_316 hin dX11_hold_58 ?_
    refine g_isub dX11_hold_59 ?_
    obtain ⟨hin, h⟩ := h
    refine g_iast kd_325 hin dX11_hold_60 ?_
    refine g_nm (fun m5 em5 => ?_)
    replace h := h m5 em5
    refine g_iinc (lv' := [(7, vI (w32 (l7 + 1))), (0, vR 300), (2, vI l2), (3, vI l3), (5, vI l5), (6, vI l6)]) dX11_hold_61 rfl (by decide) rfl ?_
    refine g_loc (a := w32 (l7 + 1)) (i := 7) (lv := [(0, vR 300), (2, vI l2), (3, vI l3), (5, vI l5), (6, vI l6)]) (fun x6 ex6 => ?_)
    replace h := h x6 ex6
    refine g_goto (tgt := 25) dX11_hold_64 (by decide) ?_
    refine g_lv (lv' := [(0, vR 300), (2, vI l2), (3, vI l3), (5, vI l5), (6, vI l6), (7, vI x6)]) [1, 2, 3, 4, 5, 0] rfl ?_
    exact hK25 ((l2, l3, l5, l6, x6)) m5 h
theorem eX11_hold_25 {E : TE} {Q : Mem → Prop} (hR : RV E none Q) {l2 : Int} {l3 : Int} {l5 : Int} {l6 : Int} {l7 : Int} {σ : Mem} (h : wLX11_hold_25 Q l2 l3 l5 l6 l7 σ) : GW E cX11_hold 8 RX11 7 169 σ 25 [(0, vR 300), (2, vI l2), (3, vI l3), (5, vI l5), (6, vI l6), (7, vI l7)] [] := by
  obtain ⟨n, h⟩ := h
  exact lp_GW (P := fun (x : Int × Int × Int × Int × Int) (σ : Mem) => GW E cX11_hold 8 RX11 7 169 σ 25 [(0, vR 300), (2, vI x.1), (3, vI x.2.1), (5, vI x.2.2.1), (6, vI x.2.2.2.1), (7, vI x.2.2.2.2)] []) (fun K hK x σ h  => bX11_hold_25 hK hR h) n _ σ h 
set_option maxHeartbeats 1000000 in
theorem kX11_hold {l1 : Int} {l2 : Int} {l3 : Int} {l4 : Int} {σ : Mem} {Q : Mem → Prop} (h : wX11_hold l1 l2 l3 l4 σ Q) (l : Launch) (D : va_G) (cy : Nat → ClassId) (ad : Nat → Nat) : MV l yX11_hold cX11_hold 8 none 7 169 D cy ad [vR 300, vI l1, vI l2, vI l3, vI l4] σ Q := by
  refine m_V (own := RX11) (lv := [(0, vR 300), (1, vI l1), (2, vI l2), (3, vI l3), (4, vI l4)]) (by decide +kernel) rfl (Nat.le_of_ble_eq_true rfl) rfl (fun E hR => ?_) l D cy ad
  unfold wX11_hold at h
  refine g_aload_n dX11_hold_0 rfl ?_
  refine g_iconst dX11_hold_1 1 rfl (by decide) ?_
  refine g_cVv (st := []) (av := [vI 1]) (kX11_layAside h) kd_300 rfl cw_RX11_219 (by decide) (by decide) (Nat.le_of_ble_eq_true rfl) rfl dX11_hold_2 (fun m1 h => ?_)
  refine g_aload_n dX11_hold_5 rfl ?_
  refine g_iload_n dX11_hold_6 rfl ?_
  refine g_iload_n dX11_hold_7 rfl ?_
  refine g_iload dX11_hold_8 rfl ?_
  refine g_iconst dX11_hold_10 0 rfl (by decide) ?_
  refine g_cVi (st := []) (av := [vI l2, vI l3, vI l4, vI 0]) (kX11_goParts h) kd_300 rfl cw_RX11_225 (by decide) (by decide) (Nat.le_of_ble_eq_true rfl) rfl dX11_hold_11 (fun y3 m2 h => ?_)
  refine g_istore (lv' := [(5, vI y3), (0, vR 300), (1, vI l1), (2, vI l2), (3, vI l3), (4, vI l4)]) dX11_hold_14 (by decide) rfl ?_
  refine g_iload_n dX11_hold_16 rfl ?_
  refine g_cSi (st := []) (av := [vI l1]) (kX11_holdAt h) cw_RX11_91 (by decide) (by decide) (Nat.le_of_ble_eq_true rfl) rfl dX11_hold_17 (fun y5 m4 h => ?_)
  refine g_istore (lv' := [(6, vI y5), (5, vI y3), (0, vR 300), (1, vI l1), (2, vI l2), (3, vI l3), (4, vI l4)]) dX11_hold_20 (by decide) rfl ?_
  refine g_iconst dX11_hold_22 0 rfl (by decide) ?_
  refine g_istore (lv' := [(7, vI 0), (6, vI y5), (5, vI y3), (0, vR 300), (1, vI l1), (2, vI l2), (3, vI l3), (4, vI l4)]) dX11_hold_23 (by decide) rfl ?_
  refine g_lv (lv' := [(0, vR 300), (2, vI l2), (3, vI l3), (5, vI y3), (6, vI y5), (7, vI 0)]) [3, 5, 6, 2, 1, 0] rfl ?_
  exact eX11_hold_25 hR h
def wX11_holds (l1 : Int) (l2 : Int) (l3 : Int) (σ : Mem) (Q : Int → Mem → Prop) : Prop := (∀ m1 : Mem, m1 = up2 σ 300 5 0 → (wX11_isPayment l1 l2 l3 m1 (fun y3 m2 => ((¬ y3 = 0 → (wX11_freePlace  m2 (fun y5 m4 => ((¬ y5 = 4 → (wX11_mostOf l1 l2 m4 (fun y7 m6 => (∀ m8 : Mem, m8 = up2 m6 300 4 0 → ((l3 ≤ y7 → (wX11_change  m8 (fun m9 => (wX11_hold y5 l1 l2 l3 m9 (fun m10 => (wX11_tell (m10 300 16) m10 (fun m11 => Q y5 m11))))))) ∧ (¬ l3 ≤ y7 → (wX11_tell y7 m8 (fun m12 => Q ((-4)) m12)))))))) ∧ (y5 = 4 → Q ((-3)) m4))))) ∧ (y3 = 0 → Q ((-1)) m2)))))
set_option maxHeartbeats 1000000 in
theorem kX11_holds {l1 : Int} {l2 : Int} {l3 : Int} {σ : Mem} {Q : Int → Mem → Prop} (h : wX11_holds l1 l2 l3 σ Q) (l : Launch) (D : va_G) (cy : Nat → ClassId) (ad : Nat → Nat) : MI l yX11_holds cX11_holds 6 (some .int) 8 196 D cy ad [vR 300, vI l1, vI l2, vI l3] σ Q := by
  refine m_I (own := RX11) (lv := [(0, vR 300), (1, vI l1), (2, vI l2), (3, vI l3)]) (by decide +kernel) rfl (Nat.le_of_ble_eq_true rfl) rfl (fun E hR => ?_) l D cy ad
  unfold wX11_holds at h
  refine g_aload_n dX11_holds_0 rfl ?_
  refine g_iconst dX11_holds_1 0 rfl (by decide) ?_
  refine g_putI fp_11_68 kd_300 rfl dX11_holds_2 ?_
  refine g_nm (fun m1 em1 => ?_)
  replace h := h m1 em1
  refine g_aload_n dX11_holds_5 rfl ?_
  refine g_iload_n dX11_holds_6 rfl ?_
  refine g_iload_n dX11_holds_7 rfl ?_
  refine g_iload_n dX11_holds_8 rfl ?_
  refine g_cVi (st := []) (av := [vI l1, vI l2, vI l3]) (kX11_isPayment h) kd_300 rfl cw_RX11_192 (by decide) (by decide) (Nat.le_of_ble_eq_true rfl) rfl dX11_holds_9 (fun y3 m2 h => ?_)
  obtain ⟨hA, hB⟩ := h
  refine g_if_ne (tgt := 17) dX11_holds_12 (by decide) (fun hc => ?_) (fun hc => ?_)
  · replace h := hA hc
    refine g_aload_n dX11_holds_17 rfl ?_
    refine g_cVi (st := []) (av := []) (kX11_freePlace h) kd_300 rfl cw_RX11_277 (by decide) (by decide) (Nat.le_of_ble_eq_true rfl) rfl dX11_holds_18 (fun y5 m4 h => ?_)
    refine g_istore (lv' := [(4, vI y5), (0, vR 300), (1, vI l1), (2, vI l2), (3, vI l3)]) dX11_holds_21 (by decide) rfl ?_
    refine g_iload dX11_holds_23 rfl ?_
    refine g_iconst dX11_holds_25 4 rfl (by decide) ?_
    obtain ⟨hA, hB⟩ := h
    refine g_icmp_ne (tgt := 32) dX11_holds_26 (by decide) (fun hc => ?_) (fun hc => ?_)
    · replace h := hA hc
      refine g_aload_n dX11_holds_32 rfl ?_
      refine g_iload_n dX11_holds_33 rfl ?_
      refine g_iload_n dX11_holds_34 rfl ?_
      refine g_cVi (st := []) (av := [vI l1, vI l2]) (kX11_mostOf h) kd_300 rfl cw_RX11_235 (by decide) (by decide) (Nat.le_of_ble_eq_true rfl) rfl dX11_holds_35 (fun y7 m6 h => ?_)
      refine g_istore (lv' := [(5, vI y7), (4, vI y5), (0, vR 300), (1, vI l1), (2, vI l2), (3, vI l3)]) dX11_holds_38 (by decide) rfl ?_
      refine g_aload_n dX11_holds_40 rfl ?_
      refine g_iconst dX11_holds_41 0 rfl (by decide) ?_
      refine g_putI fp_11_71 kd_300 rfl dX11_holds_42 ?_
      refine g_nm (fun m8 em8 => ?_)
      replace h := h m8 em8
      refine g_iload dX11_holds_45 rfl ?_
      refine g_iload_n dX11_holds_47 rfl ?_
      obtain ⟨hA, hB⟩ := h
      refine g_icmp_ge (tgt := 61) dX11_holds_48 (by decide) (fun hc => ?_) (fun hc => ?_)
      · replace h := hA hc
        refine g_aload_n dX11_holds_61 rfl ?_
        refine g_cVv (st := []) (av := []) (kX11_change h) kd_300 rfl cw_RX11_138 (by decide) (by decide) (Nat.le_of_ble_eq_true rfl) rfl dX11_holds_62 (fun m9 h => ?_)
        refine g_aload_n dX11_holds_65 rfl ?_
        refine g_iload dX11_holds_66 rfl ?_
        refine g_iload_n dX11_holds_68 rfl ?_
        refine g_iload_n dX11_holds_69 rfl ?_
        refine g_iload_n dX11_holds_70 rfl ?_
        refine g_cVv (st := []) (av := [vI y5, vI l1, vI l2, vI l3]) (kX11_hold h) kd_300 rfl cw_RX11_280 (by decide) (by decide) (Nat.le_of_ble_eq_true rfl) rfl dX11_holds_71 (fun m10 h => ?_)
        refine g_aload_n dX11_holds_74 rfl ?_
        refine g_aload_n dX11_holds_75 rfl ?_
        refine g_getI fl_11_207 kd_300 rfl dX11_holds_76 ?_
        refine g_i2l dX11_holds_79 ?_
        refine g_cVv (st := []) (av := [vL (m10 300 16)]) (kX11_tell h) kd_300 rfl cw_RX11_155 (by decide) (by decide) (Nat.le_of_ble_eq_true rfl) rfl dX11_holds_80 (fun m11 h => ?_)
        refine g_iload dX11_holds_83 rfl ?_
        exact g_iret hR dX11_holds_85 h
      · replace h := hB hc
        refine g_aload_n dX11_holds_51 rfl ?_
        refine g_iload dX11_holds_52 rfl ?_
        refine g_i2l dX11_holds_54 ?_
        refine g_cVv (st := []) (av := [vL y7]) (kX11_tell h) kd_300 rfl cw_RX11_155 (by decide) (by decide) (Nat.le_of_ble_eq_true rfl) rfl dX11_holds_55 (fun m12 h => ?_)
        refine g_bipush dX11_holds_58 (-4) rfl (by decide) ?_
        exact g_iret hR dX11_holds_60 h
    · replace h := hB hc
      refine g_bipush dX11_holds_29 (-3) rfl (by decide) ?_
      exact g_iret hR dX11_holds_31 h
  · replace h := hB hc
    refine g_iconst dX11_holds_15 (-1) rfl (by decide) ?_
    exact g_iret hR dX11_holds_16 h
def wX11_isHeld (l1 : Int) (σ : Mem) (Q : Int → Mem → Prop) : Prop := (wX11_in l1 0 3 σ (fun y2 m1 => ((y2 = 0 → Q 0 m1) ∧ (¬ y2 = 0 → (wX11_holdAt l1 m1 (fun y4 m3 => ((0 ≤ w32 (y4 + 2) ∧ w32 (y4 + 2) < 405) ∧ ((m3 301 (w32 (y4 + 2)).toNat ≤ 0 → Q 0 m3) ∧ (¬ m3 301 (w32 (y4 + 2)).toNat ≤ 0 → Q 1 m3)))))))))
set_option maxHeartbeats 1000000 in
theorem kX11_isHeld {l1 : Int} {σ : Mem} {Q : Int → Mem → Prop} (h : wX11_isHeld l1 σ Q) (l : Launch) (D : va_G) (cy : Nat → ClassId) (ad : Nat → Nat) : MI l yX11_isHeld cX11_isHeld 2 (some .boolean) 1 22 D cy ad [vR 300, vI l1] σ Q := by
  refine m_I (own := RX11) (lv := [(0, vR 300), (1, vI l1)]) (by decide +kernel) rfl (Nat.le_of_ble_eq_true rfl) rfl (fun E hR => ?_) l D cy ad
  unfold wX11_isHeld at h
  refine g_iload_n dX11_isHeld_0 rfl ?_
  refine g_iconst dX11_isHeld_1 0 rfl (by decide) ?_
  refine g_iconst dX11_isHeld_2 3 rfl (by decide) ?_
  refine g_cSi (st := []) (av := [vI l1, vI 0, vI 3]) (kX11_in h) cw_RX11_74 (by decide) (by decide) (Nat.le_of_ble_eq_true rfl) rfl dX11_isHeld_3 (fun y2 m1 h => ?_)
  obtain ⟨hA, hB⟩ := h
  refine g_if_eq (tgt := 27) dX11_isHeld_6 (by decide) (fun hc => ?_) (fun hc => ?_)
  · replace h := hA hc
    refine g_iconst dX11_isHeld_27 0 rfl (by decide) ?_
    exact g_zret hR dX11_isHeld_28 (by decide) h
  · replace h := hB hc
    refine g_aload_n dX11_isHeld_9 rfl ?_
    refine g_getR (r := 301) fl_11_9 kd_300 rfl dX11_isHeld_10 ?_
    refine g_iload_n dX11_isHeld_13 rfl ?_
    refine g_cSi (st := [vR 301]) (av := [vI l1]) (kX11_holdAt h) cw_RX11_91 (by decide) (by decide) (Nat.le_of_ble_eq_true rfl) rfl dX11_isHeld_14 (fun y4 m3 h => ?_)
    refine g_iconst dX11_isHeld_17 2 rfl (by decide) ?_
    refine g_iadd dX11_isHeld_18 ?_
    obtain ⟨hin, h⟩ := h
    refine g_iald kd_301 hin dX11_isHeld_19 ?_
    obtain ⟨hA, hB⟩ := h
    refine g_if_le (tgt := 27) dX11_isHeld_20 (by decide) (fun hc => ?_) (fun hc => ?_)
    · replace h := hA hc
      refine g_iconst dX11_isHeld_27 0 rfl (by decide) ?_
      exact g_zret hR dX11_isHeld_28 (by decide) h
    · replace h := hB hc
      refine g_iconst dX11_isHeld_23 1 rfl (by decide) ?_
      refine g_goto (tgt := 28) dX11_isHeld_24 (by decide) ?_
      exact g_zret hR dX11_isHeld_28 (by decide) h
def wX11_free_45 (K8 : (Int × Int × Int) → Mem → Prop) (Q : Mem → Prop) (l2 : Int) (l3 : Int) (l4 : Int) (s0 : Int) (s1 : Int) (s2 : Int) (σ : Mem) : Prop := ((0 ≤ s2 ∧ s2 < 405) ∧ (∀ m1 : Mem, m1 = up2 σ 301 s2.toNat (w32 (s1 + s0)) → (∀ x2 : Int, x2 = w32 (l4 + 1) → K8 (l2, l3, x2) m1)))
def wX11_free_56 (K56 : (Int × Int) → Mem → Prop) (Q : Mem → Prop) (l3 : Int) (l4 : Int) (σ : Mem) : Prop := ((67 ≤ l4 → Q σ) ∧ (¬ 67 ≤ l4 → ((0 ≤ w32 (l3 + l4) ∧ w32 (l3 + l4) < 405) ∧ (∀ m1 : Mem, m1 = up2 σ 301 (w32 (l3 + l4)).toNat 0 → (∀ x2 : Int, x2 = w32 (l4 + 1) → K56 (l3, x2) m1)))))
def wLX11_free_56 (Q : Mem → Prop) (l3 : Int) (l4 : Int) (σ : Mem) : Prop := ∃ n, lp (fun (K56 : (Int × Int) → Mem → Prop) (x : Int × Int) (σ : Mem) => wX11_free_56 K56 Q x.1 x.2 σ) n (l3, l4) σ
def wX11_free_8 (K8 : (Int × Int × Int) → Mem → Prop) (Q : Mem → Prop) (l2 : Int) (l3 : Int) (l4 : Int) (σ : Mem) : Prop := ((64 ≤ l4 → wLX11_free_56 Q l3 0 σ) ∧ (¬ 64 ≤ l4 → ((0 ≤ w32 (65 + l4) ∧ w32 (65 + l4) < 405) ∧ ((l2 = 0 → wX11_free_45 K8 Q l2 l3 l4 0 (σ 301 (w32 (65 + l4)).toNat) (w32 (65 + l4)) σ) ∧ (¬ l2 = 0 → ((0 ≤ w32 ((w32 (l3 + 3)) + l4) ∧ w32 ((w32 (l3 + 3)) + l4) < 405) ∧ wX11_free_45 K8 Q l2 l3 l4 (σ 301 (w32 ((w32 (l3 + 3)) + l4)).toNat) (σ 301 (w32 (65 + l4)).toNat) (w32 (65 + l4)) σ))))))
def wLX11_free_8 (Q : Mem → Prop) (l2 : Int) (l3 : Int) (l4 : Int) (σ : Mem) : Prop := ∃ n, lp (fun (K8 : (Int × Int × Int) → Mem → Prop) (x : Int × Int × Int) (σ : Mem) => wX11_free_8 K8 Q x.1 x.2.1 x.2.2 σ) n (l2, l3, l4) σ
def wX11_free (l1 : Int) (l2 : Int) (σ : Mem) (Q : Mem → Prop) : Prop := (wX11_holdAt l1 σ (fun y2 m1 => wLX11_free_8 Q l2 y2 0 m1))
set_option maxHeartbeats 1000000 in
theorem bX11_free_45 {E : TE} {K8 : (Int × Int × Int) → Mem → Prop} (hK8 : ∀ (x : Int × Int × Int) (σ : Mem), K8 x σ → GW E cX11_free 5 RX11 1 20 σ 8 [(0, vR 300), (2, vI x.1), (3, vI x.2.1), (4, vI x.2.2)] []) {Q : Mem → Prop} (hR : RV E none Q) {l2 : Int} {l3 : Int} {l4 : Int} {s0 : Int} {s1 : Int} {s2 : Int} {σ : Mem} (h : wX11_free_45 K8 Q l2 l3 l4 s0 s1 s2 σ) : GW E cX11_free 5 RX11 1 20 σ 45 [(0, vR 300), (2, vI l2), (3, vI l3), (4, vI l4)] [vI s0, vI s1, vI s2, vR 301] := by
  unfold wX11_free_45 at h
  refine g_iadd dX11_free_45 ?_
  obtain ⟨hin, h⟩ := h
  refine g_iast kd_301 hin dX11_free_46 ?_
  refine g_nm (fun m1 em1 => ?_)
  replace h := h m1 em1
  refine g_iinc (lv' := [(4, vI (w32 (l4 + 1))), (0, vR 300), (2, vI l2), (3, vI l3)]) dX11_free_47 rfl (by decide) rfl ?_
  refine g_loc (a := w32 (l4 + 1)) (i := 4) (lv := [(0, vR 300), (2, vI l2), (3, vI l3)]) (fun x2 ex2 => ?_)
  replace h := h x2 ex2
  refine g_goto (tgt := 8) dX11_free_50 (by decide) ?_
  refine g_lv (lv' := [(0, vR 300), (2, vI l2), (3, vI l3), (4, vI x2)]) [1, 2, 3, 0] rfl ?_
  exact hK8 ((l2, l3, x2)) m1 h
set_option maxHeartbeats 1000000 in
theorem bX11_free_56 {E : TE} {K56 : (Int × Int) → Mem → Prop} (hK56 : ∀ (x : Int × Int) (σ : Mem), K56 x σ → GW E cX11_free 5 RX11 1 20 σ 56 [(0, vR 300), (3, vI x.1), (4, vI x.2)] []) {Q : Mem → Prop} (hR : RV E none Q) {l3 : Int} {l4 : Int} {σ : Mem} (h : wX11_free_56 K56 Q l3 l4 σ) : GW E cX11_free 5 RX11 1 20 σ 56 [(0, vR 300), (3, vI l3), (4, vI l4)] [] := by
  unfold wX11_free_56 at h
  refine g_iload dX11_free_56 rfl ?_
  refine g_bipush dX11_free_58 67 rfl (by decide) ?_
  obtain ⟨hA, hB⟩ := h
  refine g_icmp_ge (tgt := 79) dX11_free_60 (by decide) (fun hc => ?_) (fun hc => ?_)
  · replace h := hA hc
    exact g_vret hR dX11_free_79 h
  · replace h := hB hc
    refine g_aload_n dX11_free_63 rfl ?_
    refine g_getR (r := 301) fl_11_9 kd_300 rfl dX11_free_64 ?_
    refine g_iload_n dX11_free_67 rfl ?_
    refine g_iload dX11_free_68 rfl ?_
    refine g_iadd dX11_free_70 ?_
    refine g_iconst dX11_free_71 0 rfl (by decide) ?_
    obtain ⟨hin, h⟩ := h
    refine g_iast kd_301 hin dX11_free_72 ?_
    refine g_nm (fun m1 em1 => ?_)
    replace h := h m1 em1
    refine g_iinc (lv' := [(4, vI (w32 (l4 + 1))), (0, vR 300), (3, vI l3)]) dX11_free_73 rfl (by decide) rfl ?_
    refine g_loc (a := w32 (l4 + 1)) (i := 4) (lv := [(0, vR 300), (3, vI l3)]) (fun x2 ex2 => ?_)
    replace h := h x2 ex2
    refine g_goto (tgt := 56) dX11_free_76 (by decide) ?_
    refine g_lv (lv' := [(0, vR 300), (3, vI l3), (4, vI x2)]) [1, 2, 0] rfl ?_
    exact hK56 ((l3, x2)) m1 h
theorem eX11_free_56 {E : TE} {Q : Mem → Prop} (hR : RV E none Q) {l3 : Int} {l4 : Int} {σ : Mem} (h : wLX11_free_56 Q l3 l4 σ) : GW E cX11_free 5 RX11 1 20 σ 56 [(0, vR 300), (3, vI l3), (4, vI l4)] [] := by
  obtain ⟨n, h⟩ := h
  exact lp_GW (P := fun (x : Int × Int) (σ : Mem) => GW E cX11_free 5 RX11 1 20 σ 56 [(0, vR 300), (3, vI x.1), (4, vI x.2)] []) (fun K hK x σ h  => bX11_free_56 hK hR h) n _ σ h 
set_option maxHeartbeats 1000000 in
theorem bX11_free_8 {E : TE} {K8 : (Int × Int × Int) → Mem → Prop} (hK8 : ∀ (x : Int × Int × Int) (σ : Mem), K8 x σ → GW E cX11_free 5 RX11 1 20 σ 8 [(0, vR 300), (2, vI x.1), (3, vI x.2.1), (4, vI x.2.2)] []) {Q : Mem → Prop} (hR : RV E none Q) {l2 : Int} {l3 : Int} {l4 : Int} {σ : Mem} (h : wX11_free_8 K8 Q l2 l3 l4 σ) : GW E cX11_free 5 RX11 1 20 σ 8 [(0, vR 300), (2, vI l2), (3, vI l3), (4, vI l4)] [] := by
  unfold wX11_free_8 at h
  refine g_iload dX11_free_8 rfl ?_
  refine g_bipush dX11_free_10 64 rfl (by decide) ?_
  obtain ⟨hA, hB⟩ := h
  refine g_icmp_ge (tgt := 53) dX11_free_12 (by decide) (fun hc => ?_) (fun hc => ?_)
  · replace h := hA hc
    refine g_iconst dX11_free_53 0 rfl (by decide) ?_
    refine g_istore (lv' := [(4, vI 0), (0, vR 300), (2, vI l2), (3, vI l3)]) dX11_free_54 (by decide) rfl ?_
    refine g_lv (lv' := [(0, vR 300), (3, vI l3), (4, vI 0)]) [1, 3, 0] rfl ?_
    exact eX11_free_56 hR h
  · replace h := hB hc
    refine g_aload_n dX11_free_15 rfl ?_
    refine g_getR (r := 301) fl_11_9 kd_300 rfl dX11_free_16 ?_
    refine g_bipush dX11_free_19 65 rfl (by decide) ?_
    refine g_iload dX11_free_21 rfl ?_
    refine g_iadd dX11_free_23 ?_
    refine g_dup2 dX11_free_24 rfl rfl ?_
    obtain ⟨hin, h⟩ := h
    refine g_iald kd_301 hin dX11_free_25 ?_
    refine g_iload_n dX11_free_26 rfl ?_
    obtain ⟨hA, hB⟩ := h
    refine g_if_eq (tgt := 44) dX11_free_27 (by decide) (fun hc => ?_) (fun hc => ?_)
    · replace h := hA hc
      refine g_iconst dX11_free_44 0 rfl (by decide) ?_
      exact bX11_free_45 hK8 hR h
    · replace h := hB hc
      refine g_aload_n dX11_free_30 rfl ?_
      refine g_getR (r := 301) fl_11_9 kd_300 rfl dX11_free_31 ?_
      refine g_iload_n dX11_free_34 rfl ?_
      refine g_iconst dX11_free_35 3 rfl (by decide) ?_
      refine g_iadd dX11_free_36 ?_
      refine g_iload dX11_free_37 rfl ?_
      refine g_iadd dX11_free_39 ?_
      obtain ⟨hin, h⟩ := h
      refine g_iald kd_301 hin dX11_free_40 ?_
      refine g_goto (tgt := 45) dX11_free_41 (by decide) ?_
      exact bX11_free_45 hK8 hR h
theorem eX11_free_8 {E : TE} {Q : Mem → Prop} (hR : RV E none Q) {l2 : Int} {l3 : Int} {l4 : Int} {σ : Mem} (h : wLX11_free_8 Q l2 l3 l4 σ) : GW E cX11_free 5 RX11 1 20 σ 8 [(0, vR 300), (2, vI l2), (3, vI l3), (4, vI l4)] [] := by
  obtain ⟨n, h⟩ := h
  exact lp_GW (P := fun (x : Int × Int × Int) (σ : Mem) => GW E cX11_free 5 RX11 1 20 σ 8 [(0, vR 300), (2, vI x.1), (3, vI x.2.1), (4, vI x.2.2)] []) (fun K hK x σ h  => bX11_free_8 hK hR h) n _ σ h 
set_option maxHeartbeats 1000000 in
theorem kX11_free {l1 : Int} {l2 : Int} {σ : Mem} {Q : Mem → Prop} (h : wX11_free l1 l2 σ Q) (l : Launch) (D : va_G) (cy : Nat → ClassId) (ad : Nat → Nat) : MV l yX11_free cX11_free 5 none 1 20 D cy ad [vR 300, vI l1, vI l2] σ Q := by
  refine m_V (own := RX11) (lv := [(0, vR 300), (1, vI l1), (2, vI l2)]) (by decide +kernel) rfl (Nat.le_of_ble_eq_true rfl) rfl (fun E hR => ?_) l D cy ad
  unfold wX11_free at h
  refine g_iload_n dX11_free_0 rfl ?_
  refine g_cSi (st := []) (av := [vI l1]) (kX11_holdAt h) cw_RX11_91 (by decide) (by decide) (Nat.le_of_ble_eq_true rfl) rfl dX11_free_1 (fun y2 m1 h => ?_)
  refine g_istore_n (lv' := [(3, vI y2), (0, vR 300), (1, vI l1), (2, vI l2)]) dX11_free_4 (by decide) rfl ?_
  refine g_iconst dX11_free_5 0 rfl (by decide) ?_
  refine g_istore (lv' := [(4, vI 0), (3, vI y2), (0, vR 300), (1, vI l1), (2, vI l2)]) dX11_free_6 (by decide) rfl ?_
  refine g_lv (lv' := [(0, vR 300), (2, vI l2), (3, vI y2), (4, vI 0)]) [2, 4, 1, 0] rfl ?_
  exact eX11_free_8 hR h
def wX11_frees (l1 : Int) (l2 : Int) (σ : Mem) (Q : Int → Mem → Prop) : Prop := (wX11_isHeld l1 σ (fun y2 m1 => ((¬ y2 = 0 → (wX11_change  m1 (fun m3 => (wX11_holdAt l1 m3 (fun y5 m4 => ((0 ≤ w32 (y5 + 2) ∧ w32 (y5 + 2) < 405) ∧ (∀ x6 : Int, x6 = m4 301 (w32 (y5 + 2)).toNat → (wX11_free l1 l2 m4 (fun m7 => Q x6 m7))))))))) ∧ (y2 = 0 → Q ((-1)) m1))))
set_option maxHeartbeats 1000000 in
theorem kX11_frees {l1 : Int} {l2 : Int} {σ : Mem} {Q : Int → Mem → Prop} (h : wX11_frees l1 l2 σ Q) (l : Launch) (D : va_G) (cy : Nat → ClassId) (ad : Nat → Nat) : MI l yX11_frees cX11_frees 4 (some .int) 2 44 D cy ad [vR 300, vI l1, vI l2] σ Q := by
  refine m_I (own := RX11) (lv := [(0, vR 300), (1, vI l1), (2, vI l2)]) (by decide +kernel) rfl (Nat.le_of_ble_eq_true rfl) rfl (fun E hR => ?_) l D cy ad
  unfold wX11_frees at h
  refine g_aload_n dX11_frees_0 rfl ?_
  refine g_iload_n dX11_frees_1 rfl ?_
  refine g_cVi (st := []) (av := [vI l1]) (kX11_isHeld h) kd_300 rfl cw_RX11_284 (by decide) (by decide) (Nat.le_of_ble_eq_true rfl) rfl dX11_frees_2 (fun y2 m1 h => ?_)
  obtain ⟨hA, hB⟩ := h
  refine g_if_ne (tgt := 10) dX11_frees_5 (by decide) (fun hc => ?_) (fun hc => ?_)
  · replace h := hA hc
    refine g_aload_n dX11_frees_10 rfl ?_
    refine g_cVv (st := []) (av := []) (kX11_change h) kd_300 rfl cw_RX11_138 (by decide) (by decide) (Nat.le_of_ble_eq_true rfl) rfl dX11_frees_11 (fun m3 h => ?_)
    refine g_aload_n dX11_frees_14 rfl ?_
    refine g_getR (r := 301) fl_11_9 kd_300 rfl dX11_frees_15 ?_
    refine g_iload_n dX11_frees_18 rfl ?_
    refine g_cSi (st := [vR 301]) (av := [vI l1]) (kX11_holdAt h) cw_RX11_91 (by decide) (by decide) (Nat.le_of_ble_eq_true rfl) rfl dX11_frees_19 (fun y5 m4 h => ?_)
    refine g_iconst dX11_frees_22 2 rfl (by decide) ?_
    refine g_iadd dX11_frees_23 ?_
    obtain ⟨hin, h⟩ := h
    refine g_iald kd_301 hin dX11_frees_24 ?_
    refine g_topI (fun x6 ex6 => ?_)
    replace h := h x6 ex6
    refine g_istore_n (lv' := [(3, vI x6), (0, vR 300), (1, vI l1), (2, vI l2)]) dX11_frees_25 (by decide) rfl ?_
    refine g_aload_n dX11_frees_26 rfl ?_
    refine g_iload_n dX11_frees_27 rfl ?_
    refine g_iload_n dX11_frees_28 rfl ?_
    refine g_cVv (st := []) (av := [vI l1, vI l2]) (kX11_free h) kd_300 rfl cw_RX11_287 (by decide) (by decide) (Nat.le_of_ble_eq_true rfl) rfl dX11_frees_29 (fun m7 h => ?_)
    refine g_iload_n dX11_frees_32 rfl ?_
    exact g_iret hR dX11_frees_33 h
  · replace h := hB hc
    refine g_iconst dX11_frees_8 (-1) rfl (by decide) ?_
    exact g_iret hR dX11_frees_9 h
def wX11_makes (l1 : Int) (σ : Mem) (Q : Int → Mem → Prop) : Prop := (∀ m1 : Mem, m1 = up2 σ 300 5 0 → (wX11_frees l1 1 m1 (fun y3 m2 => Q y3 m2)))
set_option maxHeartbeats 1000000 in
theorem kX11_makes {l1 : Int} {σ : Mem} {Q : Int → Mem → Prop} (h : wX11_makes l1 σ Q) (l : Launch) (D : va_G) (cy : Nat → ClassId) (ad : Nat → Nat) : MI l yX11_makes cX11_makes 2 (some .int) 3 67 D cy ad [vR 300, vI l1] σ Q := by
  refine m_I (own := RX11) (lv := [(0, vR 300), (1, vI l1)]) (by decide +kernel) rfl (Nat.le_of_ble_eq_true rfl) rfl (fun E hR => ?_) l D cy ad
  unfold wX11_makes at h
  refine g_aload_n dX11_makes_0 rfl ?_
  refine g_iconst dX11_makes_1 0 rfl (by decide) ?_
  refine g_putI fp_11_68 kd_300 rfl dX11_makes_2 ?_
  refine g_nm (fun m1 em1 => ?_)
  replace h := h m1 em1
  refine g_aload_n dX11_makes_5 rfl ?_
  refine g_iload_n dX11_makes_6 rfl ?_
  refine g_iconst dX11_makes_7 1 rfl (by decide) ?_
  refine g_cVi (st := []) (av := [vI l1, vI 1]) (kX11_frees h) kd_300 rfl cw_RX11_291 (by decide) (by decide) (Nat.le_of_ble_eq_true rfl) rfl dX11_makes_8 (fun y3 m2 h => ?_)
  exact g_iret hR dX11_makes_11 h
def wX11_letsGo (l1 : Int) (σ : Mem) (Q : Int → Mem → Prop) : Prop := (∀ m1 : Mem, m1 = up2 σ 300 5 0 → (wX11_frees l1 0 m1 (fun y3 m2 => Q y3 m2)))
set_option maxHeartbeats 1000000 in
theorem kX11_letsGo {l1 : Int} {σ : Mem} {Q : Int → Mem → Prop} (h : wX11_letsGo l1 σ Q) (l : Launch) (D : va_G) (cy : Nat → ClassId) (ad : Nat → Nat) : MI l yX11_letsGo cX11_letsGo 2 (some .int) 3 67 D cy ad [vR 300, vI l1] σ Q := by
  refine m_I (own := RX11) (lv := [(0, vR 300), (1, vI l1)]) (by decide +kernel) rfl (Nat.le_of_ble_eq_true rfl) rfl (fun E hR => ?_) l D cy ad
  unfold wX11_letsGo at h
  refine g_aload_n dX11_letsGo_0 rfl ?_
  refine g_iconst dX11_letsGo_1 0 rfl (by decide) ?_
  refine g_putI fp_11_68 kd_300 rfl dX11_letsGo_2 ?_
  refine g_nm (fun m1 em1 => ?_)
  replace h := h m1 em1
  refine g_aload_n dX11_letsGo_5 rfl ?_
  refine g_iload_n dX11_letsGo_6 rfl ?_
  refine g_iconst dX11_letsGo_7 0 rfl (by decide) ?_
  refine g_cVi (st := []) (av := [vI l1, vI 0]) (kX11_frees h) kd_300 rfl cw_RX11_291 (by decide) (by decide) (Nat.le_of_ble_eq_true rfl) rfl dX11_letsGo_8 (fun y3 m2 h => ?_)
  exact g_iret hR dX11_letsGo_11 h
def wX11_held_22 (Q : Int → Mem → Prop) (σ : Mem) : Prop := (wX11_lost  σ (fun y2 m1 => Q y2 m1))
def wX11_held_79 (K49 : (Int × Int × Int) → Mem → Prop) (Q : Int → Mem → Prop) (l1 : Int) (l4 : Int) (s0 : Int) (s1 : Int) (σ : Mem) : Prop := (∀ x1 : Int, x1 = w32 (s1 + s0) → (∀ x2 : Int, x2 = w32 (l4 + 1) → K49 (l1, x1, x2) σ))
def wX11_held_49 (K49 : (Int × Int × Int) → Mem → Prop) (Q : Int → Mem → Prop) (l1 : Int) (l3 : Int) (l4 : Int) (σ : Mem) : Prop := ((64 ≤ l4 → Q l3 σ) ∧ (¬ 64 ≤ l4 → (wX11_holdAt l1 σ (fun y2 m1 => ((0 ≤ w32 ((w32 (y2 + 3)) + l4) ∧ w32 ((w32 (y2 + 3)) + l4) < 405) ∧ ((m1 301 (w32 ((w32 (y2 + 3)) + l4)).toNat ≤ 0 → wX11_held_79 K49 Q l1 l4 0 l3 m1) ∧ (¬ m1 301 (w32 ((w32 (y2 + 3)) + l4)).toNat ≤ 0 → wX11_held_79 K49 Q l1 l4 1 l3 m1)))))))
def wLX11_held_49 (Q : Int → Mem → Prop) (l1 : Int) (l3 : Int) (l4 : Int) (σ : Mem) : Prop := ∃ n, lp (fun (K49 : (Int × Int × Int) → Mem → Prop) (x : Int × Int × Int) (σ : Mem) => wX11_held_49 K49 Q x.1 x.2.1 x.2.2 σ) n (l1, l3, l4) σ
def wX11_held (l1 : Int) (l2 : Int) (σ : Mem) (Q : Int → Mem → Prop) : Prop := (∀ m1 : Mem, m1 = up2 σ 300 5 0 → (wX11_isHeld l1 m1 (fun y3 m2 => ((y3 = 0 → wX11_held_22 Q m2) ∧ (¬ y3 = 0 → (wX11_in l2 0 3 m2 (fun y5 m4 => ((¬ y5 = 0 → ((3 ≤ l2 → wLX11_held_49 Q l1 0 0 m4) ∧ (¬ 3 ≤ l2 → (wX11_holdAt l1 m4 (fun y7 m6 => ((0 ≤ w32 (y7 + l2) ∧ w32 (y7 + l2) < 405) ∧ Q (m6 301 (w32 (y7 + l2)).toNat) m6)))))) ∧ (y5 = 0 → wX11_held_22 Q m4)))))))))
set_option maxHeartbeats 1000000 in
theorem bX11_held_22 {E : TE} {Q : Int → Mem → Prop} (hR : RI E (some .int) Q) {σ : Mem} (h : wX11_held_22 Q σ) : GW E cX11_held 5 RX11 2 43 σ 22 [(0, vR 300)] [] := by
  unfold wX11_held_22 at h
  refine g_aload_n dX11_held_22 rfl ?_
  refine g_cVi (st := []) (av := []) (kX11_lost h) kd_300 rfl cw_RX11_166 (by decide) (by decide) (Nat.le_of_ble_eq_true rfl) rfl dX11_held_23 (fun y2 m1 h => ?_)
  exact g_iret hR dX11_held_26 h
set_option maxHeartbeats 1000000 in
theorem bX11_held_79 {E : TE} {K49 : (Int × Int × Int) → Mem → Prop} (hK49 : ∀ (x : Int × Int × Int) (σ : Mem), K49 x σ → GW E cX11_held 5 RX11 2 43 σ 49 [(0, vR 300), (1, vI x.1), (3, vI x.2.1), (4, vI x.2.2)] []) {Q : Int → Mem → Prop} (hR : RI E (some .int) Q) {l1 : Int} {l4 : Int} {s0 : Int} {s1 : Int} {σ : Mem} (h : wX11_held_79 K49 Q l1 l4 s0 s1 σ) : GW E cX11_held 5 RX11 2 43 σ 79 [(0, vR 300), (1, vI l1), (4, vI l4)] [vI s0, vI s1] := by
  unfold wX11_held_79 at h
  refine g_iadd dX11_held_79 ?_
  refine g_topI (fun x1 ex1 => ?_)
  replace h := h x1 ex1
  refine g_istore_n (lv' := [(3, vI x1), (0, vR 300), (1, vI l1), (4, vI l4)]) dX11_held_80 (by decide) rfl ?_
  refine g_iinc (lv' := [(4, vI (w32 (l4 + 1))), (3, vI x1), (0, vR 300), (1, vI l1)]) dX11_held_81 rfl (by decide) rfl ?_
  refine g_loc (a := w32 (l4 + 1)) (i := 4) (lv := [(3, vI x1), (0, vR 300), (1, vI l1)]) (fun x2 ex2 => ?_)
  replace h := h x2 ex2
  refine g_goto (tgt := 49) dX11_held_84 (by decide) ?_
  refine g_lv (lv' := [(0, vR 300), (1, vI l1), (3, vI x1), (4, vI x2)]) [2, 3, 1, 0] rfl ?_
  exact hK49 ((l1, x1, x2)) σ h
set_option maxHeartbeats 1000000 in
theorem bX11_held_49 {E : TE} {K49 : (Int × Int × Int) → Mem → Prop} (hK49 : ∀ (x : Int × Int × Int) (σ : Mem), K49 x σ → GW E cX11_held 5 RX11 2 43 σ 49 [(0, vR 300), (1, vI x.1), (3, vI x.2.1), (4, vI x.2.2)] []) {Q : Int → Mem → Prop} (hR : RI E (some .int) Q) {l1 : Int} {l3 : Int} {l4 : Int} {σ : Mem} (h : wX11_held_49 K49 Q l1 l3 l4 σ) : GW E cX11_held 5 RX11 2 43 σ 49 [(0, vR 300), (1, vI l1), (3, vI l3), (4, vI l4)] [] := by
  unfold wX11_held_49 at h
  refine g_iload dX11_held_49 rfl ?_
  refine g_bipush dX11_held_51 64 rfl (by decide) ?_
  obtain ⟨hA, hB⟩ := h
  refine g_icmp_ge (tgt := 87) dX11_held_53 (by decide) (fun hc => ?_) (fun hc => ?_)
  · replace h := hA hc
    refine g_iload_n dX11_held_87 rfl ?_
    exact g_iret hR dX11_held_88 h
  · replace h := hB hc
    refine g_iload_n dX11_held_56 rfl ?_
    refine g_aload_n dX11_held_57 rfl ?_
    refine g_getR (r := 301) fl_11_9 kd_300 rfl dX11_held_58 ?_
    refine g_iload_n dX11_held_61 rfl ?_
    refine g_cSi (st := [vR 301, vI l3]) (av := [vI l1]) (kX11_holdAt h) cw_RX11_91 (by decide) (by decide) (Nat.le_of_ble_eq_true rfl) rfl dX11_held_62 (fun y2 m1 h => ?_)
    refine g_iconst dX11_held_65 3 rfl (by decide) ?_
    refine g_iadd dX11_held_66 ?_
    refine g_iload dX11_held_67 rfl ?_
    refine g_iadd dX11_held_69 ?_
    obtain ⟨hin, h⟩ := h
    refine g_iald kd_301 hin dX11_held_70 ?_
    obtain ⟨hA, hB⟩ := h
    refine g_if_le (tgt := 78) dX11_held_71 (by decide) (fun hc => ?_) (fun hc => ?_)
    · replace h := hA hc
      refine g_iconst dX11_held_78 0 rfl (by decide) ?_
      refine g_lv (lv' := [(0, vR 300), (1, vI l1), (4, vI l4)]) [0, 1, 3] rfl ?_
      exact bX11_held_79 hK49 hR h
    · replace h := hB hc
      refine g_iconst dX11_held_74 1 rfl (by decide) ?_
      refine g_goto (tgt := 79) dX11_held_75 (by decide) ?_
      refine g_lv (lv' := [(0, vR 300), (1, vI l1), (4, vI l4)]) [0, 1, 3] rfl ?_
      exact bX11_held_79 hK49 hR h
theorem eX11_held_49 {E : TE} {Q : Int → Mem → Prop} (hR : RI E (some .int) Q) {l1 : Int} {l3 : Int} {l4 : Int} {σ : Mem} (h : wLX11_held_49 Q l1 l3 l4 σ) : GW E cX11_held 5 RX11 2 43 σ 49 [(0, vR 300), (1, vI l1), (3, vI l3), (4, vI l4)] [] := by
  obtain ⟨n, h⟩ := h
  exact lp_GW (P := fun (x : Int × Int × Int) (σ : Mem) => GW E cX11_held 5 RX11 2 43 σ 49 [(0, vR 300), (1, vI x.1), (3, vI x.2.1), (4, vI x.2.2)] []) (fun K hK x σ h  => bX11_held_49 hK hR h) n _ σ h 
set_option maxHeartbeats 1000000 in
theorem kX11_held {l1 : Int} {l2 : Int} {σ : Mem} {Q : Int → Mem → Prop} (h : wX11_held l1 l2 σ Q) (l : Launch) (D : va_G) (cy : Nat → ClassId) (ad : Nat → Nat) : MI l yX11_held cX11_held 5 (some .int) 2 43 D cy ad [vR 300, vI l1, vI l2] σ Q := by
  refine m_I (own := RX11) (lv := [(0, vR 300), (1, vI l1), (2, vI l2)]) (by decide +kernel) rfl (Nat.le_of_ble_eq_true rfl) rfl (fun E hR => ?_) l D cy ad
  unfold wX11_held at h
  refine g_aload_n dX11_held_0 rfl ?_
  refine g_iconst dX11_held_1 0 rfl (by decide) ?_
  refine g_putI fp_11_68 kd_300 rfl dX11_held_2 ?_
  refine g_nm (fun m1 em1 => ?_)
  replace h := h m1 em1
  refine g_aload_n dX11_held_5 rfl ?_
  refine g_iload_n dX11_held_6 rfl ?_
  refine g_cVi (st := []) (av := [vI l1]) (kX11_isHeld h) kd_300 rfl cw_RX11_284 (by decide) (by decide) (Nat.le_of_ble_eq_true rfl) rfl dX11_held_7 (fun y3 m2 h => ?_)
  obtain ⟨hA, hB⟩ := h
  refine g_if_eq (tgt := 22) dX11_held_10 (by decide) (fun hc => ?_) (fun hc => ?_)
  · replace h := hA hc
    refine g_lv (lv' := [(0, vR 300)]) [0] rfl ?_
    exact bX11_held_22 hR h
  · replace h := hB hc
    refine g_iload_n dX11_held_13 rfl ?_
    refine g_iconst dX11_held_14 0 rfl (by decide) ?_
    refine g_iconst dX11_held_15 3 rfl (by decide) ?_
    refine g_cSi (st := []) (av := [vI l2, vI 0, vI 3]) (kX11_in h) cw_RX11_74 (by decide) (by decide) (Nat.le_of_ble_eq_true rfl) rfl dX11_held_16 (fun y5 m4 h => ?_)
    obtain ⟨hA, hB⟩ := h
    refine g_if_ne (tgt := 27) dX11_held_19 (by decide) (fun hc => ?_) (fun hc => ?_)
    · replace h := hA hc
      refine g_iload_n dX11_held_27 rfl ?_
      refine g_iconst dX11_held_28 3 rfl (by decide) ?_
      obtain ⟨hA, hB⟩ := h
      refine g_icmp_ge (tgt := 44) dX11_held_29 (by decide) (fun hc => ?_) (fun hc => ?_)
      · replace h := hA hc
        refine g_iconst dX11_held_44 0 rfl (by decide) ?_
        refine g_istore_n (lv' := [(3, vI 0), (0, vR 300), (1, vI l1), (2, vI l2)]) dX11_held_45 (by decide) rfl ?_
        refine g_iconst dX11_held_46 0 rfl (by decide) ?_
        refine g_istore (lv' := [(4, vI 0), (3, vI 0), (0, vR 300), (1, vI l1), (2, vI l2)]) dX11_held_47 (by decide) rfl ?_
        refine g_lv (lv' := [(0, vR 300), (1, vI l1), (3, vI 0), (4, vI 0)]) [2, 3, 1, 0] rfl ?_
        exact eX11_held_49 hR h
      · replace h := hB hc
        refine g_aload_n dX11_held_32 rfl ?_
        refine g_getR (r := 301) fl_11_9 kd_300 rfl dX11_held_33 ?_
        refine g_iload_n dX11_held_36 rfl ?_
        refine g_cSi (st := [vR 301]) (av := [vI l1]) (kX11_holdAt h) cw_RX11_91 (by decide) (by decide) (Nat.le_of_ble_eq_true rfl) rfl dX11_held_37 (fun y7 m6 h => ?_)
        refine g_iload_n dX11_held_40 rfl ?_
        refine g_iadd dX11_held_41 ?_
        obtain ⟨hin, h⟩ := h
        refine g_iald kd_301 hin dX11_held_42 ?_
        exact g_iret hR dX11_held_43 h
    · replace h := hB hc
      refine g_lv (lv' := [(0, vR 300)]) [0] rfl ?_
      exact bX11_held_22 hR h
def wX11_mostThen_60 (K33 : (Int × Int × Int × Int) → Mem → Prop) (Q : Int → Mem → Prop) (l1 : Int) (l2 : Int) (l3 : Int) (l4 : Int) (s0 : Int) (s1 : Int) (σ : Mem) : Prop := (wX11_free s1 s0 σ (fun m1 => (∀ x2 : Int, x2 = w32 (l4 + 1) → K33 (l1, l2, l3, x2) m1)))
def wX11_mostThen_33 (K33 : (Int × Int × Int × Int) → Mem → Prop) (Q : Int → Mem → Prop) (l1 : Int) (l2 : Int) (l3 : Int) (l4 : Int) (σ : Mem) : Prop := ((4 ≤ l4 → (wX11_mostOf l1 l2 σ (fun y2 m1 => (wX11_comesBack 2 m1 (fun m3 => Q y2 m3))))) ∧ (¬ 4 ≤ l4 → (wX11_isHeld l4 σ (fun y5 m4 => ((y5 = 0 → (∀ x6 : Int, x6 = w32 (l4 + 1) → K33 (l1, l2, l3, x6) m4)) ∧ (¬ y5 = 0 → ((¬ l3 = 0 → wX11_mostThen_60 K33 Q l1 l2 l3 l4 0 l4 m4) ∧ (l3 = 0 → wX11_mostThen_60 K33 Q l1 l2 l3 l4 1 l4 m4))))))))
def wLX11_mostThen_33 (Q : Int → Mem → Prop) (l1 : Int) (l2 : Int) (l3 : Int) (l4 : Int) (σ : Mem) : Prop := ∃ n, lp (fun (K33 : (Int × Int × Int × Int) → Mem → Prop) (x : Int × Int × Int × Int) (σ : Mem) => wX11_mostThen_33 K33 Q x.1 x.2.1 x.2.2.1 x.2.2.2 σ) n (l1, l2, l3, l4) σ
def wX11_mostThen (l1 : Int) (l2 : Int) (l3 : Int) (σ : Mem) (Q : Int → Mem → Prop) : Prop := (∀ m1 : Mem, m1 = up2 σ 300 5 0 → (wX11_areTwo l1 l2 m1 (fun y3 m2 => ((y3 = 0 → Q ((-1)) m2) ∧ (¬ y3 = 0 → (wX11_in l3 0 1 m2 (fun y5 m4 => ((¬ y5 = 0 → (wX11_layAside 2 m4 (fun m6 => wLX11_mostThen_33 Q l1 l2 l3 0 m6))) ∧ (y5 = 0 → Q ((-1)) m4)))))))))
set_option maxHeartbeats 1000000 in
theorem bX11_mostThen_60 {E : TE} {K33 : (Int × Int × Int × Int) → Mem → Prop} (hK33 : ∀ (x : Int × Int × Int × Int) (σ : Mem), K33 x σ → GW E cX11_mostThen 5 RX11 8 192 σ 33 [(0, vR 300), (1, vI x.1), (2, vI x.2.1), (3, vI x.2.2.1), (4, vI x.2.2.2)] []) {Q : Int → Mem → Prop} (hR : RI E (some .int) Q) {l1 : Int} {l2 : Int} {l3 : Int} {l4 : Int} {s0 : Int} {s1 : Int} {σ : Mem} (h : wX11_mostThen_60 K33 Q l1 l2 l3 l4 s0 s1 σ) : GW E cX11_mostThen 5 RX11 8 192 σ 60 [(0, vR 300), (1, vI l1), (2, vI l2), (3, vI l3), (4, vI l4)] [vI s0, vI s1, vR 300] := by
  unfold wX11_mostThen_60 at h
  refine g_cVv (st := []) (av := [vI s1, vI s0]) (kX11_free h) kd_300 rfl cw_RX11_287 (by decide) (by decide) (Nat.le_of_ble_eq_true rfl) rfl dX11_mostThen_60 (fun m1 h => ?_)
  refine g_iinc (lv' := [(4, vI (w32 (l4 + 1))), (0, vR 300), (1, vI l1), (2, vI l2), (3, vI l3)]) dX11_mostThen_63 rfl (by decide) rfl ?_
  refine g_loc (a := w32 (l4 + 1)) (i := 4) (lv := [(0, vR 300), (1, vI l1), (2, vI l2), (3, vI l3)]) (fun x2 ex2 => ?_)
  replace h := h x2 ex2
  refine g_goto (tgt := 33) dX11_mostThen_66 (by decide) ?_
  refine g_lv (lv' := [(0, vR 300), (1, vI l1), (2, vI l2), (3, vI l3), (4, vI x2)]) [1, 2, 3, 4, 0] rfl ?_
  exact hK33 ((l1, l2, l3, x2)) m1 h
set_option maxHeartbeats 1000000 in
theorem bX11_mostThen_33 {E : TE} {K33 : (Int × Int × Int × Int) → Mem → Prop} (hK33 : ∀ (x : Int × Int × Int × Int) (σ : Mem), K33 x σ → GW E cX11_mostThen 5 RX11 8 192 σ 33 [(0, vR 300), (1, vI x.1), (2, vI x.2.1), (3, vI x.2.2.1), (4, vI x.2.2.2)] []) {Q : Int → Mem → Prop} (hR : RI E (some .int) Q) {l1 : Int} {l2 : Int} {l3 : Int} {l4 : Int} {σ : Mem} (h : wX11_mostThen_33 K33 Q l1 l2 l3 l4 σ) : GW E cX11_mostThen 5 RX11 8 192 σ 33 [(0, vR 300), (1, vI l1), (2, vI l2), (3, vI l3), (4, vI l4)] [] := by
  unfold wX11_mostThen_33 at h
  refine g_iload dX11_mostThen_33 rfl ?_
  refine g_iconst dX11_mostThen_35 4 rfl (by decide) ?_
  obtain ⟨hA, hB⟩ := h
  refine g_icmp_ge (tgt := 69) dX11_mostThen_36 (by decide) (fun hc => ?_) (fun hc => ?_)
  · replace h := hA hc
    refine g_aload_n dX11_mostThen_69 rfl ?_
    refine g_iload_n dX11_mostThen_70 rfl ?_
    refine g_iload_n dX11_mostThen_71 rfl ?_
    refine g_cVi (st := []) (av := [vI l1, vI l2]) (kX11_mostOf h) kd_300 rfl cw_RX11_235 (by decide) (by decide) (Nat.le_of_ble_eq_true rfl) rfl dX11_mostThen_72 (fun y2 m1 h => ?_)
    refine g_istore (lv' := [(4, vI y2), (0, vR 300), (1, vI l1), (2, vI l2), (3, vI l3)]) dX11_mostThen_75 (by decide) rfl ?_
    refine g_aload_n dX11_mostThen_77 rfl ?_
    refine g_iconst dX11_mostThen_78 2 rfl (by decide) ?_
    refine g_cVv (st := []) (av := [vI 2]) (kX11_comesBack h) kd_300 rfl cw_RX11_232 (by decide) (by decide) (Nat.le_of_ble_eq_true rfl) rfl dX11_mostThen_79 (fun m3 h => ?_)
    refine g_iload dX11_mostThen_82 rfl ?_
    exact g_iret hR dX11_mostThen_84 h
  · replace h := hB hc
    refine g_aload_n dX11_mostThen_39 rfl ?_
    refine g_iload dX11_mostThen_40 rfl ?_
    refine g_cVi (st := []) (av := [vI l4]) (kX11_isHeld h) kd_300 rfl cw_RX11_284 (by decide) (by decide) (Nat.le_of_ble_eq_true rfl) rfl dX11_mostThen_42 (fun y5 m4 h => ?_)
    obtain ⟨hA, hB⟩ := h
    refine g_if_eq (tgt := 63) dX11_mostThen_45 (by decide) (fun hc => ?_) (fun hc => ?_)
    · replace h := hA hc
      refine g_iinc (lv' := [(4, vI (w32 (l4 + 1))), (0, vR 300), (1, vI l1), (2, vI l2), (3, vI l3)]) dX11_mostThen_63 rfl (by decide) rfl ?_
      refine g_loc (a := w32 (l4 + 1)) (i := 4) (lv := [(0, vR 300), (1, vI l1), (2, vI l2), (3, vI l3)]) (fun x6 ex6 => ?_)
      replace h := h x6 ex6
      refine g_goto (tgt := 33) dX11_mostThen_66 (by decide) ?_
      refine g_lv (lv' := [(0, vR 300), (1, vI l1), (2, vI l2), (3, vI l3), (4, vI x6)]) [1, 2, 3, 4, 0] rfl ?_
      exact hK33 ((l1, l2, l3, x6)) m4 h
    · replace h := hB hc
      refine g_aload_n dX11_mostThen_48 rfl ?_
      refine g_iload dX11_mostThen_49 rfl ?_
      refine g_iload_n dX11_mostThen_51 rfl ?_
      obtain ⟨hA, hB⟩ := h
      refine g_if_ne (tgt := 59) dX11_mostThen_52 (by decide) (fun hc => ?_) (fun hc => ?_)
      · replace h := hA hc
        refine g_iconst dX11_mostThen_59 0 rfl (by decide) ?_
        exact bX11_mostThen_60 hK33 hR h
      · replace h := hB hc
        refine g_iconst dX11_mostThen_55 1 rfl (by decide) ?_
        refine g_goto (tgt := 60) dX11_mostThen_56 (by decide) ?_
        exact bX11_mostThen_60 hK33 hR h
theorem eX11_mostThen_33 {E : TE} {Q : Int → Mem → Prop} (hR : RI E (some .int) Q) {l1 : Int} {l2 : Int} {l3 : Int} {l4 : Int} {σ : Mem} (h : wLX11_mostThen_33 Q l1 l2 l3 l4 σ) : GW E cX11_mostThen 5 RX11 8 192 σ 33 [(0, vR 300), (1, vI l1), (2, vI l2), (3, vI l3), (4, vI l4)] [] := by
  obtain ⟨n, h⟩ := h
  exact lp_GW (P := fun (x : Int × Int × Int × Int) (σ : Mem) => GW E cX11_mostThen 5 RX11 8 192 σ 33 [(0, vR 300), (1, vI x.1), (2, vI x.2.1), (3, vI x.2.2.1), (4, vI x.2.2.2)] []) (fun K hK x σ h  => bX11_mostThen_33 hK hR h) n _ σ h 
set_option maxHeartbeats 1000000 in
theorem kX11_mostThen {l1 : Int} {l2 : Int} {l3 : Int} {σ : Mem} {Q : Int → Mem → Prop} (h : wX11_mostThen l1 l2 l3 σ Q) (l : Launch) (D : va_G) (cy : Nat → ClassId) (ad : Nat → Nat) : MI l yX11_mostThen cX11_mostThen 5 (some .int) 8 192 D cy ad [vR 300, vI l1, vI l2, vI l3] σ Q := by
  refine m_I (own := RX11) (lv := [(0, vR 300), (1, vI l1), (2, vI l2), (3, vI l3)]) (by decide +kernel) rfl (Nat.le_of_ble_eq_true rfl) rfl (fun E hR => ?_) l D cy ad
  unfold wX11_mostThen at h
  refine g_aload_n dX11_mostThen_0 rfl ?_
  refine g_iconst dX11_mostThen_1 0 rfl (by decide) ?_
  refine g_putI fp_11_68 kd_300 rfl dX11_mostThen_2 ?_
  refine g_nm (fun m1 em1 => ?_)
  replace h := h m1 em1
  refine g_aload_n dX11_mostThen_5 rfl ?_
  refine g_iload_n dX11_mostThen_6 rfl ?_
  refine g_iload_n dX11_mostThen_7 rfl ?_
  refine g_cVi (st := []) (av := [vI l1, vI l2]) (kX11_areTwo h) kd_300 rfl cw_RX11_159 (by decide) (by decide) (Nat.le_of_ble_eq_true rfl) rfl dX11_mostThen_8 (fun y3 m2 h => ?_)
  obtain ⟨hA, hB⟩ := h
  refine g_if_eq (tgt := 23) dX11_mostThen_11 (by decide) (fun hc => ?_) (fun hc => ?_)
  · replace h := hA hc
    refine g_iconst dX11_mostThen_23 (-1) rfl (by decide) ?_
    exact g_iret hR dX11_mostThen_24 h
  · replace h := hB hc
    refine g_iload_n dX11_mostThen_14 rfl ?_
    refine g_iconst dX11_mostThen_15 0 rfl (by decide) ?_
    refine g_iconst dX11_mostThen_16 1 rfl (by decide) ?_
    refine g_cSi (st := []) (av := [vI l3, vI 0, vI 1]) (kX11_in h) cw_RX11_74 (by decide) (by decide) (Nat.le_of_ble_eq_true rfl) rfl dX11_mostThen_17 (fun y5 m4 h => ?_)
    obtain ⟨hA, hB⟩ := h
    refine g_if_ne (tgt := 25) dX11_mostThen_20 (by decide) (fun hc => ?_) (fun hc => ?_)
    · replace h := hA hc
      refine g_aload_n dX11_mostThen_25 rfl ?_
      refine g_iconst dX11_mostThen_26 2 rfl (by decide) ?_
      refine g_cVv (st := []) (av := [vI 2]) (kX11_layAside h) kd_300 rfl cw_RX11_219 (by decide) (by decide) (Nat.le_of_ble_eq_true rfl) rfl dX11_mostThen_27 (fun m6 h => ?_)
      refine g_iconst dX11_mostThen_30 0 rfl (by decide) ?_
      refine g_istore (lv' := [(4, vI 0), (0, vR 300), (1, vI l1), (2, vI l2), (3, vI l3)]) dX11_mostThen_31 (by decide) rfl ?_
      refine g_lv (lv' := [(0, vR 300), (1, vI l1), (2, vI l2), (3, vI l3), (4, vI 0)]) [1, 2, 3, 4, 0] rfl ?_
      exact eX11_mostThen_33 hR h
    · replace h := hB hc
      refine g_iconst dX11_mostThen_23 (-1) rfl (by decide) ?_
      exact g_iret hR dX11_mostThen_24 h
def wX11_refusesStock (l1 : Int) (l2 : Int) (σ : Mem) (Q : Int → Mem → Prop) : Prop := (wX11_isMember l1 σ (fun y2 m1 => ((y2 = 0 → Q ((-1)) m1) ∧ (¬ y2 = 0 → (wX11_in l2 0 999 m1 (fun y4 m3 => ((¬ y4 = 0 → ((0 ≤ w32 (129 + l1) ∧ w32 (129 + l1) < 405) ∧ ((¬ m3 301 (w32 (129 + l1)).toNat = l2 → Q 0 m3) ∧ (m3 301 (w32 (129 + l1)).toNat = l2 → Q ((-2)) m3)))) ∧ (y4 = 0 → Q ((-1)) m3))))))))
set_option maxHeartbeats 1000000 in
theorem kX11_refusesStock {l1 : Int} {l2 : Int} {σ : Mem} {Q : Int → Mem → Prop} (h : wX11_refusesStock l1 l2 σ Q) (l : Launch) (D : va_G) (cy : Nat → ClassId) (ad : Nat → Nat) : MI l yX11_refusesStock cX11_refusesStock 3 (some .int) 2 43 D cy ad [vR 300, vI l1, vI l2] σ Q := by
  refine m_I (own := RX11) (lv := [(0, vR 300), (1, vI l1), (2, vI l2)]) (by decide +kernel) rfl (Nat.le_of_ble_eq_true rfl) rfl (fun E hR => ?_) l D cy ad
  unfold wX11_refusesStock at h
  refine g_aload_n dX11_refusesStock_0 rfl ?_
  refine g_iload_n dX11_refusesStock_1 rfl ?_
  refine g_cVi (st := []) (av := [vI l1]) (kX11_isMember h) kd_300 rfl cw_RX11_78 (by decide) (by decide) (Nat.le_of_ble_eq_true rfl) rfl dX11_refusesStock_2 (fun y2 m1 h => ?_)
  obtain ⟨hA, hB⟩ := h
  refine g_if_eq (tgt := 19) dX11_refusesStock_5 (by decide) (fun hc => ?_) (fun hc => ?_)
  · replace h := hA hc
    refine g_iconst dX11_refusesStock_19 (-1) rfl (by decide) ?_
    refine g_goto (tgt := 43) dX11_refusesStock_20 (by decide) ?_
    exact g_iret hR dX11_refusesStock_43 h
  · replace h := hB hc
    refine g_iload_n dX11_refusesStock_8 rfl ?_
    refine g_iconst dX11_refusesStock_9 0 rfl (by decide) ?_
    refine g_sipush dX11_refusesStock_10 999 rfl (by decide) ?_
    refine g_cSi (st := []) (av := [vI l2, vI 0, vI 999]) (kX11_in h) cw_RX11_74 (by decide) (by decide) (Nat.le_of_ble_eq_true rfl) rfl dX11_refusesStock_13 (fun y4 m3 h => ?_)
    obtain ⟨hA, hB⟩ := h
    refine g_if_ne (tgt := 23) dX11_refusesStock_16 (by decide) (fun hc => ?_) (fun hc => ?_)
    · replace h := hA hc
      refine g_aload_n dX11_refusesStock_23 rfl ?_
      refine g_getR (r := 301) fl_11_9 kd_300 rfl dX11_refusesStock_24 ?_
      refine g_sipush dX11_refusesStock_27 129 rfl (by decide) ?_
      refine g_iload_n dX11_refusesStock_30 rfl ?_
      refine g_iadd dX11_refusesStock_31 ?_
      obtain ⟨hin, h⟩ := h
      refine g_iald kd_301 hin dX11_refusesStock_32 ?_
      refine g_iload_n dX11_refusesStock_33 rfl ?_
      obtain ⟨hA, hB⟩ := h
      refine g_icmp_ne (tgt := 42) dX11_refusesStock_34 (by decide) (fun hc => ?_) (fun hc => ?_)
      · replace h := hA hc
        refine g_iconst dX11_refusesStock_42 0 rfl (by decide) ?_
        exact g_iret hR dX11_refusesStock_43 h
      · replace h := hB hc
        refine g_bipush dX11_refusesStock_37 (-2) rfl (by decide) ?_
        refine g_goto (tgt := 43) dX11_refusesStock_39 (by decide) ?_
        exact g_iret hR dX11_refusesStock_43 h
    · replace h := hB hc
      refine g_iconst dX11_refusesStock_19 (-1) rfl (by decide) ?_
      refine g_goto (tgt := 43) dX11_refusesStock_20 (by decide) ?_
      exact g_iret hR dX11_refusesStock_43 h
def wX11_stocks (l1 : Int) (l2 : Int) (σ : Mem) (Q : Int → Mem → Prop) : Prop := (∀ m1 : Mem, m1 = up2 σ 300 5 0 → (wX11_refusesStock l1 l2 m1 (fun y3 m2 => ((0 ≤ y3 → (wX11_change  m2 (fun m4 => ((0 ≤ w32 (129 + l1) ∧ w32 (129 + l1) < 405) ∧ (∀ x5 : Int, x5 = m4 301 (w32 (129 + l1)).toNat → ((0 ≤ w32 (129 + l1) ∧ w32 (129 + l1) < 405) ∧ (∀ m6 : Mem, m6 = up2 m4 301 (w32 (129 + l1)).toNat l2 → Q x5 m6))))))) ∧ (¬ 0 ≤ y3 → Q y3 m2)))))
set_option maxHeartbeats 1000000 in
theorem kX11_stocks {l1 : Int} {l2 : Int} {σ : Mem} {Q : Int → Mem → Prop} (h : wX11_stocks l1 l2 σ Q) (l : Launch) (D : va_G) (cy : Nat → ClassId) (ad : Nat → Nat) : MI l yX11_stocks cX11_stocks 5 (some .int) 3 65 D cy ad [vR 300, vI l1, vI l2] σ Q := by
  refine m_I (own := RX11) (lv := [(0, vR 300), (1, vI l1), (2, vI l2)]) (by decide +kernel) rfl (Nat.le_of_ble_eq_true rfl) rfl (fun E hR => ?_) l D cy ad
  unfold wX11_stocks at h
  refine g_aload_n dX11_stocks_0 rfl ?_
  refine g_iconst dX11_stocks_1 0 rfl (by decide) ?_
  refine g_putI fp_11_68 kd_300 rfl dX11_stocks_2 ?_
  refine g_nm (fun m1 em1 => ?_)
  replace h := h m1 em1
  refine g_aload_n dX11_stocks_5 rfl ?_
  refine g_iload_n dX11_stocks_6 rfl ?_
  refine g_iload_n dX11_stocks_7 rfl ?_
  refine g_cVi (st := []) (av := [vI l1, vI l2]) (kX11_refusesStock h) kd_300 rfl cw_RX11_295 (by decide) (by decide) (Nat.le_of_ble_eq_true rfl) rfl dX11_stocks_8 (fun y3 m2 h => ?_)
  refine g_istore_n (lv' := [(3, vI y3), (0, vR 300), (1, vI l1), (2, vI l2)]) dX11_stocks_11 (by decide) rfl ?_
  refine g_iload_n dX11_stocks_12 rfl ?_
  obtain ⟨hA, hB⟩ := h
  refine g_if_ge (tgt := 18) dX11_stocks_13 (by decide) (fun hc => ?_) (fun hc => ?_)
  · replace h := hA hc
    refine g_aload_n dX11_stocks_18 rfl ?_
    refine g_cVv (st := []) (av := []) (kX11_change h) kd_300 rfl cw_RX11_138 (by decide) (by decide) (Nat.le_of_ble_eq_true rfl) rfl dX11_stocks_19 (fun m4 h => ?_)
    refine g_aload_n dX11_stocks_22 rfl ?_
    refine g_getR (r := 301) fl_11_9 kd_300 rfl dX11_stocks_23 ?_
    refine g_sipush dX11_stocks_26 129 rfl (by decide) ?_
    refine g_iload_n dX11_stocks_29 rfl ?_
    refine g_iadd dX11_stocks_30 ?_
    obtain ⟨hin, h⟩ := h
    refine g_iald kd_301 hin dX11_stocks_31 ?_
    refine g_topI (fun x5 ex5 => ?_)
    replace h := h x5 ex5
    refine g_istore (lv' := [(4, vI x5), (3, vI y3), (0, vR 300), (1, vI l1), (2, vI l2)]) dX11_stocks_32 (by decide) rfl ?_
    refine g_aload_n dX11_stocks_34 rfl ?_
    refine g_getR (r := 301) fl_11_9 kd_300 rfl dX11_stocks_35 ?_
    refine g_sipush dX11_stocks_38 129 rfl (by decide) ?_
    refine g_iload_n dX11_stocks_41 rfl ?_
    refine g_iadd dX11_stocks_42 ?_
    refine g_iload_n dX11_stocks_43 rfl ?_
    obtain ⟨hin, h⟩ := h
    refine g_iast kd_301 hin dX11_stocks_44 ?_
    refine g_nm (fun m6 em6 => ?_)
    replace h := h m6 em6
    refine g_iload dX11_stocks_45 rfl ?_
    exact g_iret hR dX11_stocks_47 h
  · replace h := hB hc
    refine g_iload_n dX11_stocks_16 rfl ?_
    exact g_iret hR dX11_stocks_17 h
def wX11_lossOf_38 (K5 : (Int × Int × Int × Int) → Mem → Prop) (Q : Int → Mem → Prop) (l1 : Int) (l2 : Int) (l4 : Int) (s0 : Int) (s1 : Int) (σ : Mem) : Prop := (∀ x1 : Int, x1 = w32 (s1 + s0) → (∀ x2 : Int, x2 = w32 (l4 + 1) → K5 (l1, l2, x1, x2) σ))
def wX11_lossOf_5 (K5 : (Int × Int × Int × Int) → Mem → Prop) (Q : Int → Mem → Prop) (l1 : Int) (l2 : Int) (l3 : Int) (l4 : Int) (σ : Mem) : Prop := ((σ 301 0 ≤ l4 → Q l3 σ) ∧ (¬ σ 301 0 ≤ l4 → ((¬ band (bshr l2 l4) 1 = 1 → wX11_lossOf_38 K5 Q l1 l2 l4 0 l3 σ) ∧ (band (bshr l2 l4) 1 = 1 → (wX11_owes l4 l1 σ (fun y2 m1 => wX11_lossOf_38 K5 Q l1 l2 l4 y2 l3 m1))))))
def wLX11_lossOf_5 (Q : Int → Mem → Prop) (l1 : Int) (l2 : Int) (l3 : Int) (l4 : Int) (σ : Mem) : Prop := ∃ n, lp (fun (K5 : (Int × Int × Int × Int) → Mem → Prop) (x : Int × Int × Int × Int) (σ : Mem) => wX11_lossOf_5 K5 Q x.1 x.2.1 x.2.2.1 x.2.2.2 σ) n (l1, l2, l3, l4) σ
def wX11_lossOf (l1 : Int) (l2 : Int) (σ : Mem) (Q : Int → Mem → Prop) : Prop := wLX11_lossOf_5 Q l1 l2 0 0 σ
set_option maxHeartbeats 1000000 in
theorem bX11_lossOf_38 {E : TE} {K5 : (Int × Int × Int × Int) → Mem → Prop} (hK5 : ∀ (x : Int × Int × Int × Int) (σ : Mem), K5 x σ → GW E cX11_lossOf 5 RX11 2 46 σ 5 [(0, vR 300), (1, vI x.1), (2, vI x.2.1), (3, vI x.2.2.1), (4, vI x.2.2.2)] []) {Q : Int → Mem → Prop} (hR : RI E (some .int) Q) {l1 : Int} {l2 : Int} {l4 : Int} {s0 : Int} {s1 : Int} {σ : Mem} (h : wX11_lossOf_38 K5 Q l1 l2 l4 s0 s1 σ) : GW E cX11_lossOf 5 RX11 2 46 σ 38 [(0, vR 300), (1, vI l1), (2, vI l2), (4, vI l4)] [vI s0, vI s1] := by
  unfold wX11_lossOf_38 at h
  refine g_iadd dX11_lossOf_38 ?_
  refine g_topI (fun x1 ex1 => ?_)
  replace h := h x1 ex1
  refine g_istore_n (lv' := [(3, vI x1), (0, vR 300), (1, vI l1), (2, vI l2), (4, vI l4)]) dX11_lossOf_39 (by decide) rfl ?_
  refine g_iinc (lv' := [(4, vI (w32 (l4 + 1))), (3, vI x1), (0, vR 300), (1, vI l1), (2, vI l2)]) dX11_lossOf_40 rfl (by decide) rfl ?_
  refine g_loc (a := w32 (l4 + 1)) (i := 4) (lv := [(3, vI x1), (0, vR 300), (1, vI l1), (2, vI l2)]) (fun x2 ex2 => ?_)
  replace h := h x2 ex2
  refine g_goto (tgt := 5) dX11_lossOf_43 (by decide) ?_
  refine g_lv (lv' := [(0, vR 300), (1, vI l1), (2, vI l2), (3, vI x1), (4, vI x2)]) [2, 3, 4, 1, 0] rfl ?_
  exact hK5 ((l1, l2, x1, x2)) σ h
set_option maxHeartbeats 1000000 in
theorem bX11_lossOf_5 {E : TE} {K5 : (Int × Int × Int × Int) → Mem → Prop} (hK5 : ∀ (x : Int × Int × Int × Int) (σ : Mem), K5 x σ → GW E cX11_lossOf 5 RX11 2 46 σ 5 [(0, vR 300), (1, vI x.1), (2, vI x.2.1), (3, vI x.2.2.1), (4, vI x.2.2.2)] []) {Q : Int → Mem → Prop} (hR : RI E (some .int) Q) {l1 : Int} {l2 : Int} {l3 : Int} {l4 : Int} {σ : Mem} (h : wX11_lossOf_5 K5 Q l1 l2 l3 l4 σ) : GW E cX11_lossOf 5 RX11 2 46 σ 5 [(0, vR 300), (1, vI l1), (2, vI l2), (3, vI l3), (4, vI l4)] [] := by
  unfold wX11_lossOf_5 at h
  refine g_iload dX11_lossOf_5 rfl ?_
  refine g_aload_n dX11_lossOf_7 rfl ?_
  refine g_getR (r := 301) fl_11_9 kd_300 rfl dX11_lossOf_8 ?_
  refine g_iconst dX11_lossOf_11 0 rfl (by decide) ?_
  refine g_iald kd_301 (by decide) dX11_lossOf_12 ?_
  obtain ⟨hA, hB⟩ := h
  refine g_icmp_ge (tgt := 46) dX11_lossOf_13 (by decide) (fun hc => ?_) (fun hc => ?_)
  · replace h := hA hc
    refine g_iload_n dX11_lossOf_46 rfl ?_
    exact g_iret hR dX11_lossOf_47 h
  · replace h := hB hc
    refine g_iload_n dX11_lossOf_16 rfl ?_
    refine g_iload_n dX11_lossOf_17 rfl ?_
    refine g_iload dX11_lossOf_18 rfl ?_
    refine g_ishr dX11_lossOf_20 ?_
    refine g_iconst dX11_lossOf_21 1 rfl (by decide) ?_
    refine g_iand dX11_lossOf_22 ?_
    refine g_iconst dX11_lossOf_23 1 rfl (by decide) ?_
    obtain ⟨hA, hB⟩ := h
    refine g_icmp_ne (tgt := 37) dX11_lossOf_24 (by decide) (fun hc => ?_) (fun hc => ?_)
    · replace h := hA hc
      refine g_iconst dX11_lossOf_37 0 rfl (by decide) ?_
      refine g_lv (lv' := [(0, vR 300), (1, vI l1), (2, vI l2), (4, vI l4)]) [0, 1, 2, 4] rfl ?_
      exact bX11_lossOf_38 hK5 hR h
    · replace h := hB hc
      refine g_aload_n dX11_lossOf_27 rfl ?_
      refine g_iload dX11_lossOf_28 rfl ?_
      refine g_iload_n dX11_lossOf_30 rfl ?_
      refine g_cVi (st := [vI l3]) (av := [vI l4, vI l1]) (kX11_owes h) kd_300 rfl cw_RX11_141 (by decide) (by decide) (Nat.le_of_ble_eq_true rfl) rfl dX11_lossOf_31 (fun y2 m1 h => ?_)
      refine g_goto (tgt := 38) dX11_lossOf_34 (by decide) ?_
      refine g_lv (lv' := [(0, vR 300), (1, vI l1), (2, vI l2), (4, vI l4)]) [0, 1, 2, 4] rfl ?_
      exact bX11_lossOf_38 hK5 hR h
theorem eX11_lossOf_5 {E : TE} {Q : Int → Mem → Prop} (hR : RI E (some .int) Q) {l1 : Int} {l2 : Int} {l3 : Int} {l4 : Int} {σ : Mem} (h : wLX11_lossOf_5 Q l1 l2 l3 l4 σ) : GW E cX11_lossOf 5 RX11 2 46 σ 5 [(0, vR 300), (1, vI l1), (2, vI l2), (3, vI l3), (4, vI l4)] [] := by
  obtain ⟨n, h⟩ := h
  exact lp_GW (P := fun (x : Int × Int × Int × Int) (σ : Mem) => GW E cX11_lossOf 5 RX11 2 46 σ 5 [(0, vR 300), (1, vI x.1), (2, vI x.2.1), (3, vI x.2.2.1), (4, vI x.2.2.2)] []) (fun K hK x σ h  => bX11_lossOf_5 hK hR h) n _ σ h 
set_option maxHeartbeats 1000000 in
theorem kX11_lossOf {l1 : Int} {l2 : Int} {σ : Mem} {Q : Int → Mem → Prop} (h : wX11_lossOf l1 l2 σ Q) (l : Launch) (D : va_G) (cy : Nat → ClassId) (ad : Nat → Nat) : MI l yX11_lossOf cX11_lossOf 5 (some .int) 2 46 D cy ad [vR 300, vI l1, vI l2] σ Q := by
  refine m_I (own := RX11) (lv := [(0, vR 300), (1, vI l1), (2, vI l2)]) (by decide +kernel) rfl (Nat.le_of_ble_eq_true rfl) rfl (fun E hR => ?_) l D cy ad
  unfold wX11_lossOf at h
  refine g_iconst dX11_lossOf_0 0 rfl (by decide) ?_
  refine g_istore_n (lv' := [(3, vI 0), (0, vR 300), (1, vI l1), (2, vI l2)]) dX11_lossOf_1 (by decide) rfl ?_
  refine g_iconst dX11_lossOf_2 0 rfl (by decide) ?_
  refine g_istore (lv' := [(4, vI 0), (3, vI 0), (0, vR 300), (1, vI l1), (2, vI l2)]) dX11_lossOf_3 (by decide) rfl ?_
  refine g_lv (lv' := [(0, vR 300), (1, vI l1), (2, vI l2), (3, vI 0), (4, vI 0)]) [2, 3, 4, 1, 0] rfl ?_
  exact eX11_lossOf_5 hR h
def wX11_lossAll_38 (K5 : (Int × Int × Int × Int) → Mem → Prop) (Q : Int → Mem → Prop) (l1 : Int) (l2 : Int) (l4 : Int) (s0 : Int) (s1 : Int) (σ : Mem) : Prop := (∀ x1 : Int, x1 = w32 (s1 + s0) → (∀ x2 : Int, x2 = w32 (l4 + 1) → K5 (l1, l2, x1, x2) σ))
def wX11_lossAll_5 (K5 : (Int × Int × Int × Int) → Mem → Prop) (Q : Int → Mem → Prop) (l1 : Int) (l2 : Int) (l3 : Int) (l4 : Int) (σ : Mem) : Prop := ((σ 301 0 ≤ l4 → Q l3 σ) ∧ (¬ σ 301 0 ≤ l4 → ((¬ band (bshr l2 l4) 1 = 1 → wX11_lossAll_38 K5 Q l1 l2 l4 0 l3 σ) ∧ (band (bshr l2 l4) 1 = 1 → (wX11_lossOf l4 l1 σ (fun y2 m1 => wX11_lossAll_38 K5 Q l1 l2 l4 y2 l3 m1))))))
def wLX11_lossAll_5 (Q : Int → Mem → Prop) (l1 : Int) (l2 : Int) (l3 : Int) (l4 : Int) (σ : Mem) : Prop := ∃ n, lp (fun (K5 : (Int × Int × Int × Int) → Mem → Prop) (x : Int × Int × Int × Int) (σ : Mem) => wX11_lossAll_5 K5 Q x.1 x.2.1 x.2.2.1 x.2.2.2 σ) n (l1, l2, l3, l4) σ
def wX11_lossAll (l1 : Int) (l2 : Int) (σ : Mem) (Q : Int → Mem → Prop) : Prop := wLX11_lossAll_5 Q l1 l2 0 0 σ
set_option maxHeartbeats 1000000 in
theorem bX11_lossAll_38 {E : TE} {K5 : (Int × Int × Int × Int) → Mem → Prop} (hK5 : ∀ (x : Int × Int × Int × Int) (σ : Mem), K5 x σ → GW E cX11_lossAll 5 RX11 3 70 σ 5 [(0, vR 300), (1, vI x.1), (2, vI x.2.1), (3, vI x.2.2.1), (4, vI x.2.2.2)] []) {Q : Int → Mem → Prop} (hR : RI E (some .int) Q) {l1 : Int} {l2 : Int} {l4 : Int} {s0 : Int} {s1 : Int} {σ : Mem} (h : wX11_lossAll_38 K5 Q l1 l2 l4 s0 s1 σ) : GW E cX11_lossAll 5 RX11 3 70 σ 38 [(0, vR 300), (1, vI l1), (2, vI l2), (4, vI l4)] [vI s0, vI s1] := by
  unfold wX11_lossAll_38 at h
  refine g_iadd dX11_lossAll_38 ?_
  refine g_topI (fun x1 ex1 => ?_)
  replace h := h x1 ex1
  refine g_istore_n (lv' := [(3, vI x1), (0, vR 300), (1, vI l1), (2, vI l2), (4, vI l4)]) dX11_lossAll_39 (by decide) rfl ?_
  refine g_iinc (lv' := [(4, vI (w32 (l4 + 1))), (3, vI x1), (0, vR 300), (1, vI l1), (2, vI l2)]) dX11_lossAll_40 rfl (by decide) rfl ?_
  refine g_loc (a := w32 (l4 + 1)) (i := 4) (lv := [(3, vI x1), (0, vR 300), (1, vI l1), (2, vI l2)]) (fun x2 ex2 => ?_)
  replace h := h x2 ex2
  refine g_goto (tgt := 5) dX11_lossAll_43 (by decide) ?_
  refine g_lv (lv' := [(0, vR 300), (1, vI l1), (2, vI l2), (3, vI x1), (4, vI x2)]) [2, 3, 4, 1, 0] rfl ?_
  exact hK5 ((l1, l2, x1, x2)) σ h
set_option maxHeartbeats 1000000 in
theorem bX11_lossAll_5 {E : TE} {K5 : (Int × Int × Int × Int) → Mem → Prop} (hK5 : ∀ (x : Int × Int × Int × Int) (σ : Mem), K5 x σ → GW E cX11_lossAll 5 RX11 3 70 σ 5 [(0, vR 300), (1, vI x.1), (2, vI x.2.1), (3, vI x.2.2.1), (4, vI x.2.2.2)] []) {Q : Int → Mem → Prop} (hR : RI E (some .int) Q) {l1 : Int} {l2 : Int} {l3 : Int} {l4 : Int} {σ : Mem} (h : wX11_lossAll_5 K5 Q l1 l2 l3 l4 σ) : GW E cX11_lossAll 5 RX11 3 70 σ 5 [(0, vR 300), (1, vI l1), (2, vI l2), (3, vI l3), (4, vI l4)] [] := by
  unfold wX11_lossAll_5 at h
  refine g_iload dX11_lossAll_5 rfl ?_
  refine g_aload_n dX11_lossAll_7 rfl ?_
  refine g_getR (r := 301) fl_11_9 kd_300 rfl dX11_lossAll_8 ?_
  refine g_iconst dX11_lossAll_11 0 rfl (by decide) ?_
  refine g_iald kd_301 (by decide) dX11_lossAll_12 ?_
  obtain ⟨hA, hB⟩ := h
  refine g_icmp_ge (tgt := 46) dX11_lossAll_13 (by decide) (fun hc => ?_) (fun hc => ?_)
  · replace h := hA hc
    refine g_iload_n dX11_lossAll_46 rfl ?_
    exact g_iret hR dX11_lossAll_47 h
  · replace h := hB hc
    refine g_iload_n dX11_lossAll_16 rfl ?_
    refine g_iload_n dX11_lossAll_17 rfl ?_
    refine g_iload dX11_lossAll_18 rfl ?_
    refine g_ishr dX11_lossAll_20 ?_
    refine g_iconst dX11_lossAll_21 1 rfl (by decide) ?_
    refine g_iand dX11_lossAll_22 ?_
    refine g_iconst dX11_lossAll_23 1 rfl (by decide) ?_
    obtain ⟨hA, hB⟩ := h
    refine g_icmp_ne (tgt := 37) dX11_lossAll_24 (by decide) (fun hc => ?_) (fun hc => ?_)
    · replace h := hA hc
      refine g_iconst dX11_lossAll_37 0 rfl (by decide) ?_
      refine g_lv (lv' := [(0, vR 300), (1, vI l1), (2, vI l2), (4, vI l4)]) [0, 1, 2, 4] rfl ?_
      exact bX11_lossAll_38 hK5 hR h
    · replace h := hB hc
      refine g_aload_n dX11_lossAll_27 rfl ?_
      refine g_iload dX11_lossAll_28 rfl ?_
      refine g_iload_n dX11_lossAll_30 rfl ?_
      refine g_cVi (st := [vI l3]) (av := [vI l4, vI l1]) (kX11_lossOf h) kd_300 rfl cw_RX11_298 (by decide) (by decide) (Nat.le_of_ble_eq_true rfl) rfl dX11_lossAll_31 (fun y2 m1 h => ?_)
      refine g_goto (tgt := 38) dX11_lossAll_34 (by decide) ?_
      refine g_lv (lv' := [(0, vR 300), (1, vI l1), (2, vI l2), (4, vI l4)]) [0, 1, 2, 4] rfl ?_
      exact bX11_lossAll_38 hK5 hR h
theorem eX11_lossAll_5 {E : TE} {Q : Int → Mem → Prop} (hR : RI E (some .int) Q) {l1 : Int} {l2 : Int} {l3 : Int} {l4 : Int} {σ : Mem} (h : wLX11_lossAll_5 Q l1 l2 l3 l4 σ) : GW E cX11_lossAll 5 RX11 3 70 σ 5 [(0, vR 300), (1, vI l1), (2, vI l2), (3, vI l3), (4, vI l4)] [] := by
  obtain ⟨n, h⟩ := h
  exact lp_GW (P := fun (x : Int × Int × Int × Int) (σ : Mem) => GW E cX11_lossAll 5 RX11 3 70 σ 5 [(0, vR 300), (1, vI x.1), (2, vI x.2.1), (3, vI x.2.2.1), (4, vI x.2.2.2)] []) (fun K hK x σ h  => bX11_lossAll_5 hK hR h) n _ σ h 
set_option maxHeartbeats 1000000 in
theorem kX11_lossAll {l1 : Int} {l2 : Int} {σ : Mem} {Q : Int → Mem → Prop} (h : wX11_lossAll l1 l2 σ Q) (l : Launch) (D : va_G) (cy : Nat → ClassId) (ad : Nat → Nat) : MI l yX11_lossAll cX11_lossAll 5 (some .int) 3 70 D cy ad [vR 300, vI l1, vI l2] σ Q := by
  refine m_I (own := RX11) (lv := [(0, vR 300), (1, vI l1), (2, vI l2)]) (by decide +kernel) rfl (Nat.le_of_ble_eq_true rfl) rfl (fun E hR => ?_) l D cy ad
  unfold wX11_lossAll at h
  refine g_iconst dX11_lossAll_0 0 rfl (by decide) ?_
  refine g_istore_n (lv' := [(3, vI 0), (0, vR 300), (1, vI l1), (2, vI l2)]) dX11_lossAll_1 (by decide) rfl ?_
  refine g_iconst dX11_lossAll_2 0 rfl (by decide) ?_
  refine g_istore (lv' := [(4, vI 0), (3, vI 0), (0, vR 300), (1, vI l1), (2, vI l2)]) dX11_lossAll_3 (by decide) rfl ?_
  refine g_lv (lv' := [(0, vR 300), (1, vI l1), (2, vI l2), (3, vI 0), (4, vI 0)]) [2, 3, 4, 1, 0] rfl ?_
  exact eX11_lossAll_5 hR h
def wX11_nextFailing_49 (K4 : (Int × Int × Int) → Mem → Prop) (Q : Int → Mem → Prop) (l1 : Int) (l3 : Int) (s0 : Int) (s1 : Int) (σ : Mem) : Prop := (∀ x1 : Int, x1 = bor s1 s0 → (∀ x2 : Int, x2 = w32 (l3 + 1) → K4 (l1, x1, x2) σ))
def wX11_nextFailing_48 (K4 : (Int × Int × Int) → Mem → Prop) (Q : Int → Mem → Prop) (l1 : Int) (l3 : Int) (s0 : Int) (σ : Mem) : Prop := wX11_nextFailing_49 K4 Q l1 l3 0 s0 σ
def wX11_nextFailing_4 (K4 : (Int × Int × Int) → Mem → Prop) (Q : Int → Mem → Prop) (l1 : Int) (l2 : Int) (l3 : Int) (σ : Mem) : Prop := ((σ 301 0 ≤ l3 → Q l2 σ) ∧ (¬ σ 301 0 ≤ l3 → ((¬ band (bshr l1 l3) 1 = 0 → wX11_nextFailing_48 K4 Q l1 l3 l2 σ) ∧ (band (bshr l1 l3) 1 = 0 → (wX11_lossOf l3 l1 σ (fun y2 m1 => ((0 ≤ w32 (129 + l3) ∧ w32 (129 + l3) < 405) ∧ ((y2 ≤ m1 301 (w32 (129 + l3)).toNat → wX11_nextFailing_48 K4 Q l1 l3 l2 m1) ∧ (¬ y2 ≤ m1 301 (w32 (129 + l3)).toNat → wX11_nextFailing_49 K4 Q l1 l3 (bshl 1 l3) l2 m1)))))))))
def wLX11_nextFailing_4 (Q : Int → Mem → Prop) (l1 : Int) (l2 : Int) (l3 : Int) (σ : Mem) : Prop := ∃ n, lp (fun (K4 : (Int × Int × Int) → Mem → Prop) (x : Int × Int × Int) (σ : Mem) => wX11_nextFailing_4 K4 Q x.1 x.2.1 x.2.2 σ) n (l1, l2, l3) σ
def wX11_nextFailing (l1 : Int) (σ : Mem) (Q : Int → Mem → Prop) : Prop := wLX11_nextFailing_4 Q l1 0 0 σ
set_option maxHeartbeats 1000000 in
theorem bX11_nextFailing_49 {E : TE} {K4 : (Int × Int × Int) → Mem → Prop} (hK4 : ∀ (x : Int × Int × Int) (σ : Mem), K4 x σ → GW E cX11_nextFailing 4 RX11 3 70 σ 4 [(0, vR 300), (1, vI x.1), (2, vI x.2.1), (3, vI x.2.2)] []) {Q : Int → Mem → Prop} (hR : RI E (some .int) Q) {l1 : Int} {l3 : Int} {s0 : Int} {s1 : Int} {σ : Mem} (h : wX11_nextFailing_49 K4 Q l1 l3 s0 s1 σ) : GW E cX11_nextFailing 4 RX11 3 70 σ 49 [(0, vR 300), (1, vI l1), (3, vI l3)] [vI s0, vI s1] := by
  unfold wX11_nextFailing_49 at h
  refine g_ior dX11_nextFailing_49 ?_
  refine g_topI (fun x1 ex1 => ?_)
  replace h := h x1 ex1
  refine g_istore_n (lv' := [(2, vI x1), (0, vR 300), (1, vI l1), (3, vI l3)]) dX11_nextFailing_50 (by decide) rfl ?_
  refine g_iinc (lv' := [(3, vI (w32 (l3 + 1))), (2, vI x1), (0, vR 300), (1, vI l1)]) dX11_nextFailing_51 rfl (by decide) rfl ?_
  refine g_loc (a := w32 (l3 + 1)) (i := 3) (lv := [(2, vI x1), (0, vR 300), (1, vI l1)]) (fun x2 ex2 => ?_)
  replace h := h x2 ex2
  refine g_goto (tgt := 4) dX11_nextFailing_54 (by decide) ?_
  refine g_lv (lv' := [(0, vR 300), (1, vI l1), (2, vI x1), (3, vI x2)]) [2, 3, 1, 0] rfl ?_
  exact hK4 ((l1, x1, x2)) σ h
set_option maxHeartbeats 1000000 in
theorem bX11_nextFailing_48 {E : TE} {K4 : (Int × Int × Int) → Mem → Prop} (hK4 : ∀ (x : Int × Int × Int) (σ : Mem), K4 x σ → GW E cX11_nextFailing 4 RX11 3 70 σ 4 [(0, vR 300), (1, vI x.1), (2, vI x.2.1), (3, vI x.2.2)] []) {Q : Int → Mem → Prop} (hR : RI E (some .int) Q) {l1 : Int} {l3 : Int} {s0 : Int} {σ : Mem} (h : wX11_nextFailing_48 K4 Q l1 l3 s0 σ) : GW E cX11_nextFailing 4 RX11 3 70 σ 48 [(0, vR 300), (1, vI l1), (3, vI l3)] [vI s0] := by
  unfold wX11_nextFailing_48 at h
  refine g_iconst dX11_nextFailing_48 0 rfl (by decide) ?_
  exact bX11_nextFailing_49 hK4 hR h
set_option maxHeartbeats 1000000 in
theorem bX11_nextFailing_4 {E : TE} {K4 : (Int × Int × Int) → Mem → Prop} (hK4 : ∀ (x : Int × Int × Int) (σ : Mem), K4 x σ → GW E cX11_nextFailing 4 RX11 3 70 σ 4 [(0, vR 300), (1, vI x.1), (2, vI x.2.1), (3, vI x.2.2)] []) {Q : Int → Mem → Prop} (hR : RI E (some .int) Q) {l1 : Int} {l2 : Int} {l3 : Int} {σ : Mem} (h : wX11_nextFailing_4 K4 Q l1 l2 l3 σ) : GW E cX11_nextFailing 4 RX11 3 70 σ 4 [(0, vR 300), (1, vI l1), (2, vI l2), (3, vI l3)] [] := by
  unfold wX11_nextFailing_4 at h
  refine g_iload_n dX11_nextFailing_4 rfl ?_
  refine g_aload_n dX11_nextFailing_5 rfl ?_
  refine g_getR (r := 301) fl_11_9 kd_300 rfl dX11_nextFailing_6 ?_
  refine g_iconst dX11_nextFailing_9 0 rfl (by decide) ?_
  refine g_iald kd_301 (by decide) dX11_nextFailing_10 ?_
  obtain ⟨hA, hB⟩ := h
  refine g_icmp_ge (tgt := 57) dX11_nextFailing_11 (by decide) (fun hc => ?_) (fun hc => ?_)
  · replace h := hA hc
    refine g_iload_n dX11_nextFailing_57 rfl ?_
    exact g_iret hR dX11_nextFailing_58 h
  · replace h := hB hc
    refine g_iload_n dX11_nextFailing_14 rfl ?_
    refine g_iload_n dX11_nextFailing_15 rfl ?_
    refine g_iload_n dX11_nextFailing_16 rfl ?_
    refine g_ishr dX11_nextFailing_17 ?_
    refine g_iconst dX11_nextFailing_18 1 rfl (by decide) ?_
    refine g_iand dX11_nextFailing_19 ?_
    obtain ⟨hA, hB⟩ := h
    refine g_if_ne (tgt := 48) dX11_nextFailing_20 (by decide) (fun hc => ?_) (fun hc => ?_)
    · replace h := hA hc
      refine g_lv (lv' := [(0, vR 300), (1, vI l1), (3, vI l3)]) [0, 1, 3] rfl ?_
      exact bX11_nextFailing_48 hK4 hR h
    · replace h := hB hc
      refine g_aload_n dX11_nextFailing_23 rfl ?_
      refine g_iload_n dX11_nextFailing_24 rfl ?_
      refine g_iload_n dX11_nextFailing_25 rfl ?_
      refine g_cVi (st := [vI l2]) (av := [vI l3, vI l1]) (kX11_lossOf h) kd_300 rfl cw_RX11_298 (by decide) (by decide) (Nat.le_of_ble_eq_true rfl) rfl dX11_nextFailing_26 (fun y2 m1 h => ?_)
      refine g_aload_n dX11_nextFailing_29 rfl ?_
      refine g_getR (r := 301) fl_11_9 kd_300 rfl dX11_nextFailing_30 ?_
      refine g_sipush dX11_nextFailing_33 129 rfl (by decide) ?_
      refine g_iload_n dX11_nextFailing_36 rfl ?_
      refine g_iadd dX11_nextFailing_37 ?_
      obtain ⟨hin, h⟩ := h
      refine g_iald kd_301 hin dX11_nextFailing_38 ?_
      obtain ⟨hA, hB⟩ := h
      refine g_icmp_le (tgt := 48) dX11_nextFailing_39 (by decide) (fun hc => ?_) (fun hc => ?_)
      · replace h := hA hc
        refine g_lv (lv' := [(0, vR 300), (1, vI l1), (3, vI l3)]) [0, 1, 3] rfl ?_
        exact bX11_nextFailing_48 hK4 hR h
      · replace h := hB hc
        refine g_iconst dX11_nextFailing_42 1 rfl (by decide) ?_
        refine g_iload_n dX11_nextFailing_43 rfl ?_
        refine g_ishl dX11_nextFailing_44 ?_
        refine g_goto (tgt := 49) dX11_nextFailing_45 (by decide) ?_
        refine g_lv (lv' := [(0, vR 300), (1, vI l1), (3, vI l3)]) [0, 1, 3] rfl ?_
        exact bX11_nextFailing_49 hK4 hR h
theorem eX11_nextFailing_4 {E : TE} {Q : Int → Mem → Prop} (hR : RI E (some .int) Q) {l1 : Int} {l2 : Int} {l3 : Int} {σ : Mem} (h : wLX11_nextFailing_4 Q l1 l2 l3 σ) : GW E cX11_nextFailing 4 RX11 3 70 σ 4 [(0, vR 300), (1, vI l1), (2, vI l2), (3, vI l3)] [] := by
  obtain ⟨n, h⟩ := h
  exact lp_GW (P := fun (x : Int × Int × Int) (σ : Mem) => GW E cX11_nextFailing 4 RX11 3 70 σ 4 [(0, vR 300), (1, vI x.1), (2, vI x.2.1), (3, vI x.2.2)] []) (fun K hK x σ h  => bX11_nextFailing_4 hK hR h) n _ σ h 
set_option maxHeartbeats 1000000 in
theorem kX11_nextFailing {l1 : Int} {σ : Mem} {Q : Int → Mem → Prop} (h : wX11_nextFailing l1 σ Q) (l : Launch) (D : va_G) (cy : Nat → ClassId) (ad : Nat → Nat) : MI l yX11_nextFailing cX11_nextFailing 4 (some .int) 3 70 D cy ad [vR 300, vI l1] σ Q := by
  refine m_I (own := RX11) (lv := [(0, vR 300), (1, vI l1)]) (by decide +kernel) rfl (Nat.le_of_ble_eq_true rfl) rfl (fun E hR => ?_) l D cy ad
  unfold wX11_nextFailing at h
  refine g_iconst dX11_nextFailing_0 0 rfl (by decide) ?_
  refine g_istore_n (lv' := [(2, vI 0), (0, vR 300), (1, vI l1)]) dX11_nextFailing_1 (by decide) rfl ?_
  refine g_iconst dX11_nextFailing_2 0 rfl (by decide) ?_
  refine g_istore_n (lv' := [(3, vI 0), (2, vI 0), (0, vR 300), (1, vI l1)]) dX11_nextFailing_3 (by decide) rfl ?_
  refine g_lv (lv' := [(0, vR 300), (1, vI l1), (2, vI 0), (3, vI 0)]) [2, 3, 1, 0] rfl ?_
  exact eX11_nextFailing_4 hR h
def wX11_failing_15 (K15 : (Int × Int) → Mem → Prop) (Q : Int → Mem → Prop) (l2 : Int) (l3 : Int) (σ : Mem) : Prop := ((l3 = 0 → Q l2 σ) ∧ (¬ l3 = 0 → (∀ x1 : Int, x1 = bor l2 l3 → (∀ m2 : Mem, m2 = up2 σ 300 25 (w32 ((σ 300 25) + 1)) → (wX11_nextFailing x1 m2 (fun y4 m3 => K15 (x1, y4) m3))))))
def wLX11_failing_15 (Q : Int → Mem → Prop) (l2 : Int) (l3 : Int) (σ : Mem) : Prop := ∃ n, lp (fun (K15 : (Int × Int) → Mem → Prop) (x : Int × Int) (σ : Mem) => wX11_failing_15 K15 Q x.1 x.2 σ) n (l2, l3) σ
def wX11_failing (l1 : Int) (σ : Mem) (Q : Int → Mem → Prop) : Prop := (∀ m1 : Mem, m1 = up2 σ 300 25 0 → (∀ x2 : Int, x2 = bshl 1 l1 → (wX11_nextFailing x2 m1 (fun y4 m3 => wLX11_failing_15 Q x2 y4 m3))))
set_option maxHeartbeats 1000000 in
theorem bX11_failing_15 {E : TE} {K15 : (Int × Int) → Mem → Prop} (hK15 : ∀ (x : Int × Int) (σ : Mem), K15 x σ → GW E cX11_failing 4 RX11 4 93 σ 15 [(0, vR 300), (2, vI x.1), (3, vI x.2)] []) {Q : Int → Mem → Prop} (hR : RI E (some .int) Q) {l2 : Int} {l3 : Int} {σ : Mem} (h : wX11_failing_15 K15 Q l2 l3 σ) : GW E cX11_failing 4 RX11 4 93 σ 15 [(0, vR 300), (2, vI l2), (3, vI l3)] [] := by
  unfold wX11_failing_15 at h
  refine g_iload_n dX11_failing_15 rfl ?_
  obtain ⟨hA, hB⟩ := h
  refine g_if_eq (tgt := 42) dX11_failing_16 (by decide) (fun hc => ?_) (fun hc => ?_)
  · replace h := hA hc
    refine g_iload_n dX11_failing_42 rfl ?_
    exact g_iret hR dX11_failing_43 h
  · replace h := hB hc
    refine g_iload_n dX11_failing_19 rfl ?_
    refine g_iload_n dX11_failing_20 rfl ?_
    refine g_ior dX11_failing_21 ?_
    refine g_topI (fun x1 ex1 => ?_)
    replace h := h x1 ex1
    refine g_istore_n (lv' := [(2, vI x1), (0, vR 300), (3, vI l3)]) dX11_failing_22 (by decide) rfl ?_
    refine g_aload_n dX11_failing_23 rfl ?_
    refine g_dup dX11_failing_24 rfl ?_
    refine g_getI fl_11_301 kd_300 rfl dX11_failing_25 ?_
    refine g_iconst dX11_failing_28 1 rfl (by decide) ?_
    refine g_iadd dX11_failing_29 ?_
    refine g_putI fp_11_301 kd_300 rfl dX11_failing_30 ?_
    refine g_nm (fun m2 em2 => ?_)
    replace h := h m2 em2
    refine g_aload_n dX11_failing_33 rfl ?_
    refine g_iload_n dX11_failing_34 rfl ?_
    refine g_cVi (st := []) (av := [vI x1]) (kX11_nextFailing h) kd_300 rfl cw_RX11_304 (by decide) (by decide) (Nat.le_of_ble_eq_true rfl) rfl dX11_failing_35 (fun y4 m3 h => ?_)
    refine g_istore_n (lv' := [(3, vI y4), (2, vI x1), (0, vR 300)]) dX11_failing_38 (by decide) rfl ?_
    refine g_goto (tgt := 15) dX11_failing_39 (by decide) ?_
    refine g_lv (lv' := [(0, vR 300), (2, vI x1), (3, vI y4)]) [2, 1, 0] rfl ?_
    exact hK15 ((x1, y4)) m3 h
theorem eX11_failing_15 {E : TE} {Q : Int → Mem → Prop} (hR : RI E (some .int) Q) {l2 : Int} {l3 : Int} {σ : Mem} (h : wLX11_failing_15 Q l2 l3 σ) : GW E cX11_failing 4 RX11 4 93 σ 15 [(0, vR 300), (2, vI l2), (3, vI l3)] [] := by
  obtain ⟨n, h⟩ := h
  exact lp_GW (P := fun (x : Int × Int) (σ : Mem) => GW E cX11_failing 4 RX11 4 93 σ 15 [(0, vR 300), (2, vI x.1), (3, vI x.2)] []) (fun K hK x σ h  => bX11_failing_15 hK hR h) n _ σ h 
set_option maxHeartbeats 1000000 in
theorem kX11_failing {l1 : Int} {σ : Mem} {Q : Int → Mem → Prop} (h : wX11_failing l1 σ Q) (l : Launch) (D : va_G) (cy : Nat → ClassId) (ad : Nat → Nat) : MI l yX11_failing cX11_failing 4 (some .int) 4 93 D cy ad [vR 300, vI l1] σ Q := by
  refine m_I (own := RX11) (lv := [(0, vR 300), (1, vI l1)]) (by decide +kernel) rfl (Nat.le_of_ble_eq_true rfl) rfl (fun E hR => ?_) l D cy ad
  unfold wX11_failing at h
  refine g_aload_n dX11_failing_0 rfl ?_
  refine g_iconst dX11_failing_1 0 rfl (by decide) ?_
  refine g_putI fp_11_301 kd_300 rfl dX11_failing_2 ?_
  refine g_nm (fun m1 em1 => ?_)
  replace h := h m1 em1
  refine g_iconst dX11_failing_5 1 rfl (by decide) ?_
  refine g_iload_n dX11_failing_6 rfl ?_
  refine g_ishl dX11_failing_7 ?_
  refine g_topI (fun x2 ex2 => ?_)
  replace h := h x2 ex2
  refine g_istore_n (lv' := [(2, vI x2), (0, vR 300), (1, vI l1)]) dX11_failing_8 (by decide) rfl ?_
  refine g_aload_n dX11_failing_9 rfl ?_
  refine g_iload_n dX11_failing_10 rfl ?_
  refine g_cVi (st := []) (av := [vI x2]) (kX11_nextFailing h) kd_300 rfl cw_RX11_304 (by decide) (by decide) (Nat.le_of_ble_eq_true rfl) rfl dX11_failing_11 (fun y4 m3 h => ?_)
  refine g_istore_n (lv' := [(3, vI y4), (2, vI x2), (0, vR 300), (1, vI l1)]) dX11_failing_14 (by decide) rfl ?_
  refine g_lv (lv' := [(0, vR 300), (2, vI x2), (3, vI y4)]) [2, 1, 0] rfl ?_
  exact eX11_failing_15 hR h
def wX11_fails (l1 : Int) (σ : Mem) (Q : Int → Mem → Prop) : Prop := (∀ m1 : Mem, m1 = up2 σ 300 5 0 → (wX11_isMember l1 m1 (fun y3 m2 => ((¬ y3 = 0 → (wX11_failing l1 m2 (fun y5 m4 => (∀ m6 : Mem, m6 = up2 m4 300 4 0 → (wX11_tell y5 m6 (fun m7 => (wX11_lossAll y5 255 m7 (fun y9 m8 => (wX11_tell y9 m8 (fun m10 => (wX11_lossAll y5 (band 255 (bxor y5 ((-1)))) m10 (fun y12 m11 => (wX11_tell y12 m11 (fun m13 => Q (m13 300 25) m13)))))))))))))) ∧ (y3 = 0 → Q ((-1)) m2)))))
set_option maxHeartbeats 1000000 in
theorem kX11_fails {l1 : Int} {σ : Mem} {Q : Int → Mem → Prop} (h : wX11_fails l1 σ Q) (l : Launch) (D : va_G) (cy : Nat → ClassId) (ad : Nat → Nat) : MI l yX11_fails cX11_fails 3 (some .int) 5 116 D cy ad [vR 300, vI l1] σ Q := by
  refine m_I (own := RX11) (lv := [(0, vR 300), (1, vI l1)]) (by decide +kernel) rfl (Nat.le_of_ble_eq_true rfl) rfl (fun E hR => ?_) l D cy ad
  unfold wX11_fails at h
  refine g_aload_n dX11_fails_0 rfl ?_
  refine g_iconst dX11_fails_1 0 rfl (by decide) ?_
  refine g_putI fp_11_68 kd_300 rfl dX11_fails_2 ?_
  refine g_nm (fun m1 em1 => ?_)
  replace h := h m1 em1
  refine g_aload_n dX11_fails_5 rfl ?_
  refine g_iload_n dX11_fails_6 rfl ?_
  refine g_cVi (st := []) (av := [vI l1]) (kX11_isMember h) kd_300 rfl cw_RX11_78 (by decide) (by decide) (Nat.le_of_ble_eq_true rfl) rfl dX11_fails_7 (fun y3 m2 h => ?_)
  obtain ⟨hA, hB⟩ := h
  refine g_if_ne (tgt := 15) dX11_fails_10 (by decide) (fun hc => ?_) (fun hc => ?_)
  · replace h := hA hc
    refine g_aload_n dX11_fails_15 rfl ?_
    refine g_iload_n dX11_fails_16 rfl ?_
    refine g_cVi (st := []) (av := [vI l1]) (kX11_failing h) kd_300 rfl cw_RX11_307 (by decide) (by decide) (Nat.le_of_ble_eq_true rfl) rfl dX11_fails_17 (fun y5 m4 h => ?_)
    refine g_istore_n (lv' := [(2, vI y5), (0, vR 300), (1, vI l1)]) dX11_fails_20 (by decide) rfl ?_
    refine g_aload_n dX11_fails_21 rfl ?_
    refine g_iconst dX11_fails_22 0 rfl (by decide) ?_
    refine g_putI fp_11_71 kd_300 rfl dX11_fails_23 ?_
    refine g_nm (fun m6 em6 => ?_)
    replace h := h m6 em6
    refine g_aload_n dX11_fails_26 rfl ?_
    refine g_iload_n dX11_fails_27 rfl ?_
    refine g_i2l dX11_fails_28 ?_
    refine g_cVv (st := []) (av := [vL y5]) (kX11_tell h) kd_300 rfl cw_RX11_155 (by decide) (by decide) (Nat.le_of_ble_eq_true rfl) rfl dX11_fails_29 (fun m7 h => ?_)
    refine g_aload_n dX11_fails_32 rfl ?_
    refine g_aload_n dX11_fails_33 rfl ?_
    refine g_iload_n dX11_fails_34 rfl ?_
    refine g_sipush dX11_fails_35 255 rfl (by decide) ?_
    refine g_cVi (st := [vR 300]) (av := [vI y5, vI 255]) (kX11_lossAll h) kd_300 rfl cw_RX11_310 (by decide) (by decide) (Nat.le_of_ble_eq_true rfl) rfl dX11_fails_38 (fun y9 m8 h => ?_)
    refine g_i2l dX11_fails_41 ?_
    refine g_cVv (st := []) (av := [vL y9]) (kX11_tell h) kd_300 rfl cw_RX11_155 (by decide) (by decide) (Nat.le_of_ble_eq_true rfl) rfl dX11_fails_42 (fun m10 h => ?_)
    refine g_aload_n dX11_fails_45 rfl ?_
    refine g_aload_n dX11_fails_46 rfl ?_
    refine g_iload_n dX11_fails_47 rfl ?_
    refine g_sipush dX11_fails_48 255 rfl (by decide) ?_
    refine g_iload_n dX11_fails_51 rfl ?_
    refine g_iconst dX11_fails_52 (-1) rfl (by decide) ?_
    refine g_ixor dX11_fails_53 ?_
    refine g_iand dX11_fails_54 ?_
    refine g_cVi (st := [vR 300]) (av := [vI y5, vI (band 255 (bxor y5 ((-1))))]) (kX11_lossAll h) kd_300 rfl cw_RX11_310 (by decide) (by decide) (Nat.le_of_ble_eq_true rfl) rfl dX11_fails_55 (fun y12 m11 h => ?_)
    refine g_i2l dX11_fails_58 ?_
    refine g_cVv (st := []) (av := [vL y12]) (kX11_tell h) kd_300 rfl cw_RX11_155 (by decide) (by decide) (Nat.le_of_ble_eq_true rfl) rfl dX11_fails_59 (fun m13 h => ?_)
    refine g_aload_n dX11_fails_62 rfl ?_
    refine g_getI fl_11_301 kd_300 rfl dX11_fails_63 ?_
    exact g_iret hR dX11_fails_66 h
  · replace h := hB hc
    refine g_iconst dX11_fails_13 (-1) rfl (by decide) ?_
    exact g_iret hR dX11_fails_14 h
def wX11_worst_11 (K11 : (Int × Int × Int) → Mem → Prop) (Q : Int → Mem → Prop) (l1 : Int) (l2 : Int) (l3 : Int) (σ : Mem) : Prop := ((σ 301 0 ≤ l3 → ((¬ l1 = (-1) → (∀ m1 : Mem, m1 = up2 σ 300 4 0 → (wX11_tell l2 m1 (fun m2 => (wX11_failing l1 m2 (fun y4 m3 => (wX11_countBits y4 m3 (fun y6 m5 => (wX11_tell (w32 (y6 - 1)) m5 (fun m7 => Q l1 m7)))))))))) ∧ (l1 = (-1) → Q ((-2)) σ))) ∧ (¬ σ 301 0 ≤ l3 → (wX11_failing l3 σ (fun y9 m8 => (wX11_lossAll y9 255 m8 (fun y11 m10 => ((l2 < y11 → (∀ x12 : Int, x12 = w32 (l3 + 1) → K11 (l3, y11, x12) m10)) ∧ (¬ l2 < y11 → (∀ x13 : Int, x13 = w32 (l3 + 1) → K11 (l1, l2, x13) m10)))))))))
def wLX11_worst_11 (Q : Int → Mem → Prop) (l1 : Int) (l2 : Int) (l3 : Int) (σ : Mem) : Prop := ∃ n, lp (fun (K11 : (Int × Int × Int) → Mem → Prop) (x : Int × Int × Int) (σ : Mem) => wX11_worst_11 K11 Q x.1 x.2.1 x.2.2 σ) n (l1, l2, l3) σ
def wX11_worst (σ : Mem) (Q : Int → Mem → Prop) : Prop := (∀ m1 : Mem, m1 = up2 σ 300 5 0 → wLX11_worst_11 Q ((-1)) 0 0 m1)
set_option maxHeartbeats 1000000 in
theorem bX11_worst_11 {E : TE} {K11 : (Int × Int × Int) → Mem → Prop} (hK11 : ∀ (x : Int × Int × Int) (σ : Mem), K11 x σ → GW E cX11_worst 5 RX11 5 116 σ 11 [(0, vR 300), (1, vI x.1), (2, vI x.2.1), (3, vI x.2.2)] []) {Q : Int → Mem → Prop} (hR : RI E (some .int) Q) {l1 : Int} {l2 : Int} {l3 : Int} {σ : Mem} (h : wX11_worst_11 K11 Q l1 l2 l3 σ) : GW E cX11_worst 5 RX11 5 116 σ 11 [(0, vR 300), (1, vI l1), (2, vI l2), (3, vI l3)] [] := by
  unfold wX11_worst_11 at h
  refine g_iload_n dX11_worst_11 rfl ?_
  refine g_aload_n dX11_worst_12 rfl ?_
  refine g_getR (r := 301) fl_11_9 kd_300 rfl dX11_worst_13 ?_
  refine g_iconst dX11_worst_16 0 rfl (by decide) ?_
  refine g_iald kd_301 (by decide) dX11_worst_17 ?_
  obtain ⟨hA, hB⟩ := h
  refine g_icmp_ge (tgt := 55) dX11_worst_18 (by decide) (fun hc => ?_) (fun hc => ?_)
  · replace h := hA hc
    refine g_iload_n dX11_worst_55 rfl ?_
    refine g_iconst dX11_worst_56 (-1) rfl (by decide) ?_
    obtain ⟨hA, hB⟩ := h
    refine g_icmp_ne (tgt := 63) dX11_worst_57 (by decide) (fun hc => ?_) (fun hc => ?_)
    · replace h := hA hc
      refine g_aload_n dX11_worst_63 rfl ?_
      refine g_iconst dX11_worst_64 0 rfl (by decide) ?_
      refine g_putI fp_11_71 kd_300 rfl dX11_worst_65 ?_
      refine g_nm (fun m1 em1 => ?_)
      replace h := h m1 em1
      refine g_aload_n dX11_worst_68 rfl ?_
      refine g_iload_n dX11_worst_69 rfl ?_
      refine g_i2l dX11_worst_70 ?_
      refine g_cVv (st := []) (av := [vL l2]) (kX11_tell h) kd_300 rfl cw_RX11_155 (by decide) (by decide) (Nat.le_of_ble_eq_true rfl) rfl dX11_worst_71 (fun m2 h => ?_)
      refine g_aload_n dX11_worst_74 rfl ?_
      refine g_aload_n dX11_worst_75 rfl ?_
      refine g_iload_n dX11_worst_76 rfl ?_
      refine g_cVi (st := [vR 300]) (av := [vI l1]) (kX11_failing h) kd_300 rfl cw_RX11_307 (by decide) (by decide) (Nat.le_of_ble_eq_true rfl) rfl dX11_worst_77 (fun y4 m3 h => ?_)
      refine g_cSi (st := [vR 300]) (av := [vI y4]) (kX11_countBits h) cw_RX11_204 (by decide) (by decide) (Nat.le_of_ble_eq_true rfl) rfl dX11_worst_80 (fun y6 m5 h => ?_)
      refine g_iconst dX11_worst_83 1 rfl (by decide) ?_
      refine g_isub dX11_worst_84 ?_
      refine g_i2l dX11_worst_85 ?_
      refine g_cVv (st := []) (av := [vL (w32 (y6 - 1))]) (kX11_tell h) kd_300 rfl cw_RX11_155 (by decide) (by decide) (Nat.le_of_ble_eq_true rfl) rfl dX11_worst_86 (fun m7 h => ?_)
      refine g_iload_n dX11_worst_89 rfl ?_
      exact g_iret hR dX11_worst_90 h
    · replace h := hB hc
      refine g_bipush dX11_worst_60 (-2) rfl (by decide) ?_
      exact g_iret hR dX11_worst_62 h
  · replace h := hB hc
    refine g_aload_n dX11_worst_21 rfl ?_
    refine g_aload_n dX11_worst_22 rfl ?_
    refine g_iload_n dX11_worst_23 rfl ?_
    refine g_cVi (st := [vR 300]) (av := [vI l3]) (kX11_failing h) kd_300 rfl cw_RX11_307 (by decide) (by decide) (Nat.le_of_ble_eq_true rfl) rfl dX11_worst_24 (fun y9 m8 h => ?_)
    refine g_sipush dX11_worst_27 255 rfl (by decide) ?_
    refine g_cVi (st := []) (av := [vI y9, vI 255]) (kX11_lossAll h) kd_300 rfl cw_RX11_310 (by decide) (by decide) (Nat.le_of_ble_eq_true rfl) rfl dX11_worst_30 (fun y11 m10 h => ?_)
    refine g_istore (lv' := [(4, vI y11), (0, vR 300), (1, vI l1), (2, vI l2), (3, vI l3)]) dX11_worst_33 (by decide) rfl ?_
    refine g_iload dX11_worst_35 rfl ?_
    refine g_iload_n dX11_worst_37 rfl ?_
    obtain ⟨hA, hB⟩ := h
    refine g_icmp_gt (tgt := 44) dX11_worst_38 (by decide) (fun hc => ?_) (fun hc => ?_)
    · replace h := hA hc
      refine g_iload_n dX11_worst_44 rfl ?_
      refine g_istore_n (lv' := [(1, vI l3), (4, vI y11), (0, vR 300), (2, vI l2), (3, vI l3)]) dX11_worst_45 (by decide) rfl ?_
      refine g_iload dX11_worst_46 rfl ?_
      refine g_istore_n (lv' := [(2, vI y11), (1, vI l3), (4, vI y11), (0, vR 300), (3, vI l3)]) dX11_worst_48 (by decide) rfl ?_
      refine g_iinc (lv' := [(3, vI (w32 (l3 + 1))), (2, vI y11), (1, vI l3), (4, vI y11), (0, vR 300)]) dX11_worst_49 rfl (by decide) rfl ?_
      refine g_loc (a := w32 (l3 + 1)) (i := 3) (lv := [(2, vI y11), (1, vI l3), (4, vI y11), (0, vR 300)]) (fun x12 ex12 => ?_)
      replace h := h x12 ex12
      refine g_goto (tgt := 11) dX11_worst_52 (by decide) ?_
      refine g_lv (lv' := [(0, vR 300), (1, vI l3), (2, vI y11), (3, vI x12)]) [4, 2, 1, 0] rfl ?_
      exact hK11 ((l3, y11, x12)) m10 h
    · replace h := hB hc
      refine g_goto (tgt := 49) dX11_worst_41 (by decide) ?_
      refine g_iinc (lv' := [(3, vI (w32 (l3 + 1))), (4, vI y11), (0, vR 300), (1, vI l1), (2, vI l2)]) dX11_worst_49 rfl (by decide) rfl ?_
      refine g_loc (a := w32 (l3 + 1)) (i := 3) (lv := [(4, vI y11), (0, vR 300), (1, vI l1), (2, vI l2)]) (fun x13 ex13 => ?_)
      replace h := h x13 ex13
      refine g_goto (tgt := 11) dX11_worst_52 (by decide) ?_
      refine g_lv (lv' := [(0, vR 300), (1, vI l1), (2, vI l2), (3, vI x13)]) [2, 3, 4, 0] rfl ?_
      exact hK11 ((l1, l2, x13)) m10 h
theorem eX11_worst_11 {E : TE} {Q : Int → Mem → Prop} (hR : RI E (some .int) Q) {l1 : Int} {l2 : Int} {l3 : Int} {σ : Mem} (h : wLX11_worst_11 Q l1 l2 l3 σ) : GW E cX11_worst 5 RX11 5 116 σ 11 [(0, vR 300), (1, vI l1), (2, vI l2), (3, vI l3)] [] := by
  obtain ⟨n, h⟩ := h
  exact lp_GW (P := fun (x : Int × Int × Int) (σ : Mem) => GW E cX11_worst 5 RX11 5 116 σ 11 [(0, vR 300), (1, vI x.1), (2, vI x.2.1), (3, vI x.2.2)] []) (fun K hK x σ h  => bX11_worst_11 hK hR h) n _ σ h 
set_option maxHeartbeats 1000000 in
theorem kX11_worst {σ : Mem} {Q : Int → Mem → Prop} (h : wX11_worst σ Q) (l : Launch) (D : va_G) (cy : Nat → ClassId) (ad : Nat → Nat) : MI l yX11_worst cX11_worst 5 (some .int) 5 116 D cy ad [vR 300] σ Q := by
  refine m_I (own := RX11) (lv := [(0, vR 300)]) (by decide +kernel) rfl (Nat.le_of_ble_eq_true rfl) rfl (fun E hR => ?_) l D cy ad
  unfold wX11_worst at h
  refine g_aload_n dX11_worst_0 rfl ?_
  refine g_iconst dX11_worst_1 0 rfl (by decide) ?_
  refine g_putI fp_11_68 kd_300 rfl dX11_worst_2 ?_
  refine g_nm (fun m1 em1 => ?_)
  replace h := h m1 em1
  refine g_iconst dX11_worst_5 (-1) rfl (by decide) ?_
  refine g_istore_n (lv' := [(1, vI ((-1))), (0, vR 300)]) dX11_worst_6 (by decide) rfl ?_
  refine g_iconst dX11_worst_7 0 rfl (by decide) ?_
  refine g_istore_n (lv' := [(2, vI 0), (1, vI ((-1))), (0, vR 300)]) dX11_worst_8 (by decide) rfl ?_
  refine g_iconst dX11_worst_9 0 rfl (by decide) ?_
  refine g_istore_n (lv' := [(3, vI 0), (2, vI 0), (1, vI ((-1))), (0, vR 300)]) dX11_worst_10 (by decide) rfl ?_
  refine g_lv (lv' := [(0, vR 300), (1, vI ((-1))), (2, vI 0), (3, vI 0)]) [3, 2, 1, 0] rfl ?_
  exact eX11_worst_11 hR h
def wX11_enough_43 (K43 : (Int × Int × Int) → Mem → Prop) (Q : Int → Mem → Prop) (l1 : Int) (l2 : Int) (l3 : Int) (σ : Mem) : Prop := ((¬ band (bshr l2 l3) 1 = 0 → (∀ m1 : Mem, m1 = up2 σ 300 4 0 → (wX11_lossOf l3 (bshl 1 l1) m1 (fun y3 m2 => ((0 ≤ w32 (129 + l3) ∧ w32 (129 + l3) < 405) ∧ (wX11_tell (w32 (y3 - (m2 301 (w32 (129 + l3)).toNat))) m2 (fun m4 => Q l3 m4))))))) ∧ (band (bshr l2 l3) 1 = 0 → (∀ x5 : Int, x5 = w32 (l3 + 1) → K43 (l1, l2, x5) σ)))
def wLX11_enough_43 (Q : Int → Mem → Prop) (l1 : Int) (l2 : Int) (l3 : Int) (σ : Mem) : Prop := ∃ n, lp (fun (K43 : (Int × Int × Int) → Mem → Prop) (x : Int × Int × Int) (σ : Mem) => wX11_enough_43 K43 Q x.1 x.2.1 x.2.2 σ) n (l1, l2, l3) σ
def wX11_enough (l1 : Int) (σ : Mem) (Q : Int → Mem → Prop) : Prop := (∀ m1 : Mem, m1 = up2 σ 300 5 0 → (wX11_isMember l1 m1 (fun y3 m2 => ((¬ y3 = 0 → (wX11_nextFailing (bshl 1 l1) m2 (fun y5 m4 => ((¬ y5 = 0 → (wX11_countBits y5 m4 (fun y7 m6 => ((y7 ≤ 1 → wLX11_enough_43 Q l1 y5 0 m6) ∧ (¬ y7 ≤ 1 → Q ((-3)) m6))))) ∧ (y5 = 0 → Q ((-2)) m4))))) ∧ (y3 = 0 → Q ((-1)) m2)))))
set_option maxHeartbeats 1000000 in
theorem bX11_enough_43 {E : TE} {K43 : (Int × Int × Int) → Mem → Prop} (hK43 : ∀ (x : Int × Int × Int) (σ : Mem), K43 x σ → GW E cX11_enough 4 RX11 4 93 σ 43 [(0, vR 300), (1, vI x.1), (2, vI x.2.1), (3, vI x.2.2)] []) {Q : Int → Mem → Prop} (hR : RI E (some .int) Q) {l1 : Int} {l2 : Int} {l3 : Int} {σ : Mem} (h : wX11_enough_43 K43 Q l1 l2 l3 σ) : GW E cX11_enough 4 RX11 4 93 σ 43 [(0, vR 300), (1, vI l1), (2, vI l2), (3, vI l3)] [] := by
  unfold wX11_enough_43 at h
  refine g_iload_n dX11_enough_43 rfl ?_
  refine g_iload_n dX11_enough_44 rfl ?_
  refine g_ishr dX11_enough_45 ?_
  refine g_iconst dX11_enough_46 1 rfl (by decide) ?_
  refine g_iand dX11_enough_47 ?_
  obtain ⟨hA, hB⟩ := h
  refine g_if_ne (tgt := 57) dX11_enough_48 (by decide) (fun hc => ?_) (fun hc => ?_)
  · replace h := hA hc
    refine g_aload_n dX11_enough_57 rfl ?_
    refine g_iconst dX11_enough_58 0 rfl (by decide) ?_
    refine g_putI fp_11_71 kd_300 rfl dX11_enough_59 ?_
    refine g_nm (fun m1 em1 => ?_)
    replace h := h m1 em1
    refine g_aload_n dX11_enough_62 rfl ?_
    refine g_aload_n dX11_enough_63 rfl ?_
    refine g_iload_n dX11_enough_64 rfl ?_
    refine g_iconst dX11_enough_65 1 rfl (by decide) ?_
    refine g_iload_n dX11_enough_66 rfl ?_
    refine g_ishl dX11_enough_67 ?_
    refine g_cVi (st := [vR 300]) (av := [vI l3, vI (bshl 1 l1)]) (kX11_lossOf h) kd_300 rfl cw_RX11_298 (by decide) (by decide) (Nat.le_of_ble_eq_true rfl) rfl dX11_enough_68 (fun y3 m2 h => ?_)
    refine g_aload_n dX11_enough_71 rfl ?_
    refine g_getR (r := 301) fl_11_9 kd_300 rfl dX11_enough_72 ?_
    refine g_sipush dX11_enough_75 129 rfl (by decide) ?_
    refine g_iload_n dX11_enough_78 rfl ?_
    refine g_iadd dX11_enough_79 ?_
    obtain ⟨hin, h⟩ := h
    refine g_iald kd_301 hin dX11_enough_80 ?_
    refine g_isub dX11_enough_81 ?_
    refine g_i2l dX11_enough_82 ?_
    refine g_cVv (st := []) (av := [vL (w32 (y3 - (m2 301 (w32 (129 + l3)).toNat)))]) (kX11_tell h) kd_300 rfl cw_RX11_155 (by decide) (by decide) (Nat.le_of_ble_eq_true rfl) rfl dX11_enough_83 (fun m4 h => ?_)
    refine g_iload_n dX11_enough_86 rfl ?_
    exact g_iret hR dX11_enough_87 h
  · replace h := hB hc
    refine g_iinc (lv' := [(3, vI (w32 (l3 + 1))), (0, vR 300), (1, vI l1), (2, vI l2)]) dX11_enough_51 rfl (by decide) rfl ?_
    refine g_loc (a := w32 (l3 + 1)) (i := 3) (lv := [(0, vR 300), (1, vI l1), (2, vI l2)]) (fun x5 ex5 => ?_)
    replace h := h x5 ex5
    refine g_goto (tgt := 43) dX11_enough_54 (by decide) ?_
    refine g_lv (lv' := [(0, vR 300), (1, vI l1), (2, vI l2), (3, vI x5)]) [1, 2, 3, 0] rfl ?_
    exact hK43 ((l1, l2, x5)) σ h
theorem eX11_enough_43 {E : TE} {Q : Int → Mem → Prop} (hR : RI E (some .int) Q) {l1 : Int} {l2 : Int} {l3 : Int} {σ : Mem} (h : wLX11_enough_43 Q l1 l2 l3 σ) : GW E cX11_enough 4 RX11 4 93 σ 43 [(0, vR 300), (1, vI l1), (2, vI l2), (3, vI l3)] [] := by
  obtain ⟨n, h⟩ := h
  exact lp_GW (P := fun (x : Int × Int × Int) (σ : Mem) => GW E cX11_enough 4 RX11 4 93 σ 43 [(0, vR 300), (1, vI x.1), (2, vI x.2.1), (3, vI x.2.2)] []) (fun K hK x σ h  => bX11_enough_43 hK hR h) n _ σ h 
set_option maxHeartbeats 1000000 in
theorem kX11_enough {l1 : Int} {σ : Mem} {Q : Int → Mem → Prop} (h : wX11_enough l1 σ Q) (l : Launch) (D : va_G) (cy : Nat → ClassId) (ad : Nat → Nat) : MI l yX11_enough cX11_enough 4 (some .int) 4 93 D cy ad [vR 300, vI l1] σ Q := by
  refine m_I (own := RX11) (lv := [(0, vR 300), (1, vI l1)]) (by decide +kernel) rfl (Nat.le_of_ble_eq_true rfl) rfl (fun E hR => ?_) l D cy ad
  unfold wX11_enough at h
  refine g_aload_n dX11_enough_0 rfl ?_
  refine g_iconst dX11_enough_1 0 rfl (by decide) ?_
  refine g_putI fp_11_68 kd_300 rfl dX11_enough_2 ?_
  refine g_nm (fun m1 em1 => ?_)
  replace h := h m1 em1
  refine g_aload_n dX11_enough_5 rfl ?_
  refine g_iload_n dX11_enough_6 rfl ?_
  refine g_cVi (st := []) (av := [vI l1]) (kX11_isMember h) kd_300 rfl cw_RX11_78 (by decide) (by decide) (Nat.le_of_ble_eq_true rfl) rfl dX11_enough_7 (fun y3 m2 h => ?_)
  obtain ⟨hA, hB⟩ := h
  refine g_if_ne (tgt := 15) dX11_enough_10 (by decide) (fun hc => ?_) (fun hc => ?_)
  · replace h := hA hc
    refine g_aload_n dX11_enough_15 rfl ?_
    refine g_iconst dX11_enough_16 1 rfl (by decide) ?_
    refine g_iload_n dX11_enough_17 rfl ?_
    refine g_ishl dX11_enough_18 ?_
    refine g_cVi (st := []) (av := [vI (bshl 1 l1)]) (kX11_nextFailing h) kd_300 rfl cw_RX11_304 (by decide) (by decide) (Nat.le_of_ble_eq_true rfl) rfl dX11_enough_19 (fun y5 m4 h => ?_)
    refine g_istore_n (lv' := [(2, vI y5), (0, vR 300), (1, vI l1)]) dX11_enough_22 (by decide) rfl ?_
    refine g_iload_n dX11_enough_23 rfl ?_
    obtain ⟨hA, hB⟩ := h
    refine g_if_ne (tgt := 30) dX11_enough_24 (by decide) (fun hc => ?_) (fun hc => ?_)
    · replace h := hA hc
      refine g_iload_n dX11_enough_30 rfl ?_
      refine g_cSi (st := []) (av := [vI y5]) (kX11_countBits h) cw_RX11_204 (by decide) (by decide) (Nat.le_of_ble_eq_true rfl) rfl dX11_enough_31 (fun y7 m6 h => ?_)
      refine g_iconst dX11_enough_34 1 rfl (by decide) ?_
      obtain ⟨hA, hB⟩ := h
      refine g_icmp_le (tgt := 41) dX11_enough_35 (by decide) (fun hc => ?_) (fun hc => ?_)
      · replace h := hA hc
        refine g_iconst dX11_enough_41 0 rfl (by decide) ?_
        refine g_istore_n (lv' := [(3, vI 0), (2, vI y5), (0, vR 300), (1, vI l1)]) dX11_enough_42 (by decide) rfl ?_
        refine g_lv (lv' := [(0, vR 300), (1, vI l1), (2, vI y5), (3, vI 0)]) [2, 3, 1, 0] rfl ?_
        exact eX11_enough_43 hR h
      · replace h := hB hc
        refine g_bipush dX11_enough_38 (-3) rfl (by decide) ?_
        exact g_iret hR dX11_enough_40 h
    · replace h := hB hc
      refine g_bipush dX11_enough_27 (-2) rfl (by decide) ?_
      exact g_iret hR dX11_enough_29 h
  · replace h := hB hc
    refine g_iconst dX11_enough_13 (-1) rfl (by decide) ?_
    exact g_iret hR dX11_enough_14 h
def wX11_raiseOf_17 (K17 : (Int × Int × Int × Int × Int × Int × Int × Int) → Mem → Prop) (Q : Int → Mem → Prop) (l1 : Int) (l2 : Int) (l3 : Int) (l4 : Int) (l5 : Int) (l6 : Int) (l7 : Int) (l8 : Int) (σ : Mem) : Prop := ((l8 ≤ w32 (l7 + 1) → (wX11_pair l1 l2 σ (fun y2 m1 => ((0 ≤ w32 (1 + y2) ∧ w32 (1 + y2) < 405) ∧ (∀ m3 : Mem, m3 = up2 m1 301 (w32 (1 + y2)).toNat l6 → ((l8 ≤ 999 → Q (w32 (l8 - l6)) m3) ∧ (¬ l8 ≤ 999 → Q ((-1)) m3))))))) ∧ (¬ l8 ≤ w32 (l7 + 1) → (∀ x4 : Int, x4 = bdiv (w32 (l7 + l8)) 2 → (wX11_pair l1 l2 σ (fun y6 m5 => ((0 ≤ w32 (1 + y6) ∧ w32 (1 + y6) < 405) ∧ (∀ m7 : Mem, m7 = up2 m5 301 (w32 (1 + y6)).toNat x4 → (wX11_mostOf l3 l4 m7 (fun y9 m8 => ((y9 < l5 → K17 (l1, l2, l3, l4, l5, l6, x4, l8) m8) ∧ (¬ y9 < l5 → K17 (l1, l2, l3, l4, l5, l6, l7, x4) m8)))))))))))
def wLX11_raiseOf_17 (Q : Int → Mem → Prop) (l1 : Int) (l2 : Int) (l3 : Int) (l4 : Int) (l5 : Int) (l6 : Int) (l7 : Int) (l8 : Int) (σ : Mem) : Prop := ∃ n, lp (fun (K17 : (Int × Int × Int × Int × Int × Int × Int × Int) → Mem → Prop) (x : Int × Int × Int × Int × Int × Int × Int × Int) (σ : Mem) => wX11_raiseOf_17 K17 Q x.1 x.2.1 x.2.2.1 x.2.2.2.1 x.2.2.2.2.1 x.2.2.2.2.2.1 x.2.2.2.2.2.2.1 x.2.2.2.2.2.2.2 σ) n (l1, l2, l3, l4, l5, l6, l7, l8) σ
def wX11_raiseOf (l1 : Int) (l2 : Int) (l3 : Int) (l4 : Int) (l5 : Int) (σ : Mem) (Q : Int → Mem → Prop) : Prop := (wX11_limit l1 l2 σ (fun y2 m1 => wLX11_raiseOf_17 Q l1 l2 l3 l4 l5 y2 y2 1000 m1))
set_option maxHeartbeats 1000000 in
theorem bX11_raiseOf_17 {E : TE} {K17 : (Int × Int × Int × Int × Int × Int × Int × Int) → Mem → Prop} (hK17 : ∀ (x : Int × Int × Int × Int × Int × Int × Int × Int) (σ : Mem), K17 x σ → GW E cX11_raiseOf 10 RX11 8 192 σ 17 [(0, vR 300), (1, vI x.1), (2, vI x.2.1), (3, vI x.2.2.1), (4, vI x.2.2.2.1), (5, vI x.2.2.2.2.1), (6, vI x.2.2.2.2.2.1), (7, vI x.2.2.2.2.2.2.1), (8, vI x.2.2.2.2.2.2.2)] []) {Q : Int → Mem → Prop} (hR : RI E (some .int) Q) {l1 : Int} {l2 : Int} {l3 : Int} {l4 : Int} {l5 : Int} {l6 : Int} {l7 : Int} {l8 : Int} {σ : Mem} (h : wX11_raiseOf_17 K17 Q l1 l2 l3 l4 l5 l6 l7 l8 σ) : GW E cX11_raiseOf 10 RX11 8 192 σ 17 [(0, vR 300), (1, vI l1), (2, vI l2), (3, vI l3), (4, vI l4), (5, vI l5), (6, vI l6), (7, vI l7), (8, vI l8)] [] := by
  unfold wX11_raiseOf_17 at h
  refine g_iload dX11_raiseOf_17 rfl ?_
  refine g_iconst dX11_raiseOf_19 1 rfl (by decide) ?_
  refine g_iadd dX11_raiseOf_20 ?_
  refine g_iload dX11_raiseOf_21 rfl ?_
  obtain ⟨hA, hB⟩ := h
  refine g_icmp_ge (tgt := 75) dX11_raiseOf_23 (by decide) (fun hc => ?_) (fun hc => ?_)
  · replace h := hA hc
    refine g_aload_n dX11_raiseOf_75 rfl ?_
    refine g_getR (r := 301) fl_11_9 kd_300 rfl dX11_raiseOf_76 ?_
    refine g_iconst dX11_raiseOf_79 1 rfl (by decide) ?_
    refine g_iload_n dX11_raiseOf_80 rfl ?_
    refine g_iload_n dX11_raiseOf_81 rfl ?_
    refine g_cSi (st := [vI 1, vR 301]) (av := [vI l1, vI l2]) (kX11_pair h) cw_RX11_82 (by decide) (by decide) (Nat.le_of_ble_eq_true rfl) rfl dX11_raiseOf_82 (fun y2 m1 h => ?_)
    refine g_iadd dX11_raiseOf_85 ?_
    refine g_iload dX11_raiseOf_86 rfl ?_
    obtain ⟨hin, h⟩ := h
    refine g_iast kd_301 hin dX11_raiseOf_88 ?_
    refine g_nm (fun m3 em3 => ?_)
    replace h := h m3 em3
    refine g_iload dX11_raiseOf_89 rfl ?_
    refine g_sipush dX11_raiseOf_91 999 rfl (by decide) ?_
    obtain ⟨hA, hB⟩ := h
    refine g_icmp_le (tgt := 101) dX11_raiseOf_94 (by decide) (fun hc => ?_) (fun hc => ?_)
    · replace h := hA hc
      refine g_iload dX11_raiseOf_101 rfl ?_
      refine g_iload dX11_raiseOf_103 rfl ?_
      refine g_isub dX11_raiseOf_105 ?_
      exact g_iret hR dX11_raiseOf_106 h
    · replace h := hB hc
      refine g_iconst dX11_raiseOf_97 (-1) rfl (by decide) ?_
      refine g_goto (tgt := 106) dX11_raiseOf_98 (by decide) ?_
      exact g_iret hR dX11_raiseOf_106 h
  · replace h := hB hc
    refine g_iload dX11_raiseOf_26 rfl ?_
    refine g_iload dX11_raiseOf_28 rfl ?_
    refine g_iadd dX11_raiseOf_30 ?_
    refine g_iconst dX11_raiseOf_31 2 rfl (by decide) ?_
    refine g_idiv dX11_raiseOf_32 (by decide) ?_
    refine g_topI (fun x4 ex4 => ?_)
    replace h := h x4 ex4
    refine g_istore (lv' := [(9, vI x4), (0, vR 300), (1, vI l1), (2, vI l2), (3, vI l3), (4, vI l4), (5, vI l5), (6, vI l6), (7, vI l7), (8, vI l8)]) dX11_raiseOf_33 (by decide) rfl ?_
    refine g_aload_n dX11_raiseOf_35 rfl ?_
    refine g_getR (r := 301) fl_11_9 kd_300 rfl dX11_raiseOf_36 ?_
    refine g_iconst dX11_raiseOf_39 1 rfl (by decide) ?_
    refine g_iload_n dX11_raiseOf_40 rfl ?_
    refine g_iload_n dX11_raiseOf_41 rfl ?_
    refine g_cSi (st := [vI 1, vR 301]) (av := [vI l1, vI l2]) (kX11_pair h) cw_RX11_82 (by decide) (by decide) (Nat.le_of_ble_eq_true rfl) rfl dX11_raiseOf_42 (fun y6 m5 h => ?_)
    refine g_iadd dX11_raiseOf_45 ?_
    refine g_iload dX11_raiseOf_46 rfl ?_
    obtain ⟨hin, h⟩ := h
    refine g_iast kd_301 hin dX11_raiseOf_48 ?_
    refine g_nm (fun m7 em7 => ?_)
    replace h := h m7 em7
    refine g_aload_n dX11_raiseOf_49 rfl ?_
    refine g_iload_n dX11_raiseOf_50 rfl ?_
    refine g_iload dX11_raiseOf_51 rfl ?_
    refine g_cVi (st := []) (av := [vI l3, vI l4]) (kX11_mostOf h) kd_300 rfl cw_RX11_235 (by decide) (by decide) (Nat.le_of_ble_eq_true rfl) rfl dX11_raiseOf_53 (fun y9 m8 h => ?_)
    refine g_iload dX11_raiseOf_56 rfl ?_
    obtain ⟨hA, hB⟩ := h
    refine g_icmp_lt (tgt := 68) dX11_raiseOf_58 (by decide) (fun hc => ?_) (fun hc => ?_)
    · replace h := hA hc
      refine g_iload dX11_raiseOf_68 rfl ?_
      refine g_istore (lv' := [(7, vI x4), (9, vI x4), (0, vR 300), (1, vI l1), (2, vI l2), (3, vI l3), (4, vI l4), (5, vI l5), (6, vI l6), (8, vI l8)]) dX11_raiseOf_70 (by decide) rfl ?_
      refine g_goto (tgt := 17) dX11_raiseOf_72 (by decide) ?_
      refine g_lv (lv' := [(0, vR 300), (1, vI l1), (2, vI l2), (3, vI l3), (4, vI l4), (5, vI l5), (6, vI l6), (7, vI x4), (8, vI l8)]) [2, 3, 4, 5, 6, 7, 8, 0, 9] rfl ?_
      exact hK17 ((l1, l2, l3, l4, l5, l6, x4, l8)) m8 h
    · replace h := hB hc
      refine g_iload dX11_raiseOf_61 rfl ?_
      refine g_istore (lv' := [(8, vI x4), (9, vI x4), (0, vR 300), (1, vI l1), (2, vI l2), (3, vI l3), (4, vI l4), (5, vI l5), (6, vI l6), (7, vI l7)]) dX11_raiseOf_63 (by decide) rfl ?_
      refine g_goto (tgt := 72) dX11_raiseOf_65 (by decide) ?_
      refine g_goto (tgt := 17) dX11_raiseOf_72 (by decide) ?_
      refine g_lv (lv' := [(0, vR 300), (1, vI l1), (2, vI l2), (3, vI l3), (4, vI l4), (5, vI l5), (6, vI l6), (7, vI l7), (8, vI x4)]) [2, 3, 4, 5, 6, 7, 8, 9, 0] rfl ?_
      exact hK17 ((l1, l2, l3, l4, l5, l6, l7, x4)) m8 h
theorem eX11_raiseOf_17 {E : TE} {Q : Int → Mem → Prop} (hR : RI E (some .int) Q) {l1 : Int} {l2 : Int} {l3 : Int} {l4 : Int} {l5 : Int} {l6 : Int} {l7 : Int} {l8 : Int} {σ : Mem} (h : wLX11_raiseOf_17 Q l1 l2 l3 l4 l5 l6 l7 l8 σ) : GW E cX11_raiseOf 10 RX11 8 192 σ 17 [(0, vR 300), (1, vI l1), (2, vI l2), (3, vI l3), (4, vI l4), (5, vI l5), (6, vI l6), (7, vI l7), (8, vI l8)] [] := by
  obtain ⟨n, h⟩ := h
  exact lp_GW (P := fun (x : Int × Int × Int × Int × Int × Int × Int × Int) (σ : Mem) => GW E cX11_raiseOf 10 RX11 8 192 σ 17 [(0, vR 300), (1, vI x.1), (2, vI x.2.1), (3, vI x.2.2.1), (4, vI x.2.2.2.1), (5, vI x.2.2.2.2.1), (6, vI x.2.2.2.2.2.1), (7, vI x.2.2.2.2.2.2.1), (8, vI x.2.2.2.2.2.2.2)] []) (fun K hK x σ h  => bX11_raiseOf_17 hK hR h) n _ σ h 
set_option maxHeartbeats 1000000 in
theorem kX11_raiseOf {l1 : Int} {l2 : Int} {l3 : Int} {l4 : Int} {l5 : Int} {σ : Mem} {Q : Int → Mem → Prop} (h : wX11_raiseOf l1 l2 l3 l4 l5 σ Q) (l : Launch) (D : va_G) (cy : Nat → ClassId) (ad : Nat → Nat) : MI l yX11_raiseOf cX11_raiseOf 10 (some .int) 8 192 D cy ad [vR 300, vI l1, vI l2, vI l3, vI l4, vI l5] σ Q := by
  refine m_I (own := RX11) (lv := [(0, vR 300), (1, vI l1), (2, vI l2), (3, vI l3), (4, vI l4), (5, vI l5)]) (by decide +kernel) rfl (Nat.le_of_ble_eq_true rfl) rfl (fun E hR => ?_) l D cy ad
  unfold wX11_raiseOf at h
  refine g_aload_n dX11_raiseOf_0 rfl ?_
  refine g_iload_n dX11_raiseOf_1 rfl ?_
  refine g_iload_n dX11_raiseOf_2 rfl ?_
  refine g_cVi (st := []) (av := [vI l1, vI l2]) (kX11_limit h) kd_300 rfl cw_RX11_95 (by decide) (by decide) (Nat.le_of_ble_eq_true rfl) rfl dX11_raiseOf_3 (fun y2 m1 h => ?_)
  refine g_istore (lv' := [(6, vI y2), (0, vR 300), (1, vI l1), (2, vI l2), (3, vI l3), (4, vI l4), (5, vI l5)]) dX11_raiseOf_6 (by decide) rfl ?_
  refine g_iload dX11_raiseOf_8 rfl ?_
  refine g_istore (lv' := [(7, vI y2), (6, vI y2), (0, vR 300), (1, vI l1), (2, vI l2), (3, vI l3), (4, vI l4), (5, vI l5)]) dX11_raiseOf_10 (by decide) rfl ?_
  refine g_sipush dX11_raiseOf_12 1000 rfl (by decide) ?_
  refine g_istore (lv' := [(8, vI 1000), (7, vI y2), (6, vI y2), (0, vR 300), (1, vI l1), (2, vI l2), (3, vI l3), (4, vI l4), (5, vI l5)]) dX11_raiseOf_15 (by decide) rfl ?_
  refine g_lv (lv' := [(0, vR 300), (1, vI l1), (2, vI l2), (3, vI l3), (4, vI l4), (5, vI l5), (6, vI y2), (7, vI y2), (8, vI 1000)]) [3, 4, 5, 6, 7, 8, 2, 1, 0] rfl ?_
  exact eX11_raiseOf_17 hR h
