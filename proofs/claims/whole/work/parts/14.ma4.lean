def wX11_raise_110 (K39 : (Int × Int × Int × Int × Int × Int) → Mem → Prop) (K53 : (Int × Int × Int × Int × Int × Int × Int) → Mem → Prop) (Q : Int → Mem → Prop) (l1 : Int) (l2 : Int) (l3 : Int) (l6 : Int) (l7 : Int) (l8 : Int) (σ : Mem) : Prop := (∀ x1 : Int, x1 = w32 ((w32 (10 * l6)) + l7) → (∀ x2 : Int, x2 = w32 (l7 + 1) → K53 (l1, l2, l3, x1, l8, l6, x2) σ))
def wX11_raise_86 (K39 : (Int × Int × Int × Int × Int × Int) → Mem → Prop) (K53 : (Int × Int × Int × Int × Int × Int × Int) → Mem → Prop) (Q : Int → Mem → Prop) (l1 : Int) (l2 : Int) (l3 : Int) (l4 : Int) (l5 : Int) (l6 : Int) (l7 : Int) (s0 : Int) (σ : Mem) : Prop := ((s0 = (-1) → (∀ x1 : Int, x1 = w32 (l7 + 1) → K53 (l1, l2, l3, l4, l5, l6, x1) σ)) ∧ (¬ s0 = (-1) → ((l4 = (-1) → wX11_raise_110 K39 K53 Q l1 l2 l3 l6 l7 s0 σ) ∧ (¬ l4 = (-1) → ((s0 < l5 → wX11_raise_110 K39 K53 Q l1 l2 l3 l6 l7 s0 σ) ∧ (¬ s0 < l5 → (∀ x2 : Int, x2 = w32 (l7 + 1) → K53 (l1, l2, l3, l4, l5, l6, x2) σ)))))))
def wX11_raise_53 (K39 : (Int × Int × Int × Int × Int × Int) → Mem → Prop) (K53 : (Int × Int × Int × Int × Int × Int × Int) → Mem → Prop) (Q : Int → Mem → Prop) (l1 : Int) (l2 : Int) (l3 : Int) (l4 : Int) (l5 : Int) (l6 : Int) (l7 : Int) (σ : Mem) : Prop := ((σ 301 0 ≤ l7 → (∀ x1 : Int, x1 = w32 (l6 + 1) → K39 (l1, l2, l3, l4, l5, x1) σ)) ∧ (¬ σ 301 0 ≤ l7 → ((¬ l6 = l7 → (wX11_raiseOf l6 l7 l1 l2 l3 σ (fun y3 m2 => wX11_raise_86 K39 K53 Q l1 l2 l3 l4 l5 l6 l7 y3 m2))) ∧ (l6 = l7 → wX11_raise_86 K39 K53 Q l1 l2 l3 l4 l5 l6 l7 ((-1)) σ))))
def wLX11_raise_53 (K39 : (Int × Int × Int × Int × Int × Int) → Mem → Prop) (Q : Int → Mem → Prop) (l1 : Int) (l2 : Int) (l3 : Int) (l4 : Int) (l5 : Int) (l6 : Int) (l7 : Int) (σ : Mem) : Prop := ∃ n, lp (fun (K53 : (Int × Int × Int × Int × Int × Int × Int) → Mem → Prop) (x : Int × Int × Int × Int × Int × Int × Int) (σ : Mem) => wX11_raise_53 K39 K53 Q x.1 x.2.1 x.2.2.1 x.2.2.2.1 x.2.2.2.2.1 x.2.2.2.2.2.1 x.2.2.2.2.2.2 σ) n (l1, l2, l3, l4, l5, l6, l7) σ
def wX11_raise_39 (K39 : (Int × Int × Int × Int × Int × Int) → Mem → Prop) (Q : Int → Mem → Prop) (l1 : Int) (l2 : Int) (l3 : Int) (l4 : Int) (l5 : Int) (l6 : Int) (σ : Mem) : Prop := ((σ 301 0 ≤ l6 → ((¬ l4 = (-1) → (∀ m1 : Mem, m1 = up2 σ 300 4 0 → (wX11_tell l5 m1 (fun m2 => Q l4 m2)))) ∧ (l4 = (-1) → Q ((-3)) σ))) ∧ (¬ σ 301 0 ≤ l6 → wLX11_raise_53 K39 Q l1 l2 l3 l4 l5 l6 0 σ))
def wLX11_raise_39 (Q : Int → Mem → Prop) (l1 : Int) (l2 : Int) (l3 : Int) (l4 : Int) (l5 : Int) (l6 : Int) (σ : Mem) : Prop := ∃ n, lp (fun (K39 : (Int × Int × Int × Int × Int × Int) → Mem → Prop) (x : Int × Int × Int × Int × Int × Int) (σ : Mem) => wX11_raise_39 K39 Q x.1 x.2.1 x.2.2.1 x.2.2.2.1 x.2.2.2.2.1 x.2.2.2.2.2 σ) n (l1, l2, l3, l4, l5, l6) σ
def wX11_raise (l1 : Int) (l2 : Int) (l3 : Int) (σ : Mem) (Q : Int → Mem → Prop) : Prop := (∀ m1 : Mem, m1 = up2 σ 300 5 0 → (wX11_isPayment l1 l2 l3 m1 (fun y3 m2 => ((¬ y3 = 0 → (wX11_mostOf l1 l2 m2 (fun y5 m4 => ((y5 < l3 → wLX11_raise_39 Q l1 l2 l3 ((-1)) 0 0 m4) ∧ (¬ y5 < l3 → Q ((-2)) m4))))) ∧ (y3 = 0 → Q ((-1)) m2)))))
set_option maxHeartbeats 1000000 in
theorem bX11_raise_110 {E : TE} {K39 : (Int × Int × Int × Int × Int × Int) → Mem → Prop} {K53 : (Int × Int × Int × Int × Int × Int × Int) → Mem → Prop} (hK39 : ∀ (x : Int × Int × Int × Int × Int × Int) (σ : Mem), K39 x σ → GW E cX11_raise 9 RX11 9 221 σ 39 [(0, vR 300), (1, vI x.1), (2, vI x.2.1), (3, vI x.2.2.1), (4, vI x.2.2.2.1), (5, vI x.2.2.2.2.1), (6, vI x.2.2.2.2.2)] []) (hK53 : ∀ (x : Int × Int × Int × Int × Int × Int × Int) (σ : Mem), K53 x σ → GW E cX11_raise 9 RX11 9 221 σ 53 [(0, vR 300), (1, vI x.1), (2, vI x.2.1), (3, vI x.2.2.1), (4, vI x.2.2.2.1), (5, vI x.2.2.2.2.1), (6, vI x.2.2.2.2.2.1), (7, vI x.2.2.2.2.2.2)] []) {Q : Int → Mem → Prop} (hR : RI E (some .int) Q) {l1 : Int} {l2 : Int} {l3 : Int} {l6 : Int} {l7 : Int} {l8 : Int} {σ : Mem} (h : wX11_raise_110 K39 K53 Q l1 l2 l3 l6 l7 l8 σ) : GW E cX11_raise 9 RX11 9 221 σ 110 [(0, vR 300), (1, vI l1), (2, vI l2), (3, vI l3), (6, vI l6), (7, vI l7), (8, vI l8)] [] := by
  unfold wX11_raise_110 at h
  refine g_bipush dX11_raise_110 10 rfl (by decide) ?_
  refine g_iload dX11_raise_112 rfl ?_
  refine g_imul dX11_raise_114 ?_
  refine g_iload dX11_raise_115 rfl ?_
  refine g_iadd dX11_raise_117 ?_
  refine g_topI (fun x1 ex1 => ?_)
  replace h := h x1 ex1
  refine g_istore (lv' := [(4, vI x1), (0, vR 300), (1, vI l1), (2, vI l2), (3, vI l3), (6, vI l6), (7, vI l7), (8, vI l8)]) dX11_raise_118 (by decide) rfl ?_
  refine g_iload dX11_raise_120 rfl ?_
  refine g_istore (lv' := [(5, vI l8), (4, vI x1), (0, vR 300), (1, vI l1), (2, vI l2), (3, vI l3), (6, vI l6), (7, vI l7), (8, vI l8)]) dX11_raise_122 (by decide) rfl ?_
  refine g_iinc (lv' := [(7, vI (w32 (l7 + 1))), (5, vI l8), (4, vI x1), (0, vR 300), (1, vI l1), (2, vI l2), (3, vI l3), (6, vI l6), (8, vI l8)]) dX11_raise_124 rfl (by decide) rfl ?_
  refine g_loc (a := w32 (l7 + 1)) (i := 7) (lv := [(5, vI l8), (4, vI x1), (0, vR 300), (1, vI l1), (2, vI l2), (3, vI l3), (6, vI l6), (8, vI l8)]) (fun x2 ex2 => ?_)
  replace h := h x2 ex2
  refine g_goto (tgt := 53) dX11_raise_127 (by decide) ?_
  refine g_lv (lv' := [(0, vR 300), (1, vI l1), (2, vI l2), (3, vI l3), (4, vI x1), (5, vI l8), (6, vI l6), (7, vI x2)]) [3, 4, 5, 6, 2, 1, 7, 0] rfl ?_
  exact hK53 ((l1, l2, l3, x1, l8, l6, x2)) σ h
set_option maxHeartbeats 1000000 in
theorem bX11_raise_86 {E : TE} {K39 : (Int × Int × Int × Int × Int × Int) → Mem → Prop} {K53 : (Int × Int × Int × Int × Int × Int × Int) → Mem → Prop} (hK39 : ∀ (x : Int × Int × Int × Int × Int × Int) (σ : Mem), K39 x σ → GW E cX11_raise 9 RX11 9 221 σ 39 [(0, vR 300), (1, vI x.1), (2, vI x.2.1), (3, vI x.2.2.1), (4, vI x.2.2.2.1), (5, vI x.2.2.2.2.1), (6, vI x.2.2.2.2.2)] []) (hK53 : ∀ (x : Int × Int × Int × Int × Int × Int × Int) (σ : Mem), K53 x σ → GW E cX11_raise 9 RX11 9 221 σ 53 [(0, vR 300), (1, vI x.1), (2, vI x.2.1), (3, vI x.2.2.1), (4, vI x.2.2.2.1), (5, vI x.2.2.2.2.1), (6, vI x.2.2.2.2.2.1), (7, vI x.2.2.2.2.2.2)] []) {Q : Int → Mem → Prop} (hR : RI E (some .int) Q) {l1 : Int} {l2 : Int} {l3 : Int} {l4 : Int} {l5 : Int} {l6 : Int} {l7 : Int} {s0 : Int} {σ : Mem} (h : wX11_raise_86 K39 K53 Q l1 l2 l3 l4 l5 l6 l7 s0 σ) : GW E cX11_raise 9 RX11 9 221 σ 86 [(0, vR 300), (1, vI l1), (2, vI l2), (3, vI l3), (4, vI l4), (5, vI l5), (6, vI l6), (7, vI l7)] [vI s0] := by
  unfold wX11_raise_86 at h
  refine g_istore (lv' := [(8, vI s0), (0, vR 300), (1, vI l1), (2, vI l2), (3, vI l3), (4, vI l4), (5, vI l5), (6, vI l6), (7, vI l7)]) dX11_raise_86 (by decide) rfl ?_
  refine g_iload dX11_raise_88 rfl ?_
  refine g_iconst dX11_raise_90 (-1) rfl (by decide) ?_
  obtain ⟨hA, hB⟩ := h
  refine g_icmp_eq (tgt := 124) dX11_raise_91 (by decide) (fun hc => ?_) (fun hc => ?_)
  · replace h := hA hc
    refine g_iinc (lv' := [(7, vI (w32 (l7 + 1))), (8, vI s0), (0, vR 300), (1, vI l1), (2, vI l2), (3, vI l3), (4, vI l4), (5, vI l5), (6, vI l6)]) dX11_raise_124 rfl (by decide) rfl ?_
    refine g_loc (a := w32 (l7 + 1)) (i := 7) (lv := [(8, vI s0), (0, vR 300), (1, vI l1), (2, vI l2), (3, vI l3), (4, vI l4), (5, vI l5), (6, vI l6)]) (fun x1 ex1 => ?_)
    replace h := h x1 ex1
    refine g_goto (tgt := 53) dX11_raise_127 (by decide) ?_
    refine g_lv (lv' := [(0, vR 300), (1, vI l1), (2, vI l2), (3, vI l3), (4, vI l4), (5, vI l5), (6, vI l6), (7, vI x1)]) [2, 3, 4, 5, 6, 7, 8, 0] rfl ?_
    exact hK53 ((l1, l2, l3, l4, l5, l6, x1)) σ h
  · replace h := hB hc
    refine g_iload dX11_raise_94 rfl ?_
    refine g_iconst dX11_raise_96 (-1) rfl (by decide) ?_
    obtain ⟨hA, hB⟩ := h
    refine g_icmp_eq (tgt := 110) dX11_raise_97 (by decide) (fun hc => ?_) (fun hc => ?_)
    · replace h := hA hc
      refine g_lv (lv' := [(0, vR 300), (1, vI l1), (2, vI l2), (3, vI l3), (6, vI l6), (7, vI l7), (8, vI s0)]) [1, 2, 3, 4, 7, 8, 0] rfl ?_
      exact bX11_raise_110 hK39 hK53 hR h
    · replace h := hB hc
      refine g_iload dX11_raise_100 rfl ?_
      refine g_iload dX11_raise_102 rfl ?_
      obtain ⟨hA, hB⟩ := h
      refine g_icmp_lt (tgt := 110) dX11_raise_104 (by decide) (fun hc => ?_) (fun hc => ?_)
      · replace h := hA hc
        refine g_lv (lv' := [(0, vR 300), (1, vI l1), (2, vI l2), (3, vI l3), (6, vI l6), (7, vI l7), (8, vI s0)]) [1, 2, 3, 4, 7, 8, 0] rfl ?_
        exact bX11_raise_110 hK39 hK53 hR h
      · replace h := hB hc
        refine g_goto (tgt := 124) dX11_raise_107 (by decide) ?_
        refine g_iinc (lv' := [(7, vI (w32 (l7 + 1))), (8, vI s0), (0, vR 300), (1, vI l1), (2, vI l2), (3, vI l3), (4, vI l4), (5, vI l5), (6, vI l6)]) dX11_raise_124 rfl (by decide) rfl ?_
        refine g_loc (a := w32 (l7 + 1)) (i := 7) (lv := [(8, vI s0), (0, vR 300), (1, vI l1), (2, vI l2), (3, vI l3), (4, vI l4), (5, vI l5), (6, vI l6)]) (fun x2 ex2 => ?_)
        replace h := h x2 ex2
        refine g_goto (tgt := 53) dX11_raise_127 (by decide) ?_
        refine g_lv (lv' := [(0, vR 300), (1, vI l1), (2, vI l2), (3, vI l3), (4, vI l4), (5, vI l5), (6, vI l6), (7, vI x2)]) [2, 3, 4, 5, 6, 7, 8, 0] rfl ?_
        exact hK53 ((l1, l2, l3, l4, l5, l6, x2)) σ h
set_option maxHeartbeats 1000000 in
theorem bX11_raise_53 {E : TE} {K39 : (Int × Int × Int × Int × Int × Int) → Mem → Prop} {K53 : (Int × Int × Int × Int × Int × Int × Int) → Mem → Prop} (hK39 : ∀ (x : Int × Int × Int × Int × Int × Int) (σ : Mem), K39 x σ → GW E cX11_raise 9 RX11 9 221 σ 39 [(0, vR 300), (1, vI x.1), (2, vI x.2.1), (3, vI x.2.2.1), (4, vI x.2.2.2.1), (5, vI x.2.2.2.2.1), (6, vI x.2.2.2.2.2)] []) (hK53 : ∀ (x : Int × Int × Int × Int × Int × Int × Int) (σ : Mem), K53 x σ → GW E cX11_raise 9 RX11 9 221 σ 53 [(0, vR 300), (1, vI x.1), (2, vI x.2.1), (3, vI x.2.2.1), (4, vI x.2.2.2.1), (5, vI x.2.2.2.2.1), (6, vI x.2.2.2.2.2.1), (7, vI x.2.2.2.2.2.2)] []) {Q : Int → Mem → Prop} (hR : RI E (some .int) Q) {l1 : Int} {l2 : Int} {l3 : Int} {l4 : Int} {l5 : Int} {l6 : Int} {l7 : Int} {σ : Mem} (h : wX11_raise_53 K39 K53 Q l1 l2 l3 l4 l5 l6 l7 σ) : GW E cX11_raise 9 RX11 9 221 σ 53 [(0, vR 300), (1, vI l1), (2, vI l2), (3, vI l3), (4, vI l4), (5, vI l5), (6, vI l6), (7, vI l7)] [] := by
  unfold wX11_raise_53 at h
  refine g_iload dX11_raise_53 rfl ?_
  refine g_aload_n dX11_raise_55 rfl ?_
  refine g_getR (r := 301) fl_11_9 kd_300 rfl dX11_raise_56 ?_
  refine g_iconst dX11_raise_59 0 rfl (by decide) ?_
  refine g_iald kd_301 (by decide) dX11_raise_60 ?_
  obtain ⟨hA, hB⟩ := h
  refine g_icmp_ge (tgt := 130) dX11_raise_61 (by decide) (fun hc => ?_) (fun hc => ?_)
  · replace h := hA hc
    refine g_iinc (lv' := [(6, vI (w32 (l6 + 1))), (0, vR 300), (1, vI l1), (2, vI l2), (3, vI l3), (4, vI l4), (5, vI l5), (7, vI l7)]) dX11_raise_130 rfl (by decide) rfl ?_
    refine g_loc (a := w32 (l6 + 1)) (i := 6) (lv := [(0, vR 300), (1, vI l1), (2, vI l2), (3, vI l3), (4, vI l4), (5, vI l5), (7, vI l7)]) (fun x1 ex1 => ?_)
    replace h := h x1 ex1
    refine g_goto (tgt := 39) dX11_raise_133 (by decide) ?_
    refine g_lv (lv' := [(0, vR 300), (1, vI l1), (2, vI l2), (3, vI l3), (4, vI l4), (5, vI l5), (6, vI x1)]) [1, 2, 3, 4, 5, 6, 0] rfl ?_
    exact hK39 ((l1, l2, l3, l4, l5, x1)) σ h
  · replace h := hB hc
    refine g_iload dX11_raise_64 rfl ?_
    refine g_iload dX11_raise_66 rfl ?_
    obtain ⟨hA, hB⟩ := h
    refine g_icmp_ne (tgt := 75) dX11_raise_68 (by decide) (fun hc => ?_) (fun hc => ?_)
    · replace h := hA hc
      refine g_aload_n dX11_raise_75 rfl ?_
      refine g_iload dX11_raise_76 rfl ?_
      refine g_iload dX11_raise_78 rfl ?_
      refine g_iload_n dX11_raise_80 rfl ?_
      refine g_iload_n dX11_raise_81 rfl ?_
      refine g_iload_n dX11_raise_82 rfl ?_
      refine g_cVi (st := []) (av := [vI l6, vI l7, vI l1, vI l2, vI l3]) (kX11_raiseOf h) kd_300 rfl cw_RX11_313 (by decide) (by decide) (Nat.le_of_ble_eq_true rfl) rfl dX11_raise_83 (fun y3 m2 h => ?_)
      exact bX11_raise_86 hK39 hK53 hR h
    · replace h := hB hc
      refine g_iconst dX11_raise_71 (-1) rfl (by decide) ?_
      refine g_goto (tgt := 86) dX11_raise_72 (by decide) ?_
      exact bX11_raise_86 hK39 hK53 hR h
theorem eX11_raise_53 {E : TE} {K39 : (Int × Int × Int × Int × Int × Int) → Mem → Prop} (hK39 : ∀ (x : Int × Int × Int × Int × Int × Int) (σ : Mem), K39 x σ → GW E cX11_raise 9 RX11 9 221 σ 39 [(0, vR 300), (1, vI x.1), (2, vI x.2.1), (3, vI x.2.2.1), (4, vI x.2.2.2.1), (5, vI x.2.2.2.2.1), (6, vI x.2.2.2.2.2)] []) {Q : Int → Mem → Prop} (hR : RI E (some .int) Q) {l1 : Int} {l2 : Int} {l3 : Int} {l4 : Int} {l5 : Int} {l6 : Int} {l7 : Int} {σ : Mem} (h : wLX11_raise_53 K39 Q l1 l2 l3 l4 l5 l6 l7 σ) : GW E cX11_raise 9 RX11 9 221 σ 53 [(0, vR 300), (1, vI l1), (2, vI l2), (3, vI l3), (4, vI l4), (5, vI l5), (6, vI l6), (7, vI l7)] [] := by
  obtain ⟨n, h⟩ := h
  exact lp_GW (P := fun (x : Int × Int × Int × Int × Int × Int × Int) (σ : Mem) => GW E cX11_raise 9 RX11 9 221 σ 53 [(0, vR 300), (1, vI x.1), (2, vI x.2.1), (3, vI x.2.2.1), (4, vI x.2.2.2.1), (5, vI x.2.2.2.2.1), (6, vI x.2.2.2.2.2.1), (7, vI x.2.2.2.2.2.2)] []) (fun K hK x σ h  => bX11_raise_53 hK39 hK hR h) n _ σ h 
set_option maxHeartbeats 1000000 in
theorem bX11_raise_39 {E : TE} {K39 : (Int × Int × Int × Int × Int × Int) → Mem → Prop} (hK39 : ∀ (x : Int × Int × Int × Int × Int × Int) (σ : Mem), K39 x σ → GW E cX11_raise 9 RX11 9 221 σ 39 [(0, vR 300), (1, vI x.1), (2, vI x.2.1), (3, vI x.2.2.1), (4, vI x.2.2.2.1), (5, vI x.2.2.2.2.1), (6, vI x.2.2.2.2.2)] []) {Q : Int → Mem → Prop} (hR : RI E (some .int) Q) {l1 : Int} {l2 : Int} {l3 : Int} {l4 : Int} {l5 : Int} {l6 : Int} {σ : Mem} (h : wX11_raise_39 K39 Q l1 l2 l3 l4 l5 l6 σ) : GW E cX11_raise 9 RX11 9 221 σ 39 [(0, vR 300), (1, vI l1), (2, vI l2), (3, vI l3), (4, vI l4), (5, vI l5), (6, vI l6)] [] := by
  unfold wX11_raise_39 at h
  refine g_iload dX11_raise_39 rfl ?_
  refine g_aload_n dX11_raise_41 rfl ?_
  refine g_getR (r := 301) fl_11_9 kd_300 rfl dX11_raise_42 ?_
  refine g_iconst dX11_raise_45 0 rfl (by decide) ?_
  refine g_iald kd_301 (by decide) dX11_raise_46 ?_
  obtain ⟨hA, hB⟩ := h
  refine g_icmp_ge (tgt := 136) dX11_raise_47 (by decide) (fun hc => ?_) (fun hc => ?_)
  · replace h := hA hc
    refine g_iload dX11_raise_136 rfl ?_
    refine g_iconst dX11_raise_138 (-1) rfl (by decide) ?_
    obtain ⟨hA, hB⟩ := h
    refine g_icmp_ne (tgt := 145) dX11_raise_139 (by decide) (fun hc => ?_) (fun hc => ?_)
    · replace h := hA hc
      refine g_aload_n dX11_raise_145 rfl ?_
      refine g_iconst dX11_raise_146 0 rfl (by decide) ?_
      refine g_putI fp_11_71 kd_300 rfl dX11_raise_147 ?_
      refine g_nm (fun m1 em1 => ?_)
      replace h := h m1 em1
      refine g_aload_n dX11_raise_150 rfl ?_
      refine g_iload dX11_raise_151 rfl ?_
      refine g_i2l dX11_raise_153 ?_
      refine g_cVv (st := []) (av := [vL l5]) (kX11_tell h) kd_300 rfl cw_RX11_155 (by decide) (by decide) (Nat.le_of_ble_eq_true rfl) rfl dX11_raise_154 (fun m2 h => ?_)
      refine g_iload dX11_raise_157 rfl ?_
      exact g_iret hR dX11_raise_159 h
    · replace h := hB hc
      refine g_bipush dX11_raise_142 (-3) rfl (by decide) ?_
      exact g_iret hR dX11_raise_144 h
  · replace h := hB hc
    refine g_iconst dX11_raise_50 0 rfl (by decide) ?_
    refine g_istore (lv' := [(7, vI 0), (0, vR 300), (1, vI l1), (2, vI l2), (3, vI l3), (4, vI l4), (5, vI l5), (6, vI l6)]) dX11_raise_51 (by decide) rfl ?_
    refine g_lv (lv' := [(0, vR 300), (1, vI l1), (2, vI l2), (3, vI l3), (4, vI l4), (5, vI l5), (6, vI l6), (7, vI 0)]) [1, 2, 3, 4, 5, 6, 7, 0] rfl ?_
    exact eX11_raise_53 hK39 hR h
theorem eX11_raise_39 {E : TE} {Q : Int → Mem → Prop} (hR : RI E (some .int) Q) {l1 : Int} {l2 : Int} {l3 : Int} {l4 : Int} {l5 : Int} {l6 : Int} {σ : Mem} (h : wLX11_raise_39 Q l1 l2 l3 l4 l5 l6 σ) : GW E cX11_raise 9 RX11 9 221 σ 39 [(0, vR 300), (1, vI l1), (2, vI l2), (3, vI l3), (4, vI l4), (5, vI l5), (6, vI l6)] [] := by
  obtain ⟨n, h⟩ := h
  exact lp_GW (P := fun (x : Int × Int × Int × Int × Int × Int) (σ : Mem) => GW E cX11_raise 9 RX11 9 221 σ 39 [(0, vR 300), (1, vI x.1), (2, vI x.2.1), (3, vI x.2.2.1), (4, vI x.2.2.2.1), (5, vI x.2.2.2.2.1), (6, vI x.2.2.2.2.2)] []) (fun K hK x σ h  => bX11_raise_39 hK hR h) n _ σ h 
set_option maxHeartbeats 1000000 in
theorem kX11_raise {l1 : Int} {l2 : Int} {l3 : Int} {σ : Mem} {Q : Int → Mem → Prop} (h : wX11_raise l1 l2 l3 σ Q) (l : Launch) (D : va_G) (cy : Nat → ClassId) (ad : Nat → Nat) : MI l yX11_raise cX11_raise 9 (some .int) 9 221 D cy ad [vR 300, vI l1, vI l2, vI l3] σ Q := by
  refine m_I (own := RX11) (lv := [(0, vR 300), (1, vI l1), (2, vI l2), (3, vI l3)]) (by decide +kernel) rfl (Nat.le_of_ble_eq_true rfl) rfl (fun E hR => ?_) l D cy ad
  unfold wX11_raise at h
  refine g_aload_n dX11_raise_0 rfl ?_
  refine g_iconst dX11_raise_1 0 rfl (by decide) ?_
  refine g_putI fp_11_68 kd_300 rfl dX11_raise_2 ?_
  refine g_nm (fun m1 em1 => ?_)
  replace h := h m1 em1
  refine g_aload_n dX11_raise_5 rfl ?_
  refine g_iload_n dX11_raise_6 rfl ?_
  refine g_iload_n dX11_raise_7 rfl ?_
  refine g_iload_n dX11_raise_8 rfl ?_
  refine g_cVi (st := []) (av := [vI l1, vI l2, vI l3]) (kX11_isPayment h) kd_300 rfl cw_RX11_192 (by decide) (by decide) (Nat.le_of_ble_eq_true rfl) rfl dX11_raise_9 (fun y3 m2 h => ?_)
  obtain ⟨hA, hB⟩ := h
  refine g_if_ne (tgt := 17) dX11_raise_12 (by decide) (fun hc => ?_) (fun hc => ?_)
  · replace h := hA hc
    refine g_aload_n dX11_raise_17 rfl ?_
    refine g_iload_n dX11_raise_18 rfl ?_
    refine g_iload_n dX11_raise_19 rfl ?_
    refine g_cVi (st := []) (av := [vI l1, vI l2]) (kX11_mostOf h) kd_300 rfl cw_RX11_235 (by decide) (by decide) (Nat.le_of_ble_eq_true rfl) rfl dX11_raise_20 (fun y5 m4 h => ?_)
    refine g_iload_n dX11_raise_23 rfl ?_
    obtain ⟨hA, hB⟩ := h
    refine g_icmp_lt (tgt := 30) dX11_raise_24 (by decide) (fun hc => ?_) (fun hc => ?_)
    · replace h := hA hc
      refine g_iconst dX11_raise_30 (-1) rfl (by decide) ?_
      refine g_istore (lv' := [(4, vI ((-1))), (0, vR 300), (1, vI l1), (2, vI l2), (3, vI l3)]) dX11_raise_31 (by decide) rfl ?_
      refine g_iconst dX11_raise_33 0 rfl (by decide) ?_
      refine g_istore (lv' := [(5, vI 0), (4, vI ((-1))), (0, vR 300), (1, vI l1), (2, vI l2), (3, vI l3)]) dX11_raise_34 (by decide) rfl ?_
      refine g_iconst dX11_raise_36 0 rfl (by decide) ?_
      refine g_istore (lv' := [(6, vI 0), (5, vI 0), (4, vI ((-1))), (0, vR 300), (1, vI l1), (2, vI l2), (3, vI l3)]) dX11_raise_37 (by decide) rfl ?_
      refine g_lv (lv' := [(0, vR 300), (1, vI l1), (2, vI l2), (3, vI l3), (4, vI ((-1))), (5, vI 0), (6, vI 0)]) [3, 4, 5, 6, 2, 1, 0] rfl ?_
      exact eX11_raise_39 hR h
    · replace h := hB hc
      refine g_bipush dX11_raise_27 (-2) rfl (by decide) ?_
      exact g_iret hR dX11_raise_29 h
  · replace h := hB hc
    refine g_iconst dX11_raise_15 (-1) rfl (by decide) ?_
    exact g_iret hR dX11_raise_16 h
def wX11_mostWithout (l1 : Int) (l2 : Int) (l3 : Int) (σ : Mem) (Q : Int → Mem → Prop) : Prop := (∀ m1 : Mem, m1 = up2 σ 300 14 l3 → (wX11_mostOf l1 l2 m1 (fun y3 m2 => (∀ m4 : Mem, m4 = up2 m2 300 14 ((-1)) → Q y3 m4))))
set_option maxHeartbeats 1000000 in
theorem kX11_mostWithout {l1 : Int} {l2 : Int} {l3 : Int} {σ : Mem} {Q : Int → Mem → Prop} (h : wX11_mostWithout l1 l2 l3 σ Q) (l : Launch) (D : va_G) (cy : Nat → ClassId) (ad : Nat → Nat) : MI l yX11_mostWithout cX11_mostWithout 5 (some .int) 8 192 D cy ad [vR 300, vI l1, vI l2, vI l3] σ Q := by
  refine m_I (own := RX11) (lv := [(0, vR 300), (1, vI l1), (2, vI l2), (3, vI l3)]) (by decide +kernel) rfl (Nat.le_of_ble_eq_true rfl) rfl (fun E hR => ?_) l D cy ad
  unfold wX11_mostWithout at h
  refine g_aload_n dX11_mostWithout_0 rfl ?_
  refine g_iload_n dX11_mostWithout_1 rfl ?_
  refine g_putI fp_11_33 kd_300 rfl dX11_mostWithout_2 ?_
  refine g_nm (fun m1 em1 => ?_)
  replace h := h m1 em1
  refine g_aload_n dX11_mostWithout_5 rfl ?_
  refine g_iload_n dX11_mostWithout_6 rfl ?_
  refine g_iload_n dX11_mostWithout_7 rfl ?_
  refine g_cVi (st := []) (av := [vI l1, vI l2]) (kX11_mostOf h) kd_300 rfl cw_RX11_235 (by decide) (by decide) (Nat.le_of_ble_eq_true rfl) rfl dX11_mostWithout_8 (fun y3 m2 h => ?_)
  refine g_istore (lv' := [(4, vI y3), (0, vR 300), (1, vI l1), (2, vI l2), (3, vI l3)]) dX11_mostWithout_11 (by decide) rfl ?_
  refine g_aload_n dX11_mostWithout_13 rfl ?_
  refine g_iconst dX11_mostWithout_14 (-1) rfl (by decide) ?_
  refine g_putI fp_11_33 kd_300 rfl dX11_mostWithout_15 ?_
  refine g_nm (fun m4 em4 => ?_)
  replace h := h m4 em4
  refine g_iload dX11_mostWithout_18 rfl ?_
  exact g_iret hR dX11_mostWithout_20 h
def wX11_without (l1 : Int) (l2 : Int) (l3 : Int) (σ : Mem) (Q : Int → Mem → Prop) : Prop := (∀ m1 : Mem, m1 = up2 σ 300 5 0 → (wX11_areTwo l1 l2 m1 (fun y3 m2 => ((y3 = 0 → Q ((-1)) m2) ∧ (¬ y3 = 0 → (wX11_isMember l3 m2 (fun y5 m4 => ((y5 = 0 → Q ((-1)) m4) ∧ (¬ y5 = 0 → ((l3 = l1 → Q ((-1)) m4) ∧ (¬ l3 = l1 → ((¬ l3 = l2 → (wX11_mostWithout l1 l2 l3 m4 (fun y7 m6 => (∀ m8 : Mem, m8 = up2 m6 300 4 0 → (wX11_mostOf l1 l2 m8 (fun y10 m9 => (wX11_tell (w32 (y10 - y7)) m9 (fun m11 => Q y7 m11)))))))) ∧ (l3 = l2 → Q ((-1)) m4)))))))))))))
set_option maxHeartbeats 1000000 in
theorem kX11_without {l1 : Int} {l2 : Int} {l3 : Int} {σ : Mem} {Q : Int → Mem → Prop} (h : wX11_without l1 l2 l3 σ Q) (l : Launch) (D : va_G) (cy : Nat → ClassId) (ad : Nat → Nat) : MI l yX11_without cX11_without 5 (some .int) 9 216 D cy ad [vR 300, vI l1, vI l2, vI l3] σ Q := by
  refine m_I (own := RX11) (lv := [(0, vR 300), (1, vI l1), (2, vI l2), (3, vI l3)]) (by decide +kernel) rfl (Nat.le_of_ble_eq_true rfl) rfl (fun E hR => ?_) l D cy ad
  unfold wX11_without at h
  refine g_aload_n dX11_without_0 rfl ?_
  refine g_iconst dX11_without_1 0 rfl (by decide) ?_
  refine g_putI fp_11_68 kd_300 rfl dX11_without_2 ?_
  refine g_nm (fun m1 em1 => ?_)
  replace h := h m1 em1
  refine g_aload_n dX11_without_5 rfl ?_
  refine g_iload_n dX11_without_6 rfl ?_
  refine g_iload_n dX11_without_7 rfl ?_
  refine g_cVi (st := []) (av := [vI l1, vI l2]) (kX11_areTwo h) kd_300 rfl cw_RX11_159 (by decide) (by decide) (Nat.le_of_ble_eq_true rfl) rfl dX11_without_8 (fun y3 m2 h => ?_)
  obtain ⟨hA, hB⟩ := h
  refine g_if_eq (tgt := 32) dX11_without_11 (by decide) (fun hc => ?_) (fun hc => ?_)
  · replace h := hA hc
    refine g_iconst dX11_without_32 (-1) rfl (by decide) ?_
    exact g_iret hR dX11_without_33 h
  · replace h := hB hc
    refine g_aload_n dX11_without_14 rfl ?_
    refine g_iload_n dX11_without_15 rfl ?_
    refine g_cVi (st := []) (av := [vI l3]) (kX11_isMember h) kd_300 rfl cw_RX11_78 (by decide) (by decide) (Nat.le_of_ble_eq_true rfl) rfl dX11_without_16 (fun y5 m4 h => ?_)
    obtain ⟨hA, hB⟩ := h
    refine g_if_eq (tgt := 32) dX11_without_19 (by decide) (fun hc => ?_) (fun hc => ?_)
    · replace h := hA hc
      refine g_iconst dX11_without_32 (-1) rfl (by decide) ?_
      exact g_iret hR dX11_without_33 h
    · replace h := hB hc
      refine g_iload_n dX11_without_22 rfl ?_
      refine g_iload_n dX11_without_23 rfl ?_
      obtain ⟨hA, hB⟩ := h
      refine g_icmp_eq (tgt := 32) dX11_without_24 (by decide) (fun hc => ?_) (fun hc => ?_)
      · replace h := hA hc
        refine g_iconst dX11_without_32 (-1) rfl (by decide) ?_
        exact g_iret hR dX11_without_33 h
      · replace h := hB hc
        refine g_iload_n dX11_without_27 rfl ?_
        refine g_iload_n dX11_without_28 rfl ?_
        obtain ⟨hA, hB⟩ := h
        refine g_icmp_ne (tgt := 34) dX11_without_29 (by decide) (fun hc => ?_) (fun hc => ?_)
        · replace h := hA hc
          refine g_aload_n dX11_without_34 rfl ?_
          refine g_iload_n dX11_without_35 rfl ?_
          refine g_iload_n dX11_without_36 rfl ?_
          refine g_iload_n dX11_without_37 rfl ?_
          refine g_cVi (st := []) (av := [vI l1, vI l2, vI l3]) (kX11_mostWithout h) kd_300 rfl cw_RX11_317 (by decide) (by decide) (Nat.le_of_ble_eq_true rfl) rfl dX11_without_38 (fun y7 m6 h => ?_)
          refine g_istore (lv' := [(4, vI y7), (0, vR 300), (1, vI l1), (2, vI l2), (3, vI l3)]) dX11_without_41 (by decide) rfl ?_
          refine g_aload_n dX11_without_43 rfl ?_
          refine g_iconst dX11_without_44 0 rfl (by decide) ?_
          refine g_putI fp_11_71 kd_300 rfl dX11_without_45 ?_
          refine g_nm (fun m8 em8 => ?_)
          replace h := h m8 em8
          refine g_aload_n dX11_without_48 rfl ?_
          refine g_aload_n dX11_without_49 rfl ?_
          refine g_iload_n dX11_without_50 rfl ?_
          refine g_iload_n dX11_without_51 rfl ?_
          refine g_cVi (st := [vR 300]) (av := [vI l1, vI l2]) (kX11_mostOf h) kd_300 rfl cw_RX11_235 (by decide) (by decide) (Nat.le_of_ble_eq_true rfl) rfl dX11_without_52 (fun y10 m9 h => ?_)
          refine g_iload dX11_without_55 rfl ?_
          refine g_isub dX11_without_57 ?_
          refine g_i2l dX11_without_58 ?_
          refine g_cVv (st := []) (av := [vL (w32 (y10 - y7))]) (kX11_tell h) kd_300 rfl cw_RX11_155 (by decide) (by decide) (Nat.le_of_ble_eq_true rfl) rfl dX11_without_59 (fun m11 h => ?_)
          refine g_iload dX11_without_62 rfl ?_
          exact g_iret hR dX11_without_64 h
        · replace h := hB hc
          refine g_iconst dX11_without_32 (-1) rfl (by decide) ?_
          exact g_iret hR dX11_without_33 h
def wX11_key_75 (K24 : (Int × Int × Int × Int × Int) → Mem → Prop) (Q : Int → Mem → Prop) (l1 : Int) (l2 : Int) (l5 : Int) (l6 : Int) (σ : Mem) : Prop := (∀ x1 : Int, x1 = w32 (l5 + 1) → K24 (l1, l2, l5, l6, x1) σ)
def wX11_key_24 (K24 : (Int × Int × Int × Int × Int) → Mem → Prop) (Q : Int → Mem → Prop) (l1 : Int) (l2 : Int) (l3 : Int) (l4 : Int) (l5 : Int) (σ : Mem) : Prop := ((σ 301 0 ≤ l5 → ((¬ l3 = (-1) → (∀ m1 : Mem, m1 = up2 σ 300 4 0 → (wX11_tell l4 m1 (fun m2 => Q l3 m2)))) ∧ (l3 = (-1) → Q ((-2)) σ))) ∧ (¬ σ 301 0 ≤ l5 → ((l5 = l1 → (∀ x3 : Int, x3 = w32 (l5 + 1) → K24 (l1, l2, l3, l4, x3) σ)) ∧ (¬ l5 = l1 → ((¬ l5 = l2 → (wX11_mostWithout l1 l2 l5 σ (fun y5 m4 => ((l3 = (-1) → wX11_key_75 K24 Q l1 l2 l5 y5 m4) ∧ (¬ l3 = (-1) → ((y5 < l4 → wX11_key_75 K24 Q l1 l2 l5 y5 m4) ∧ (¬ y5 < l4 → (∀ x6 : Int, x6 = w32 (l5 + 1) → K24 (l1, l2, l3, l4, x6) m4)))))))) ∧ (l5 = l2 → (∀ x7 : Int, x7 = w32 (l5 + 1) → K24 (l1, l2, l3, l4, x7) σ)))))))
def wLX11_key_24 (Q : Int → Mem → Prop) (l1 : Int) (l2 : Int) (l3 : Int) (l4 : Int) (l5 : Int) (σ : Mem) : Prop := ∃ n, lp (fun (K24 : (Int × Int × Int × Int × Int) → Mem → Prop) (x : Int × Int × Int × Int × Int) (σ : Mem) => wX11_key_24 K24 Q x.1 x.2.1 x.2.2.1 x.2.2.2.1 x.2.2.2.2 σ) n (l1, l2, l3, l4, l5) σ
def wX11_key (l1 : Int) (l2 : Int) (σ : Mem) (Q : Int → Mem → Prop) : Prop := (∀ m1 : Mem, m1 = up2 σ 300 5 0 → (wX11_areTwo l1 l2 m1 (fun y3 m2 => ((¬ y3 = 0 → wLX11_key_24 Q l1 l2 ((-1)) 0 0 m2) ∧ (y3 = 0 → Q ((-1)) m2)))))
set_option maxHeartbeats 1000000 in
theorem bX11_key_75 {E : TE} {K24 : (Int × Int × Int × Int × Int) → Mem → Prop} (hK24 : ∀ (x : Int × Int × Int × Int × Int) (σ : Mem), K24 x σ → GW E cX11_key 7 RX11 9 216 σ 24 [(0, vR 300), (1, vI x.1), (2, vI x.2.1), (3, vI x.2.2.1), (4, vI x.2.2.2.1), (5, vI x.2.2.2.2)] []) {Q : Int → Mem → Prop} (hR : RI E (some .int) Q) {l1 : Int} {l2 : Int} {l5 : Int} {l6 : Int} {σ : Mem} (h : wX11_key_75 K24 Q l1 l2 l5 l6 σ) : GW E cX11_key 7 RX11 9 216 σ 75 [(0, vR 300), (1, vI l1), (2, vI l2), (5, vI l5), (6, vI l6)] [] := by
  unfold wX11_key_75 at h
  refine g_iload dX11_key_75 rfl ?_
  refine g_istore_n (lv' := [(3, vI l5), (0, vR 300), (1, vI l1), (2, vI l2), (5, vI l5), (6, vI l6)]) dX11_key_77 (by decide) rfl ?_
  refine g_iload dX11_key_78 rfl ?_
  refine g_istore (lv' := [(4, vI l6), (3, vI l5), (0, vR 300), (1, vI l1), (2, vI l2), (5, vI l5), (6, vI l6)]) dX11_key_80 (by decide) rfl ?_
  refine g_iinc (lv' := [(5, vI (w32 (l5 + 1))), (4, vI l6), (3, vI l5), (0, vR 300), (1, vI l1), (2, vI l2), (6, vI l6)]) dX11_key_82 rfl (by decide) rfl ?_
  refine g_loc (a := w32 (l5 + 1)) (i := 5) (lv := [(4, vI l6), (3, vI l5), (0, vR 300), (1, vI l1), (2, vI l2), (6, vI l6)]) (fun x1 ex1 => ?_)
  replace h := h x1 ex1
  refine g_goto (tgt := 24) dX11_key_85 (by decide) ?_
  refine g_lv (lv' := [(0, vR 300), (1, vI l1), (2, vI l2), (3, vI l5), (4, vI l6), (5, vI x1)]) [3, 4, 5, 2, 1, 0] rfl ?_
  exact hK24 ((l1, l2, l5, l6, x1)) σ h
set_option maxHeartbeats 1000000 in
theorem bX11_key_24 {E : TE} {K24 : (Int × Int × Int × Int × Int) → Mem → Prop} (hK24 : ∀ (x : Int × Int × Int × Int × Int) (σ : Mem), K24 x σ → GW E cX11_key 7 RX11 9 216 σ 24 [(0, vR 300), (1, vI x.1), (2, vI x.2.1), (3, vI x.2.2.1), (4, vI x.2.2.2.1), (5, vI x.2.2.2.2)] []) {Q : Int → Mem → Prop} (hR : RI E (some .int) Q) {l1 : Int} {l2 : Int} {l3 : Int} {l4 : Int} {l5 : Int} {σ : Mem} (h : wX11_key_24 K24 Q l1 l2 l3 l4 l5 σ) : GW E cX11_key 7 RX11 9 216 σ 24 [(0, vR 300), (1, vI l1), (2, vI l2), (3, vI l3), (4, vI l4), (5, vI l5)] [] := by
  unfold wX11_key_24 at h
  refine g_iload dX11_key_24 rfl ?_
  refine g_aload_n dX11_key_26 rfl ?_
  refine g_getR (r := 301) fl_11_9 kd_300 rfl dX11_key_27 ?_
  refine g_iconst dX11_key_30 0 rfl (by decide) ?_
  refine g_iald kd_301 (by decide) dX11_key_31 ?_
  obtain ⟨hA, hB⟩ := h
  refine g_icmp_ge (tgt := 88) dX11_key_32 (by decide) (fun hc => ?_) (fun hc => ?_)
  · replace h := hA hc
    refine g_iload_n dX11_key_88 rfl ?_
    refine g_iconst dX11_key_89 (-1) rfl (by decide) ?_
    obtain ⟨hA, hB⟩ := h
    refine g_icmp_ne (tgt := 96) dX11_key_90 (by decide) (fun hc => ?_) (fun hc => ?_)
    · replace h := hA hc
      refine g_aload_n dX11_key_96 rfl ?_
      refine g_iconst dX11_key_97 0 rfl (by decide) ?_
      refine g_putI fp_11_71 kd_300 rfl dX11_key_98 ?_
      refine g_nm (fun m1 em1 => ?_)
      replace h := h m1 em1
      refine g_aload_n dX11_key_101 rfl ?_
      refine g_iload dX11_key_102 rfl ?_
      refine g_i2l dX11_key_104 ?_
      refine g_cVv (st := []) (av := [vL l4]) (kX11_tell h) kd_300 rfl cw_RX11_155 (by decide) (by decide) (Nat.le_of_ble_eq_true rfl) rfl dX11_key_105 (fun m2 h => ?_)
      refine g_iload_n dX11_key_108 rfl ?_
      exact g_iret hR dX11_key_109 h
    · replace h := hB hc
      refine g_bipush dX11_key_93 (-2) rfl (by decide) ?_
      exact g_iret hR dX11_key_95 h
  · replace h := hB hc
    refine g_iload dX11_key_35 rfl ?_
    refine g_iload_n dX11_key_37 rfl ?_
    obtain ⟨hA, hB⟩ := h
    refine g_icmp_eq (tgt := 82) dX11_key_38 (by decide) (fun hc => ?_) (fun hc => ?_)
    · replace h := hA hc
      refine g_iinc (lv' := [(5, vI (w32 (l5 + 1))), (0, vR 300), (1, vI l1), (2, vI l2), (3, vI l3), (4, vI l4)]) dX11_key_82 rfl (by decide) rfl ?_
      refine g_loc (a := w32 (l5 + 1)) (i := 5) (lv := [(0, vR 300), (1, vI l1), (2, vI l2), (3, vI l3), (4, vI l4)]) (fun x3 ex3 => ?_)
      replace h := h x3 ex3
      refine g_goto (tgt := 24) dX11_key_85 (by decide) ?_
      refine g_lv (lv' := [(0, vR 300), (1, vI l1), (2, vI l2), (3, vI l3), (4, vI l4), (5, vI x3)]) [1, 2, 3, 4, 5, 0] rfl ?_
      exact hK24 ((l1, l2, l3, l4, x3)) σ h
    · replace h := hB hc
      refine g_iload dX11_key_41 rfl ?_
      refine g_iload_n dX11_key_43 rfl ?_
      obtain ⟨hA, hB⟩ := h
      refine g_icmp_ne (tgt := 50) dX11_key_44 (by decide) (fun hc => ?_) (fun hc => ?_)
      · replace h := hA hc
        refine g_aload_n dX11_key_50 rfl ?_
        refine g_iload_n dX11_key_51 rfl ?_
        refine g_iload_n dX11_key_52 rfl ?_
        refine g_iload dX11_key_53 rfl ?_
        refine g_cVi (st := []) (av := [vI l1, vI l2, vI l5]) (kX11_mostWithout h) kd_300 rfl cw_RX11_317 (by decide) (by decide) (Nat.le_of_ble_eq_true rfl) rfl dX11_key_55 (fun y5 m4 h => ?_)
        refine g_istore (lv' := [(6, vI y5), (0, vR 300), (1, vI l1), (2, vI l2), (3, vI l3), (4, vI l4), (5, vI l5)]) dX11_key_58 (by decide) rfl ?_
        refine g_iload_n dX11_key_60 rfl ?_
        refine g_iconst dX11_key_61 (-1) rfl (by decide) ?_
        obtain ⟨hA, hB⟩ := h
        refine g_icmp_eq (tgt := 75) dX11_key_62 (by decide) (fun hc => ?_) (fun hc => ?_)
        · replace h := hA hc
          refine g_lv (lv' := [(0, vR 300), (1, vI l1), (2, vI l2), (5, vI l5), (6, vI y5)]) [1, 2, 3, 6, 0] rfl ?_
          exact bX11_key_75 hK24 hR h
        · replace h := hB hc
          refine g_iload dX11_key_65 rfl ?_
          refine g_iload dX11_key_67 rfl ?_
          obtain ⟨hA, hB⟩ := h
          refine g_icmp_lt (tgt := 75) dX11_key_69 (by decide) (fun hc => ?_) (fun hc => ?_)
          · replace h := hA hc
            refine g_lv (lv' := [(0, vR 300), (1, vI l1), (2, vI l2), (5, vI l5), (6, vI y5)]) [1, 2, 3, 6, 0] rfl ?_
            exact bX11_key_75 hK24 hR h
          · replace h := hB hc
            refine g_goto (tgt := 82) dX11_key_72 (by decide) ?_
            refine g_iinc (lv' := [(5, vI (w32 (l5 + 1))), (6, vI y5), (0, vR 300), (1, vI l1), (2, vI l2), (3, vI l3), (4, vI l4)]) dX11_key_82 rfl (by decide) rfl ?_
            refine g_loc (a := w32 (l5 + 1)) (i := 5) (lv := [(6, vI y5), (0, vR 300), (1, vI l1), (2, vI l2), (3, vI l3), (4, vI l4)]) (fun x6 ex6 => ?_)
            replace h := h x6 ex6
            refine g_goto (tgt := 24) dX11_key_85 (by decide) ?_
            refine g_lv (lv' := [(0, vR 300), (1, vI l1), (2, vI l2), (3, vI l3), (4, vI l4), (5, vI x6)]) [2, 3, 4, 5, 6, 0] rfl ?_
            exact hK24 ((l1, l2, l3, l4, x6)) m4 h
      · replace h := hB hc
        refine g_goto (tgt := 82) dX11_key_47 (by decide) ?_
        refine g_iinc (lv' := [(5, vI (w32 (l5 + 1))), (0, vR 300), (1, vI l1), (2, vI l2), (3, vI l3), (4, vI l4)]) dX11_key_82 rfl (by decide) rfl ?_
        refine g_loc (a := w32 (l5 + 1)) (i := 5) (lv := [(0, vR 300), (1, vI l1), (2, vI l2), (3, vI l3), (4, vI l4)]) (fun x7 ex7 => ?_)
        replace h := h x7 ex7
        refine g_goto (tgt := 24) dX11_key_85 (by decide) ?_
        refine g_lv (lv' := [(0, vR 300), (1, vI l1), (2, vI l2), (3, vI l3), (4, vI l4), (5, vI x7)]) [1, 2, 3, 4, 5, 0] rfl ?_
        exact hK24 ((l1, l2, l3, l4, x7)) σ h
theorem eX11_key_24 {E : TE} {Q : Int → Mem → Prop} (hR : RI E (some .int) Q) {l1 : Int} {l2 : Int} {l3 : Int} {l4 : Int} {l5 : Int} {σ : Mem} (h : wLX11_key_24 Q l1 l2 l3 l4 l5 σ) : GW E cX11_key 7 RX11 9 216 σ 24 [(0, vR 300), (1, vI l1), (2, vI l2), (3, vI l3), (4, vI l4), (5, vI l5)] [] := by
  obtain ⟨n, h⟩ := h
  exact lp_GW (P := fun (x : Int × Int × Int × Int × Int) (σ : Mem) => GW E cX11_key 7 RX11 9 216 σ 24 [(0, vR 300), (1, vI x.1), (2, vI x.2.1), (3, vI x.2.2.1), (4, vI x.2.2.2.1), (5, vI x.2.2.2.2)] []) (fun K hK x σ h  => bX11_key_24 hK hR h) n _ σ h 
set_option maxHeartbeats 1000000 in
theorem kX11_key {l1 : Int} {l2 : Int} {σ : Mem} {Q : Int → Mem → Prop} (h : wX11_key l1 l2 σ Q) (l : Launch) (D : va_G) (cy : Nat → ClassId) (ad : Nat → Nat) : MI l yX11_key cX11_key 7 (some .int) 9 216 D cy ad [vR 300, vI l1, vI l2] σ Q := by
  refine m_I (own := RX11) (lv := [(0, vR 300), (1, vI l1), (2, vI l2)]) (by decide +kernel) rfl (Nat.le_of_ble_eq_true rfl) rfl (fun E hR => ?_) l D cy ad
  unfold wX11_key at h
  refine g_aload_n dX11_key_0 rfl ?_
  refine g_iconst dX11_key_1 0 rfl (by decide) ?_
  refine g_putI fp_11_68 kd_300 rfl dX11_key_2 ?_
  refine g_nm (fun m1 em1 => ?_)
  replace h := h m1 em1
  refine g_aload_n dX11_key_5 rfl ?_
  refine g_iload_n dX11_key_6 rfl ?_
  refine g_iload_n dX11_key_7 rfl ?_
  refine g_cVi (st := []) (av := [vI l1, vI l2]) (kX11_areTwo h) kd_300 rfl cw_RX11_159 (by decide) (by decide) (Nat.le_of_ble_eq_true rfl) rfl dX11_key_8 (fun y3 m2 h => ?_)
  obtain ⟨hA, hB⟩ := h
  refine g_if_ne (tgt := 16) dX11_key_11 (by decide) (fun hc => ?_) (fun hc => ?_)
  · replace h := hA hc
    refine g_iconst dX11_key_16 (-1) rfl (by decide) ?_
    refine g_istore_n (lv' := [(3, vI ((-1))), (0, vR 300), (1, vI l1), (2, vI l2)]) dX11_key_17 (by decide) rfl ?_
    refine g_iconst dX11_key_18 0 rfl (by decide) ?_
    refine g_istore (lv' := [(4, vI 0), (3, vI ((-1))), (0, vR 300), (1, vI l1), (2, vI l2)]) dX11_key_19 (by decide) rfl ?_
    refine g_iconst dX11_key_21 0 rfl (by decide) ?_
    refine g_istore (lv' := [(5, vI 0), (4, vI 0), (3, vI ((-1))), (0, vR 300), (1, vI l1), (2, vI l2)]) dX11_key_22 (by decide) rfl ?_
    refine g_lv (lv' := [(0, vR 300), (1, vI l1), (2, vI l2), (3, vI ((-1))), (4, vI 0), (5, vI 0)]) [3, 4, 5, 2, 1, 0] rfl ?_
    exact eX11_key_24 hR h
  · replace h := hB hc
    refine g_iconst dX11_key_14 (-1) rfl (by decide) ?_
    exact g_iret hR dX11_key_15 h
def wX11_were (l1 : Int) (l2 : Int) (l3 : Int) (l4 : Int) (l5 : Int) (σ : Mem) (Q : Int → Mem → Prop) : Prop := (∀ m1 : Mem, m1 = up2 σ 300 5 0 → (wX11_areTwo l1 l2 m1 (fun y3 m2 => ((y3 = 0 → Q ((-1)) m2) ∧ (¬ y3 = 0 → (wX11_areTwo l3 l4 m2 (fun y5 m4 => ((y5 = 0 → Q ((-1)) m4) ∧ (¬ y5 = 0 → (wX11_in l5 0 999 m4 (fun y7 m6 => ((¬ y7 = 0 → (wX11_owes l4 l3 m6 (fun y9 m8 => ((y9 ≤ l5 → (wX11_limit l3 l4 m8 (fun y11 m10 => (wX11_pair l3 l4 m10 (fun y13 m12 => ((0 ≤ w32 (1 + y13) ∧ w32 (1 + y13) < 405) ∧ (∀ m14 : Mem, m14 = up2 m12 301 (w32 (1 + y13)).toNat l5 → (wX11_mostOf l1 l2 m14 (fun y16 m15 => (wX11_pair l3 l4 m15 (fun y18 m17 => ((0 ≤ w32 (1 + y18) ∧ w32 (1 + y18) < 405) ∧ (∀ m19 : Mem, m19 = up2 m17 301 (w32 (1 + y18)).toNat y11 → Q y16 m19))))))))))))) ∧ (¬ y9 ≤ l5 → Q ((-4)) m8))))) ∧ (y7 = 0 → Q ((-1)) m6)))))))))))))
set_option maxHeartbeats 1000000 in
theorem kX11_were {l1 : Int} {l2 : Int} {l3 : Int} {l4 : Int} {l5 : Int} {σ : Mem} {Q : Int → Mem → Prop} (h : wX11_were l1 l2 l3 l4 l5 σ Q) (l : Launch) (D : va_G) (cy : Nat → ClassId) (ad : Nat → Nat) : MI l yX11_were cX11_were 8 (some .int) 8 192 D cy ad [vR 300, vI l1, vI l2, vI l3, vI l4, vI l5] σ Q := by
  refine m_I (own := RX11) (lv := [(0, vR 300), (1, vI l1), (2, vI l2), (3, vI l3), (4, vI l4), (5, vI l5)]) (by decide +kernel) rfl (Nat.le_of_ble_eq_true rfl) rfl (fun E hR => ?_) l D cy ad
  unfold wX11_were at h
  refine g_aload_n dX11_were_0 rfl ?_
  refine g_iconst dX11_were_1 0 rfl (by decide) ?_
  refine g_putI fp_11_68 kd_300 rfl dX11_were_2 ?_
  refine g_nm (fun m1 em1 => ?_)
  replace h := h m1 em1
  refine g_aload_n dX11_were_5 rfl ?_
  refine g_iload_n dX11_were_6 rfl ?_
  refine g_iload_n dX11_were_7 rfl ?_
  refine g_cVi (st := []) (av := [vI l1, vI l2]) (kX11_areTwo h) kd_300 rfl cw_RX11_159 (by decide) (by decide) (Nat.le_of_ble_eq_true rfl) rfl dX11_were_8 (fun y3 m2 h => ?_)
  obtain ⟨hA, hB⟩ := h
  refine g_if_eq (tgt := 36) dX11_were_11 (by decide) (fun hc => ?_) (fun hc => ?_)
  · replace h := hA hc
    refine g_iconst dX11_were_36 (-1) rfl (by decide) ?_
    exact g_iret hR dX11_were_37 h
  · replace h := hB hc
    refine g_aload_n dX11_were_14 rfl ?_
    refine g_iload_n dX11_were_15 rfl ?_
    refine g_iload dX11_were_16 rfl ?_
    refine g_cVi (st := []) (av := [vI l3, vI l4]) (kX11_areTwo h) kd_300 rfl cw_RX11_159 (by decide) (by decide) (Nat.le_of_ble_eq_true rfl) rfl dX11_were_18 (fun y5 m4 h => ?_)
    obtain ⟨hA, hB⟩ := h
    refine g_if_eq (tgt := 36) dX11_were_21 (by decide) (fun hc => ?_) (fun hc => ?_)
    · replace h := hA hc
      refine g_iconst dX11_were_36 (-1) rfl (by decide) ?_
      exact g_iret hR dX11_were_37 h
    · replace h := hB hc
      refine g_iload dX11_were_24 rfl ?_
      refine g_iconst dX11_were_26 0 rfl (by decide) ?_
      refine g_sipush dX11_were_27 999 rfl (by decide) ?_
      refine g_cSi (st := []) (av := [vI l5, vI 0, vI 999]) (kX11_in h) cw_RX11_74 (by decide) (by decide) (Nat.le_of_ble_eq_true rfl) rfl dX11_were_30 (fun y7 m6 h => ?_)
      obtain ⟨hA, hB⟩ := h
      refine g_if_ne (tgt := 38) dX11_were_33 (by decide) (fun hc => ?_) (fun hc => ?_)
      · replace h := hA hc
        refine g_iload dX11_were_38 rfl ?_
        refine g_aload_n dX11_were_40 rfl ?_
        refine g_iload dX11_were_41 rfl ?_
        refine g_iload_n dX11_were_43 rfl ?_
        refine g_cVi (st := [vI l5]) (av := [vI l4, vI l3]) (kX11_owes h) kd_300 rfl cw_RX11_141 (by decide) (by decide) (Nat.le_of_ble_eq_true rfl) rfl dX11_were_44 (fun y9 m8 h => ?_)
        obtain ⟨hA, hB⟩ := h
        refine g_icmp_ge (tgt := 53) dX11_were_47 (by decide) (fun hc => ?_) (fun hc => ?_)
        · replace h := hA hc
          refine g_aload_n dX11_were_53 rfl ?_
          refine g_iload_n dX11_were_54 rfl ?_
          refine g_iload dX11_were_55 rfl ?_
          refine g_cVi (st := []) (av := [vI l3, vI l4]) (kX11_limit h) kd_300 rfl cw_RX11_95 (by decide) (by decide) (Nat.le_of_ble_eq_true rfl) rfl dX11_were_57 (fun y11 m10 h => ?_)
          refine g_istore (lv' := [(6, vI y11), (0, vR 300), (1, vI l1), (2, vI l2), (3, vI l3), (4, vI l4), (5, vI l5)]) dX11_were_60 (by decide) rfl ?_
          refine g_aload_n dX11_were_62 rfl ?_
          refine g_getR (r := 301) fl_11_9 kd_300 rfl dX11_were_63 ?_
          refine g_iconst dX11_were_66 1 rfl (by decide) ?_
          refine g_iload_n dX11_were_67 rfl ?_
          refine g_iload dX11_were_68 rfl ?_
          refine g_cSi (st := [vI 1, vR 301]) (av := [vI l3, vI l4]) (kX11_pair h) cw_RX11_82 (by decide) (by decide) (Nat.le_of_ble_eq_true rfl) rfl dX11_were_70 (fun y13 m12 h => ?_)
          refine g_iadd dX11_were_73 ?_
          refine g_iload dX11_were_74 rfl ?_
          obtain ⟨hin, h⟩ := h
          refine g_iast kd_301 hin dX11_were_76 ?_
          refine g_nm (fun m14 em14 => ?_)
          replace h := h m14 em14
          refine g_aload_n dX11_were_77 rfl ?_
          refine g_iload_n dX11_were_78 rfl ?_
          refine g_iload_n dX11_were_79 rfl ?_
          refine g_cVi (st := []) (av := [vI l1, vI l2]) (kX11_mostOf h) kd_300 rfl cw_RX11_235 (by decide) (by decide) (Nat.le_of_ble_eq_true rfl) rfl dX11_were_80 (fun y16 m15 h => ?_)
          refine g_istore (lv' := [(7, vI y16), (6, vI y11), (0, vR 300), (1, vI l1), (2, vI l2), (3, vI l3), (4, vI l4), (5, vI l5)]) dX11_were_83 (by decide) rfl ?_
          refine g_aload_n dX11_were_85 rfl ?_
          refine g_getR (r := 301) fl_11_9 kd_300 rfl dX11_were_86 ?_
          refine g_iconst dX11_were_89 1 rfl (by decide) ?_
          refine g_iload_n dX11_were_90 rfl ?_
          refine g_iload dX11_were_91 rfl ?_
          refine g_cSi (st := [vI 1, vR 301]) (av := [vI l3, vI l4]) (kX11_pair h) cw_RX11_82 (by decide) (by decide) (Nat.le_of_ble_eq_true rfl) rfl dX11_were_93 (fun y18 m17 h => ?_)
          refine g_iadd dX11_were_96 ?_
          refine g_iload dX11_were_97 rfl ?_
          obtain ⟨hin, h⟩ := h
          refine g_iast kd_301 hin dX11_were_99 ?_
          refine g_nm (fun m19 em19 => ?_)
          replace h := h m19 em19
          refine g_iload dX11_were_100 rfl ?_
          exact g_iret hR dX11_were_102 h
        · replace h := hB hc
          refine g_bipush dX11_were_50 (-4) rfl (by decide) ?_
          exact g_iret hR dX11_were_52 h
      · replace h := hB hc
        refine g_iconst dX11_were_36 (-1) rfl (by decide) ?_
        exact g_iret hR dX11_were_37 h
def wX11_both_112 (Q : Int → Mem → Prop) (l7 : Int) (l8 : Int) (σ : Mem) : Prop := (wX11_comesBack 2 σ (fun m1 => (∀ m2 : Mem, m2 = up2 m1 300 4 0 → (wX11_tell l8 m2 (fun m3 => Q l7 m3)))))
def wX11_both_78 (Q : Int → Mem → Prop) (l1 : Int) (l2 : Int) (l3 : Int) (l4 : Int) (l5 : Int) (l6 : Int) (l7 : Int) (l8 : Int) (σ : Mem) : Prop := (wX11_comesBack 2 σ (fun m1 => (wX11_goPay l4 l5 l6 m1 (fun y3 m2 => ((y3 = 0 → wX11_both_112 Q l7 l8 m2) ∧ (¬ y3 = 0 → (wX11_mostOf l1 l2 m2 (fun y5 m4 => ((y5 < l3 → wX11_both_112 Q l7 l8 m4) ∧ (¬ y5 < l3 → (∀ x6 : Int, x6 = bor l7 2 → wX11_both_112 Q x6 l8 m4)))))))))))
def wX11_both_75 (Q : Int → Mem → Prop) (l1 : Int) (l2 : Int) (l3 : Int) (l4 : Int) (l5 : Int) (l6 : Int) (l8 : Int) (s0 : Int) (s1 : Int) (σ : Mem) : Prop := (∀ x1 : Int, x1 = bor s1 s0 → wX11_both_78 Q l1 l2 l3 l4 l5 l6 x1 l8 σ)
def wX11_both (l1 : Int) (l2 : Int) (l3 : Int) (l4 : Int) (l5 : Int) (l6 : Int) (σ : Mem) (Q : Int → Mem → Prop) : Prop := (∀ m1 : Mem, m1 = up2 σ 300 5 0 → (wX11_isPayment l1 l2 l3 m1 (fun y3 m2 => ((y3 = 0 → Q ((-1)) m2) ∧ (¬ y3 = 0 → (wX11_isPayment l4 l5 l6 m2 (fun y5 m4 => ((¬ y5 = 0 → (wX11_layAside 2 m4 (fun m6 => (wX11_goPay l1 l2 l3 m6 (fun y8 m7 => ((y8 = 0 → wX11_both_78 Q l1 l2 l3 l4 l5 l6 0 ((-1)) m7) ∧ (¬ y8 = 0 → (wX11_mostOf l4 l5 m7 (fun y10 m9 => ((y10 < l6 → wX11_both_75 Q l1 l2 l3 l4 l5 l6 y10 0 0 m9) ∧ (¬ y10 < l6 → wX11_both_75 Q l1 l2 l3 l4 l5 l6 y10 1 0 m9))))))))))) ∧ (y5 = 0 → Q ((-1)) m4)))))))))
set_option maxHeartbeats 1000000 in
theorem bX11_both_112 {E : TE} {Q : Int → Mem → Prop} (hR : RI E (some .int) Q) {l7 : Int} {l8 : Int} {σ : Mem} (h : wX11_both_112 Q l7 l8 σ) : GW E cX11_both 9 RX11 8 192 σ 112 [(0, vR 300), (7, vI l7), (8, vI l8)] [] := by
  unfold wX11_both_112 at h
  refine g_aload_n dX11_both_112 rfl ?_
  refine g_iconst dX11_both_113 2 rfl (by decide) ?_
  refine g_cVv (st := []) (av := [vI 2]) (kX11_comesBack h) kd_300 rfl cw_RX11_232 (by decide) (by decide) (Nat.le_of_ble_eq_true rfl) rfl dX11_both_114 (fun m1 h => ?_)
  refine g_aload_n dX11_both_117 rfl ?_
  refine g_iconst dX11_both_118 0 rfl (by decide) ?_
  refine g_putI fp_11_71 kd_300 rfl dX11_both_119 ?_
  refine g_nm (fun m2 em2 => ?_)
  replace h := h m2 em2
  refine g_aload_n dX11_both_122 rfl ?_
  refine g_iload dX11_both_123 rfl ?_
  refine g_i2l dX11_both_125 ?_
  refine g_cVv (st := []) (av := [vL l8]) (kX11_tell h) kd_300 rfl cw_RX11_155 (by decide) (by decide) (Nat.le_of_ble_eq_true rfl) rfl dX11_both_126 (fun m3 h => ?_)
  refine g_iload dX11_both_129 rfl ?_
  exact g_iret hR dX11_both_131 h
set_option maxHeartbeats 1000000 in
theorem bX11_both_78 {E : TE} {Q : Int → Mem → Prop} (hR : RI E (some .int) Q) {l1 : Int} {l2 : Int} {l3 : Int} {l4 : Int} {l5 : Int} {l6 : Int} {l7 : Int} {l8 : Int} {σ : Mem} (h : wX11_both_78 Q l1 l2 l3 l4 l5 l6 l7 l8 σ) : GW E cX11_both 9 RX11 8 192 σ 78 [(0, vR 300), (1, vI l1), (2, vI l2), (3, vI l3), (4, vI l4), (5, vI l5), (6, vI l6), (7, vI l7), (8, vI l8)] [] := by
  unfold wX11_both_78 at h
  refine g_aload_n dX11_both_78 rfl ?_
  refine g_iconst dX11_both_79 2 rfl (by decide) ?_
  refine g_cVv (st := []) (av := [vI 2]) (kX11_comesBack h) kd_300 rfl cw_RX11_232 (by decide) (by decide) (Nat.le_of_ble_eq_true rfl) rfl dX11_both_80 (fun m1 h => ?_)
  refine g_aload_n dX11_both_83 rfl ?_
  refine g_iload dX11_both_84 rfl ?_
  refine g_iload dX11_both_86 rfl ?_
  refine g_iload dX11_both_88 rfl ?_
  refine g_cVi (st := []) (av := [vI l4, vI l5, vI l6]) (kX11_goPay h) kd_300 rfl cw_RX11_256 (by decide) (by decide) (Nat.le_of_ble_eq_true rfl) rfl dX11_both_90 (fun y3 m2 h => ?_)
  obtain ⟨hA, hB⟩ := h
  refine g_if_eq (tgt := 112) dX11_both_93 (by decide) (fun hc => ?_) (fun hc => ?_)
  · replace h := hA hc
    refine g_lv (lv' := [(0, vR 300), (7, vI l7), (8, vI l8)]) [0, 7, 8] rfl ?_
    exact bX11_both_112 hR h
  · replace h := hB hc
    refine g_aload_n dX11_both_96 rfl ?_
    refine g_iload_n dX11_both_97 rfl ?_
    refine g_iload_n dX11_both_98 rfl ?_
    refine g_cVi (st := []) (av := [vI l1, vI l2]) (kX11_mostOf h) kd_300 rfl cw_RX11_235 (by decide) (by decide) (Nat.le_of_ble_eq_true rfl) rfl dX11_both_99 (fun y5 m4 h => ?_)
    refine g_iload_n dX11_both_102 rfl ?_
    obtain ⟨hA, hB⟩ := h
    refine g_icmp_lt (tgt := 112) dX11_both_103 (by decide) (fun hc => ?_) (fun hc => ?_)
    · replace h := hA hc
      refine g_lv (lv' := [(0, vR 300), (7, vI l7), (8, vI l8)]) [0, 7, 8] rfl ?_
      exact bX11_both_112 hR h
    · replace h := hB hc
      refine g_iload dX11_both_106 rfl ?_
      refine g_iconst dX11_both_108 2 rfl (by decide) ?_
      refine g_ior dX11_both_109 ?_
      refine g_topI (fun x6 ex6 => ?_)
      replace h := h x6 ex6
      refine g_istore (lv' := [(7, vI x6), (0, vR 300), (1, vI l1), (2, vI l2), (3, vI l3), (4, vI l4), (5, vI l5), (6, vI l6), (8, vI l8)]) dX11_both_110 (by decide) rfl ?_
      refine g_lv (lv' := [(0, vR 300), (7, vI x6), (8, vI l8)]) [1, 0, 8] rfl ?_
      exact bX11_both_112 hR h
set_option maxHeartbeats 1000000 in
theorem bX11_both_75 {E : TE} {Q : Int → Mem → Prop} (hR : RI E (some .int) Q) {l1 : Int} {l2 : Int} {l3 : Int} {l4 : Int} {l5 : Int} {l6 : Int} {l8 : Int} {s0 : Int} {s1 : Int} {σ : Mem} (h : wX11_both_75 Q l1 l2 l3 l4 l5 l6 l8 s0 s1 σ) : GW E cX11_both 9 RX11 8 192 σ 75 [(0, vR 300), (1, vI l1), (2, vI l2), (3, vI l3), (4, vI l4), (5, vI l5), (6, vI l6), (8, vI l8)] [vI s0, vI s1] := by
  unfold wX11_both_75 at h
  refine g_ior dX11_both_75 ?_
  refine g_topI (fun x1 ex1 => ?_)
  replace h := h x1 ex1
  refine g_istore (lv' := [(7, vI x1), (0, vR 300), (1, vI l1), (2, vI l2), (3, vI l3), (4, vI l4), (5, vI l5), (6, vI l6), (8, vI l8)]) dX11_both_76 (by decide) rfl ?_
  refine g_lv (lv' := [(0, vR 300), (1, vI l1), (2, vI l2), (3, vI l3), (4, vI l4), (5, vI l5), (6, vI l6), (7, vI x1), (8, vI l8)]) [1, 2, 3, 4, 5, 6, 7, 0, 8] rfl ?_
  exact bX11_both_78 hR h
set_option maxHeartbeats 1000000 in
theorem kX11_both {l1 : Int} {l2 : Int} {l3 : Int} {l4 : Int} {l5 : Int} {l6 : Int} {σ : Mem} {Q : Int → Mem → Prop} (h : wX11_both l1 l2 l3 l4 l5 l6 σ Q) (l : Launch) (D : va_G) (cy : Nat → ClassId) (ad : Nat → Nat) : MI l yX11_both cX11_both 9 (some .int) 8 192 D cy ad [vR 300, vI l1, vI l2, vI l3, vI l4, vI l5, vI l6] σ Q := by
  refine m_I (own := RX11) (lv := [(0, vR 300), (1, vI l1), (2, vI l2), (3, vI l3), (4, vI l4), (5, vI l5), (6, vI l6)]) (by decide +kernel) rfl (Nat.le_of_ble_eq_true rfl) rfl (fun E hR => ?_) l D cy ad
  unfold wX11_both at h
  refine g_aload_n dX11_both_0 rfl ?_
  refine g_iconst dX11_both_1 0 rfl (by decide) ?_
  refine g_putI fp_11_68 kd_300 rfl dX11_both_2 ?_
  refine g_nm (fun m1 em1 => ?_)
  replace h := h m1 em1
  refine g_aload_n dX11_both_5 rfl ?_
  refine g_iload_n dX11_both_6 rfl ?_
  refine g_iload_n dX11_both_7 rfl ?_
  refine g_iload_n dX11_both_8 rfl ?_
  refine g_cVi (st := []) (av := [vI l1, vI l2, vI l3]) (kX11_isPayment h) kd_300 rfl cw_RX11_192 (by decide) (by decide) (Nat.le_of_ble_eq_true rfl) rfl dX11_both_9 (fun y3 m2 h => ?_)
  obtain ⟨hA, hB⟩ := h
  refine g_if_eq (tgt := 28) dX11_both_12 (by decide) (fun hc => ?_) (fun hc => ?_)
  · replace h := hA hc
    refine g_iconst dX11_both_28 (-1) rfl (by decide) ?_
    exact g_iret hR dX11_both_29 h
  · replace h := hB hc
    refine g_aload_n dX11_both_15 rfl ?_
    refine g_iload dX11_both_16 rfl ?_
    refine g_iload dX11_both_18 rfl ?_
    refine g_iload dX11_both_20 rfl ?_
    refine g_cVi (st := []) (av := [vI l4, vI l5, vI l6]) (kX11_isPayment h) kd_300 rfl cw_RX11_192 (by decide) (by decide) (Nat.le_of_ble_eq_true rfl) rfl dX11_both_22 (fun y5 m4 h => ?_)
    obtain ⟨hA, hB⟩ := h
    refine g_if_ne (tgt := 30) dX11_both_25 (by decide) (fun hc => ?_) (fun hc => ?_)
    · replace h := hA hc
      refine g_aload_n dX11_both_30 rfl ?_
      refine g_iconst dX11_both_31 2 rfl (by decide) ?_
      refine g_cVv (st := []) (av := [vI 2]) (kX11_layAside h) kd_300 rfl cw_RX11_219 (by decide) (by decide) (Nat.le_of_ble_eq_true rfl) rfl dX11_both_32 (fun m6 h => ?_)
      refine g_iconst dX11_both_35 0 rfl (by decide) ?_
      refine g_istore (lv' := [(7, vI 0), (0, vR 300), (1, vI l1), (2, vI l2), (3, vI l3), (4, vI l4), (5, vI l5), (6, vI l6)]) dX11_both_36 (by decide) rfl ?_
      refine g_iconst dX11_both_38 (-1) rfl (by decide) ?_
      refine g_istore (lv' := [(8, vI ((-1))), (7, vI 0), (0, vR 300), (1, vI l1), (2, vI l2), (3, vI l3), (4, vI l4), (5, vI l5), (6, vI l6)]) dX11_both_39 (by decide) rfl ?_
      refine g_aload_n dX11_both_41 rfl ?_
      refine g_iload_n dX11_both_42 rfl ?_
      refine g_iload_n dX11_both_43 rfl ?_
      refine g_iload_n dX11_both_44 rfl ?_
      refine g_cVi (st := []) (av := [vI l1, vI l2, vI l3]) (kX11_goPay h) kd_300 rfl cw_RX11_256 (by decide) (by decide) (Nat.le_of_ble_eq_true rfl) rfl dX11_both_45 (fun y8 m7 h => ?_)
      obtain ⟨hA, hB⟩ := h
      refine g_if_eq (tgt := 78) dX11_both_48 (by decide) (fun hc => ?_) (fun hc => ?_)
      · replace h := hA hc
        refine g_lv (lv' := [(0, vR 300), (1, vI l1), (2, vI l2), (3, vI l3), (4, vI l4), (5, vI l5), (6, vI l6), (7, vI 0), (8, vI ((-1)))]) [2, 3, 4, 5, 6, 7, 8, 1, 0] rfl ?_
        exact bX11_both_78 hR h
      · replace h := hB hc
        refine g_aload_n dX11_both_51 rfl ?_
        refine g_iload dX11_both_52 rfl ?_
        refine g_iload dX11_both_54 rfl ?_
        refine g_cVi (st := []) (av := [vI l4, vI l5]) (kX11_mostOf h) kd_300 rfl cw_RX11_235 (by decide) (by decide) (Nat.le_of_ble_eq_true rfl) rfl dX11_both_56 (fun y10 m9 h => ?_)
        refine g_istore (lv' := [(8, vI y10), (7, vI 0), (0, vR 300), (1, vI l1), (2, vI l2), (3, vI l3), (4, vI l4), (5, vI l5), (6, vI l6)]) dX11_both_59 (by decide) rfl ?_
        refine g_iload dX11_both_61 rfl ?_
        refine g_iload dX11_both_63 rfl ?_
        refine g_iload dX11_both_65 rfl ?_
        obtain ⟨hA, hB⟩ := h
        refine g_icmp_lt (tgt := 74) dX11_both_67 (by decide) (fun hc => ?_) (fun hc => ?_)
        · replace h := hA hc
          refine g_iconst dX11_both_74 0 rfl (by decide) ?_
          refine g_lv (lv' := [(0, vR 300), (1, vI l1), (2, vI l2), (3, vI l3), (4, vI l4), (5, vI l5), (6, vI l6), (8, vI y10)]) [2, 3, 4, 5, 6, 7, 8, 0] rfl ?_
          exact bX11_both_75 hR h
        · replace h := hB hc
          refine g_iconst dX11_both_70 1 rfl (by decide) ?_
          refine g_goto (tgt := 75) dX11_both_71 (by decide) ?_
          refine g_lv (lv' := [(0, vR 300), (1, vI l1), (2, vI l2), (3, vI l3), (4, vI l4), (5, vI l5), (6, vI l6), (8, vI y10)]) [2, 3, 4, 5, 6, 7, 8, 0] rfl ?_
          exact bX11_both_75 hR h
    · replace h := hB hc
      refine g_iconst dX11_both_28 (-1) rfl (by decide) ?_
      exact g_iret hR dX11_both_29 h
def wX11_refusesLimit (l1 : Int) (l2 : Int) (l3 : Int) (σ : Mem) (Q : Int → Mem → Prop) : Prop := (wX11_areTwo l1 l2 σ (fun y2 m1 => ((y2 = 0 → Q ((-1)) m1) ∧ (¬ y2 = 0 → (wX11_in l3 0 999 m1 (fun y4 m3 => ((¬ y4 = 0 → (wX11_heldBits  m3 (fun y6 m5 => ((y6 = 0 → (wX11_limit l1 l2 m5 (fun y8 m7 => ((¬ y8 = l3 → (wX11_owes l2 l1 m7 (fun y10 m9 => ((y10 ≤ l3 → Q 0 m9) ∧ (¬ y10 ≤ l3 → Q ((-4)) m9))))) ∧ (y8 = l3 → Q ((-2)) m7))))) ∧ (¬ y6 = 0 → Q ((-5)) m5))))) ∧ (y4 = 0 → Q ((-1)) m3))))))))
set_option maxHeartbeats 1000000 in
theorem kX11_refusesLimit {l1 : Int} {l2 : Int} {l3 : Int} {σ : Mem} {Q : Int → Mem → Prop} (h : wX11_refusesLimit l1 l2 l3 σ Q) (l : Launch) (D : va_G) (cy : Nat → ClassId) (ad : Nat → Nat) : MI l yX11_refusesLimit cX11_refusesLimit 4 (some .int) 3 65 D cy ad [vR 300, vI l1, vI l2, vI l3] σ Q := by
  refine m_I (own := RX11) (lv := [(0, vR 300), (1, vI l1), (2, vI l2), (3, vI l3)]) (by decide +kernel) rfl (Nat.le_of_ble_eq_true rfl) rfl (fun E hR => ?_) l D cy ad
  unfold wX11_refusesLimit at h
  refine g_aload_n dX11_refusesLimit_0 rfl ?_
  refine g_iload_n dX11_refusesLimit_1 rfl ?_
  refine g_iload_n dX11_refusesLimit_2 rfl ?_
  refine g_cVi (st := []) (av := [vI l1, vI l2]) (kX11_areTwo h) kd_300 rfl cw_RX11_159 (by decide) (by decide) (Nat.le_of_ble_eq_true rfl) rfl dX11_refusesLimit_3 (fun y2 m1 h => ?_)
  obtain ⟨hA, hB⟩ := h
  refine g_if_eq (tgt := 20) dX11_refusesLimit_6 (by decide) (fun hc => ?_) (fun hc => ?_)
  · replace h := hA hc
    refine g_iconst dX11_refusesLimit_20 (-1) rfl (by decide) ?_
    exact g_iret hR dX11_refusesLimit_21 h
  · replace h := hB hc
    refine g_iload_n dX11_refusesLimit_9 rfl ?_
    refine g_iconst dX11_refusesLimit_10 0 rfl (by decide) ?_
    refine g_sipush dX11_refusesLimit_11 999 rfl (by decide) ?_
    refine g_cSi (st := []) (av := [vI l3, vI 0, vI 999]) (kX11_in h) cw_RX11_74 (by decide) (by decide) (Nat.le_of_ble_eq_true rfl) rfl dX11_refusesLimit_14 (fun y4 m3 h => ?_)
    obtain ⟨hA, hB⟩ := h
    refine g_if_ne (tgt := 22) dX11_refusesLimit_17 (by decide) (fun hc => ?_) (fun hc => ?_)
    · replace h := hA hc
      refine g_aload_n dX11_refusesLimit_22 rfl ?_
      refine g_cVi (st := []) (av := []) (kX11_heldBits h) kd_300 rfl cw_RX11_144 (by decide) (by decide) (Nat.le_of_ble_eq_true rfl) rfl dX11_refusesLimit_23 (fun y6 m5 h => ?_)
      obtain ⟨hA, hB⟩ := h
      refine g_if_eq (tgt := 32) dX11_refusesLimit_26 (by decide) (fun hc => ?_) (fun hc => ?_)
      · replace h := hA hc
        refine g_aload_n dX11_refusesLimit_32 rfl ?_
        refine g_iload_n dX11_refusesLimit_33 rfl ?_
        refine g_iload_n dX11_refusesLimit_34 rfl ?_
        refine g_cVi (st := []) (av := [vI l1, vI l2]) (kX11_limit h) kd_300 rfl cw_RX11_95 (by decide) (by decide) (Nat.le_of_ble_eq_true rfl) rfl dX11_refusesLimit_35 (fun y8 m7 h => ?_)
        refine g_iload_n dX11_refusesLimit_38 rfl ?_
        obtain ⟨hA, hB⟩ := h
        refine g_icmp_ne (tgt := 47) dX11_refusesLimit_39 (by decide) (fun hc => ?_) (fun hc => ?_)
        · replace h := hA hc
          refine g_iload_n dX11_refusesLimit_47 rfl ?_
          refine g_aload_n dX11_refusesLimit_48 rfl ?_
          refine g_iload_n dX11_refusesLimit_49 rfl ?_
          refine g_iload_n dX11_refusesLimit_50 rfl ?_
          refine g_cVi (st := [vI l3]) (av := [vI l2, vI l1]) (kX11_owes h) kd_300 rfl cw_RX11_141 (by decide) (by decide) (Nat.le_of_ble_eq_true rfl) rfl dX11_refusesLimit_51 (fun y10 m9 h => ?_)
          obtain ⟨hA, hB⟩ := h
          refine g_icmp_ge (tgt := 62) dX11_refusesLimit_54 (by decide) (fun hc => ?_) (fun hc => ?_)
          · replace h := hA hc
            refine g_iconst dX11_refusesLimit_62 0 rfl (by decide) ?_
            exact g_iret hR dX11_refusesLimit_63 h
          · replace h := hB hc
            refine g_bipush dX11_refusesLimit_57 (-4) rfl (by decide) ?_
            refine g_goto (tgt := 63) dX11_refusesLimit_59 (by decide) ?_
            exact g_iret hR dX11_refusesLimit_63 h
        · replace h := hB hc
          refine g_bipush dX11_refusesLimit_42 (-2) rfl (by decide) ?_
          refine g_goto (tgt := 63) dX11_refusesLimit_44 (by decide) ?_
          exact g_iret hR dX11_refusesLimit_63 h
      · replace h := hB hc
        refine g_bipush dX11_refusesLimit_29 (-5) rfl (by decide) ?_
        exact g_iret hR dX11_refusesLimit_31 h
    · replace h := hB hc
      refine g_iconst dX11_refusesLimit_20 (-1) rfl (by decide) ?_
      exact g_iret hR dX11_refusesLimit_21 h
def wX11_limits (l1 : Int) (l2 : Int) (l3 : Int) (σ : Mem) (Q : Int → Mem → Prop) : Prop := (∀ m1 : Mem, m1 = up2 σ 300 5 0 → (wX11_refusesLimit l1 l2 l3 m1 (fun y3 m2 => ((0 ≤ y3 → (wX11_change  m2 (fun m4 => (wX11_limit l1 l2 m4 (fun y6 m5 => (wX11_pair l1 l2 m5 (fun y8 m7 => ((0 ≤ w32 (1 + y8) ∧ w32 (1 + y8) < 405) ∧ (∀ m9 : Mem, m9 = up2 m7 301 (w32 (1 + y8)).toNat l3 → Q y6 m9))))))))) ∧ (¬ 0 ≤ y3 → Q y3 m2)))))
set_option maxHeartbeats 1000000 in
theorem kX11_limits {l1 : Int} {l2 : Int} {l3 : Int} {σ : Mem} {Q : Int → Mem → Prop} (h : wX11_limits l1 l2 l3 σ Q) (l : Launch) (D : va_G) (cy : Nat → ClassId) (ad : Nat → Nat) : MI l yX11_limits cX11_limits 6 (some .int) 4 88 D cy ad [vR 300, vI l1, vI l2, vI l3] σ Q := by
  refine m_I (own := RX11) (lv := [(0, vR 300), (1, vI l1), (2, vI l2), (3, vI l3)]) (by decide +kernel) rfl (Nat.le_of_ble_eq_true rfl) rfl (fun E hR => ?_) l D cy ad
  unfold wX11_limits at h
  refine g_aload_n dX11_limits_0 rfl ?_
  refine g_iconst dX11_limits_1 0 rfl (by decide) ?_
  refine g_putI fp_11_68 kd_300 rfl dX11_limits_2 ?_
  refine g_nm (fun m1 em1 => ?_)
  replace h := h m1 em1
  refine g_aload_n dX11_limits_5 rfl ?_
  refine g_iload_n dX11_limits_6 rfl ?_
  refine g_iload_n dX11_limits_7 rfl ?_
  refine g_iload_n dX11_limits_8 rfl ?_
  refine g_cVi (st := []) (av := [vI l1, vI l2, vI l3]) (kX11_refusesLimit h) kd_300 rfl cw_RX11_323 (by decide) (by decide) (Nat.le_of_ble_eq_true rfl) rfl dX11_limits_9 (fun y3 m2 h => ?_)
  refine g_istore (lv' := [(4, vI y3), (0, vR 300), (1, vI l1), (2, vI l2), (3, vI l3)]) dX11_limits_12 (by decide) rfl ?_
  refine g_iload dX11_limits_14 rfl ?_
  obtain ⟨hA, hB⟩ := h
  refine g_if_ge (tgt := 22) dX11_limits_16 (by decide) (fun hc => ?_) (fun hc => ?_)
  · replace h := hA hc
    refine g_aload_n dX11_limits_22 rfl ?_
    refine g_cVv (st := []) (av := []) (kX11_change h) kd_300 rfl cw_RX11_138 (by decide) (by decide) (Nat.le_of_ble_eq_true rfl) rfl dX11_limits_23 (fun m4 h => ?_)
    refine g_aload_n dX11_limits_26 rfl ?_
    refine g_iload_n dX11_limits_27 rfl ?_
    refine g_iload_n dX11_limits_28 rfl ?_
    refine g_cVi (st := []) (av := [vI l1, vI l2]) (kX11_limit h) kd_300 rfl cw_RX11_95 (by decide) (by decide) (Nat.le_of_ble_eq_true rfl) rfl dX11_limits_29 (fun y6 m5 h => ?_)
    refine g_istore (lv' := [(5, vI y6), (4, vI y3), (0, vR 300), (1, vI l1), (2, vI l2), (3, vI l3)]) dX11_limits_32 (by decide) rfl ?_
    refine g_aload_n dX11_limits_34 rfl ?_
    refine g_getR (r := 301) fl_11_9 kd_300 rfl dX11_limits_35 ?_
    refine g_iconst dX11_limits_38 1 rfl (by decide) ?_
    refine g_iload_n dX11_limits_39 rfl ?_
    refine g_iload_n dX11_limits_40 rfl ?_
    refine g_cSi (st := [vI 1, vR 301]) (av := [vI l1, vI l2]) (kX11_pair h) cw_RX11_82 (by decide) (by decide) (Nat.le_of_ble_eq_true rfl) rfl dX11_limits_41 (fun y8 m7 h => ?_)
    refine g_iadd dX11_limits_44 ?_
    refine g_iload_n dX11_limits_45 rfl ?_
    obtain ⟨hin, h⟩ := h
    refine g_iast kd_301 hin dX11_limits_46 ?_
    refine g_nm (fun m9 em9 => ?_)
    replace h := h m9 em9
    refine g_iload dX11_limits_47 rfl ?_
    exact g_iret hR dX11_limits_49 h
  · replace h := hB hc
    refine g_iload dX11_limits_19 rfl ?_
    exact g_iret hR dX11_limits_21 h
def wX11_refusesLet (l1 : Int) (l2 : Int) (l3 : Int) (σ : Mem) (Q : Int → Mem → Prop) : Prop := (wX11_isPayment l1 l2 l3 σ (fun y2 m1 => ((¬ y2 = 0 → (wX11_heldBits  m1 (fun y4 m3 => ((y4 = 0 → (wX11_owes l1 l2 m3 (fun y6 m5 => ((l3 ≤ y6 → Q 0 m5) ∧ (¬ l3 ≤ y6 → Q ((-4)) m5))))) ∧ (¬ y4 = 0 → Q ((-5)) m3))))) ∧ (y2 = 0 → Q ((-1)) m1))))
set_option maxHeartbeats 1000000 in
theorem kX11_refusesLet {l1 : Int} {l2 : Int} {l3 : Int} {σ : Mem} {Q : Int → Mem → Prop} (h : wX11_refusesLet l1 l2 l3 σ Q) (l : Launch) (D : va_G) (cy : Nat → ClassId) (ad : Nat → Nat) : MI l yX11_refusesLet cX11_refusesLet 4 (some .int) 4 88 D cy ad [vR 300, vI l1, vI l2, vI l3] σ Q := by
  refine m_I (own := RX11) (lv := [(0, vR 300), (1, vI l1), (2, vI l2), (3, vI l3)]) (by decide +kernel) rfl (Nat.le_of_ble_eq_true rfl) rfl (fun E hR => ?_) l D cy ad
  unfold wX11_refusesLet at h
  refine g_aload_n dX11_refusesLet_0 rfl ?_
  refine g_iload_n dX11_refusesLet_1 rfl ?_
  refine g_iload_n dX11_refusesLet_2 rfl ?_
  refine g_iload_n dX11_refusesLet_3 rfl ?_
  refine g_cVi (st := []) (av := [vI l1, vI l2, vI l3]) (kX11_isPayment h) kd_300 rfl cw_RX11_192 (by decide) (by decide) (Nat.le_of_ble_eq_true rfl) rfl dX11_refusesLet_4 (fun y2 m1 h => ?_)
  obtain ⟨hA, hB⟩ := h
  refine g_if_ne (tgt := 14) dX11_refusesLet_7 (by decide) (fun hc => ?_) (fun hc => ?_)
  · replace h := hA hc
    refine g_aload_n dX11_refusesLet_14 rfl ?_
    refine g_cVi (st := []) (av := []) (kX11_heldBits h) kd_300 rfl cw_RX11_144 (by decide) (by decide) (Nat.le_of_ble_eq_true rfl) rfl dX11_refusesLet_15 (fun y4 m3 h => ?_)
    obtain ⟨hA, hB⟩ := h
    refine g_if_eq (tgt := 26) dX11_refusesLet_18 (by decide) (fun hc => ?_) (fun hc => ?_)
    · replace h := hA hc
      refine g_aload_n dX11_refusesLet_26 rfl ?_
      refine g_iload_n dX11_refusesLet_27 rfl ?_
      refine g_iload_n dX11_refusesLet_28 rfl ?_
      refine g_cVi (st := []) (av := [vI l1, vI l2]) (kX11_owes h) kd_300 rfl cw_RX11_141 (by decide) (by decide) (Nat.le_of_ble_eq_true rfl) rfl dX11_refusesLet_29 (fun y6 m5 h => ?_)
      refine g_iload_n dX11_refusesLet_32 rfl ?_
      obtain ⟨hA, hB⟩ := h
      refine g_icmp_ge (tgt := 41) dX11_refusesLet_33 (by decide) (fun hc => ?_) (fun hc => ?_)
      · replace h := hA hc
        refine g_iconst dX11_refusesLet_41 0 rfl (by decide) ?_
        exact g_iret hR dX11_refusesLet_42 h
      · replace h := hB hc
        refine g_bipush dX11_refusesLet_36 (-4) rfl (by decide) ?_
        refine g_goto (tgt := 42) dX11_refusesLet_38 (by decide) ?_
        exact g_iret hR dX11_refusesLet_42 h
    · replace h := hB hc
      refine g_bipush dX11_refusesLet_21 (-5) rfl (by decide) ?_
      refine g_goto (tgt := 42) dX11_refusesLet_23 (by decide) ?_
      exact g_iret hR dX11_refusesLet_42 h
  · replace h := hB hc
    refine g_iconst dX11_refusesLet_10 (-1) rfl (by decide) ?_
    refine g_goto (tgt := 42) dX11_refusesLet_11 (by decide) ?_
    exact g_iret hR dX11_refusesLet_42 h
def wX11_lets (l1 : Int) (l2 : Int) (l3 : Int) (σ : Mem) (Q : Int → Mem → Prop) : Prop := (∀ m1 : Mem, m1 = up2 σ 300 5 0 → (wX11_refusesLet l1 l2 l3 m1 (fun y3 m2 => ((0 ≤ y3 → (wX11_change  m2 (fun m4 => (wX11_straight l2 l1 l3 m4 (fun m5 => (wX11_owes l1 l2 m5 (fun y7 m6 => Q y7 m6))))))) ∧ (¬ 0 ≤ y3 → Q y3 m2)))))
set_option maxHeartbeats 1000000 in
theorem kX11_lets {l1 : Int} {l2 : Int} {l3 : Int} {σ : Mem} {Q : Int → Mem → Prop} (h : wX11_lets l1 l2 l3 σ Q) (l : Launch) (D : va_G) (cy : Nat → ClassId) (ad : Nat → Nat) : MI l yX11_lets cX11_lets 5 (some .int) 5 111 D cy ad [vR 300, vI l1, vI l2, vI l3] σ Q := by
  refine m_I (own := RX11) (lv := [(0, vR 300), (1, vI l1), (2, vI l2), (3, vI l3)]) (by decide +kernel) rfl (Nat.le_of_ble_eq_true rfl) rfl (fun E hR => ?_) l D cy ad
  unfold wX11_lets at h
  refine g_aload_n dX11_lets_0 rfl ?_
  refine g_iconst dX11_lets_1 0 rfl (by decide) ?_
  refine g_putI fp_11_68 kd_300 rfl dX11_lets_2 ?_
  refine g_nm (fun m1 em1 => ?_)
  replace h := h m1 em1
  refine g_aload_n dX11_lets_5 rfl ?_
  refine g_iload_n dX11_lets_6 rfl ?_
  refine g_iload_n dX11_lets_7 rfl ?_
  refine g_iload_n dX11_lets_8 rfl ?_
  refine g_cVi (st := []) (av := [vI l1, vI l2, vI l3]) (kX11_refusesLet h) kd_300 rfl cw_RX11_326 (by decide) (by decide) (Nat.le_of_ble_eq_true rfl) rfl dX11_lets_9 (fun y3 m2 h => ?_)
  refine g_istore (lv' := [(4, vI y3), (0, vR 300), (1, vI l1), (2, vI l2), (3, vI l3)]) dX11_lets_12 (by decide) rfl ?_
  refine g_iload dX11_lets_14 rfl ?_
  obtain ⟨hA, hB⟩ := h
  refine g_if_ge (tgt := 22) dX11_lets_16 (by decide) (fun hc => ?_) (fun hc => ?_)
  · replace h := hA hc
    refine g_aload_n dX11_lets_22 rfl ?_
    refine g_cVv (st := []) (av := []) (kX11_change h) kd_300 rfl cw_RX11_138 (by decide) (by decide) (Nat.le_of_ble_eq_true rfl) rfl dX11_lets_23 (fun m4 h => ?_)
    refine g_aload_n dX11_lets_26 rfl ?_
    refine g_iload_n dX11_lets_27 rfl ?_
    refine g_iload_n dX11_lets_28 rfl ?_
    refine g_iload_n dX11_lets_29 rfl ?_
    refine g_cVv (st := []) (av := [vI l2, vI l1, vI l3]) (kX11_straight h) kd_300 rfl cw_RX11_188 (by decide) (by decide) (Nat.le_of_ble_eq_true rfl) rfl dX11_lets_30 (fun m5 h => ?_)
    refine g_aload_n dX11_lets_33 rfl ?_
    refine g_iload_n dX11_lets_34 rfl ?_
    refine g_iload_n dX11_lets_35 rfl ?_
    refine g_cVi (st := []) (av := [vI l1, vI l2]) (kX11_owes h) kd_300 rfl cw_RX11_141 (by decide) (by decide) (Nat.le_of_ble_eq_true rfl) rfl dX11_lets_36 (fun y7 m6 h => ?_)
    exact g_iret hR dX11_lets_39 h
  · replace h := hB hc
    refine g_iload dX11_lets_19 rfl ?_
    exact g_iret hR dX11_lets_21 h
def wX11_leaves_109 (K70 : (Int × Int × Int) → Mem → Prop) (Q : Int → Mem → Prop) (l1 : Int) (l3 : Int) (s0 : Int) (s1 : Int) (s2 : Int) (σ : Mem) : Prop := (∀ x1 : Int, x1 = w32 (s2 + (w32 (s1 + s0))) → (wX11_pair l1 l3 σ (fun y3 m2 => ((0 ≤ w32 (1 + y3) ∧ w32 (1 + y3) < 405) ∧ (∀ m4 : Mem, m4 = up2 m2 301 (w32 (1 + y3)).toNat 0 → (wX11_pair l3 l1 m4 (fun y6 m5 => ((0 ≤ w32 (1 + y6) ∧ w32 (1 + y6) < 405) ∧ (∀ m7 : Mem, m7 = up2 m5 301 (w32 (1 + y6)).toNat 0 → (∀ x8 : Int, x8 = w32 (l3 + 1) → K70 (l1, x1, x8) m7))))))))))
def wX11_leaves_95 (K70 : (Int × Int × Int) → Mem → Prop) (Q : Int → Mem → Prop) (l1 : Int) (l3 : Int) (s0 : Int) (s1 : Int) (σ : Mem) : Prop := (wX11_limit l3 l1 σ (fun y2 m1 => ((y2 ≤ 0 → wX11_leaves_109 K70 Q l1 l3 0 s0 s1 m1) ∧ (¬ y2 ≤ 0 → wX11_leaves_109 K70 Q l1 l3 1 s0 s1 m1))))
def wX11_leaves_70 (K70 : (Int × Int × Int) → Mem → Prop) (Q : Int → Mem → Prop) (l1 : Int) (l2 : Int) (l3 : Int) (σ : Mem) : Prop := ((σ 301 0 ≤ l3 → Q l2 σ) ∧ (¬ σ 301 0 ≤ l3 → (wX11_limit l1 l3 σ (fun y2 m1 => ((y2 ≤ 0 → wX11_leaves_95 K70 Q l1 l3 0 l2 m1) ∧ (¬ y2 ≤ 0 → wX11_leaves_95 K70 Q l1 l3 1 l2 m1))))))
def wLX11_leaves_70 (Q : Int → Mem → Prop) (l1 : Int) (l2 : Int) (l3 : Int) (σ : Mem) : Prop := ∃ n, lp (fun (K70 : (Int × Int × Int) → Mem → Prop) (x : Int × Int × Int) (σ : Mem) => wX11_leaves_70 K70 Q x.1 x.2.1 x.2.2 σ) n (l1, l2, l3) σ
def wX11_leaves_27 (K27 : (Int × Int) → Mem → Prop) (Q : Int → Mem → Prop) (l1 : Int) (l2 : Int) (σ : Mem) : Prop := ((σ 301 0 ≤ l2 → (wX11_change  σ (fun m1 => wLX11_leaves_70 Q l1 0 0 m1))) ∧ (¬ σ 301 0 ≤ l2 → (wX11_pair l1 l2 σ (fun y3 m2 => ((0 ≤ w32 (65 + y3) ∧ w32 (65 + y3) < 405) ∧ ((m2 301 (w32 (65 + y3)).toNat = 0 → (∀ x4 : Int, x4 = w32 (l2 + 1) → K27 (l1, x4) m2)) ∧ (¬ m2 301 (w32 (65 + y3)).toNat = 0 → Q ((-4)) m2)))))))
def wLX11_leaves_27 (Q : Int → Mem → Prop) (l1 : Int) (l2 : Int) (σ : Mem) : Prop := ∃ n, lp (fun (K27 : (Int × Int) → Mem → Prop) (x : Int × Int) (σ : Mem) => wX11_leaves_27 K27 Q x.1 x.2 σ) n (l1, l2) σ
def wX11_leaves (l1 : Int) (σ : Mem) (Q : Int → Mem → Prop) : Prop := (∀ m1 : Mem, m1 = up2 σ 300 5 0 → (wX11_isMember l1 m1 (fun y3 m2 => ((¬ y3 = 0 → (wX11_heldBits  m2 (fun y5 m4 => ((y5 = 0 → wLX11_leaves_27 Q l1 0 m4) ∧ (¬ y5 = 0 → Q ((-5)) m4))))) ∧ (y3 = 0 → Q ((-1)) m2)))))
set_option maxHeartbeats 1000000 in
theorem bX11_leaves_109 {E : TE} {K70 : (Int × Int × Int) → Mem → Prop} (hK70 : ∀ (x : Int × Int × Int) (σ : Mem), K70 x σ → GW E cX11_leaves 4 RX11 2 43 σ 70 [(0, vR 300), (1, vI x.1), (2, vI x.2.1), (3, vI x.2.2)] []) {Q : Int → Mem → Prop} (hR : RI E (some .int) Q) {l1 : Int} {l3 : Int} {s0 : Int} {s1 : Int} {s2 : Int} {σ : Mem} (h : wX11_leaves_109 K70 Q l1 l3 s0 s1 s2 σ) : GW E cX11_leaves 4 RX11 2 43 σ 109 [(0, vR 300), (1, vI l1), (3, vI l3)] [vI s0, vI s1, vI s2] := by
  unfold wX11_leaves_109 at h
  refine g_iadd dX11_leaves_109 ?_
  refine g_iadd dX11_leaves_110 ?_
  refine g_topI (fun x1 ex1 => ?_)
  replace h := h x1 ex1
  refine g_istore_n (lv' := [(2, vI x1), (0, vR 300), (1, vI l1), (3, vI l3)]) dX11_leaves_111 (by decide) rfl ?_
  refine g_aload_n dX11_leaves_112 rfl ?_
  refine g_getR (r := 301) fl_11_9 kd_300 rfl dX11_leaves_113 ?_
  refine g_iconst dX11_leaves_116 1 rfl (by decide) ?_
  refine g_iload_n dX11_leaves_117 rfl ?_
  refine g_iload_n dX11_leaves_118 rfl ?_
  refine g_cSi (st := [vI 1, vR 301]) (av := [vI l1, vI l3]) (kX11_pair h) cw_RX11_82 (by decide) (by decide) (Nat.le_of_ble_eq_true rfl) rfl dX11_leaves_119 (fun y3 m2 h => ?_)
  refine g_iadd dX11_leaves_122 ?_
  refine g_iconst dX11_leaves_123 0 rfl (by decide) ?_
  obtain ⟨hin, h⟩ := h
  refine g_iast kd_301 hin dX11_leaves_124 ?_
  refine g_nm (fun m4 em4 => ?_)
  replace h := h m4 em4
  refine g_aload_n dX11_leaves_125 rfl ?_
  refine g_getR (r := 301) fl_11_9 kd_300 rfl dX11_leaves_126 ?_
  refine g_iconst dX11_leaves_129 1 rfl (by decide) ?_
  refine g_iload_n dX11_leaves_130 rfl ?_
  refine g_iload_n dX11_leaves_131 rfl ?_
  refine g_cSi (st := [vI 1, vR 301]) (av := [vI l3, vI l1]) (kX11_pair h) cw_RX11_82 (by decide) (by decide) (Nat.le_of_ble_eq_true rfl) rfl dX11_leaves_132 (fun y6 m5 h => ?_)
  refine g_iadd dX11_leaves_135 ?_
  refine g_iconst dX11_leaves_136 0 rfl (by decide) ?_
  obtain ⟨hin, h⟩ := h
  refine g_iast kd_301 hin dX11_leaves_137 ?_
  refine g_nm (fun m7 em7 => ?_)
  replace h := h m7 em7
  refine g_iinc (lv' := [(3, vI (w32 (l3 + 1))), (2, vI x1), (0, vR 300), (1, vI l1)]) dX11_leaves_138 rfl (by decide) rfl ?_
  refine g_loc (a := w32 (l3 + 1)) (i := 3) (lv := [(2, vI x1), (0, vR 300), (1, vI l1)]) (fun x8 ex8 => ?_)
  replace h := h x8 ex8
  refine g_goto (tgt := 70) dX11_leaves_141 (by decide) ?_
  refine g_lv (lv' := [(0, vR 300), (1, vI l1), (2, vI x1), (3, vI x8)]) [2, 3, 1, 0] rfl ?_
  exact hK70 ((l1, x1, x8)) m7 h
set_option maxHeartbeats 1000000 in
theorem bX11_leaves_95 {E : TE} {K70 : (Int × Int × Int) → Mem → Prop} (hK70 : ∀ (x : Int × Int × Int) (σ : Mem), K70 x σ → GW E cX11_leaves 4 RX11 2 43 σ 70 [(0, vR 300), (1, vI x.1), (2, vI x.2.1), (3, vI x.2.2)] []) {Q : Int → Mem → Prop} (hR : RI E (some .int) Q) {l1 : Int} {l3 : Int} {s0 : Int} {s1 : Int} {σ : Mem} (h : wX11_leaves_95 K70 Q l1 l3 s0 s1 σ) : GW E cX11_leaves 4 RX11 2 43 σ 95 [(0, vR 300), (1, vI l1), (3, vI l3)] [vI s0, vI s1] := by
  unfold wX11_leaves_95 at h
  refine g_aload_n dX11_leaves_95 rfl ?_
  refine g_iload_n dX11_leaves_96 rfl ?_
  refine g_iload_n dX11_leaves_97 rfl ?_
  refine g_cVi (st := [vI s0, vI s1]) (av := [vI l3, vI l1]) (kX11_limit h) kd_300 rfl cw_RX11_95 (by decide) (by decide) (Nat.le_of_ble_eq_true rfl) rfl dX11_leaves_98 (fun y2 m1 h => ?_)
  obtain ⟨hA, hB⟩ := h
  refine g_if_le (tgt := 108) dX11_leaves_101 (by decide) (fun hc => ?_) (fun hc => ?_)
  · replace h := hA hc
    refine g_iconst dX11_leaves_108 0 rfl (by decide) ?_
    exact bX11_leaves_109 hK70 hR h
  · replace h := hB hc
    refine g_iconst dX11_leaves_104 1 rfl (by decide) ?_
    refine g_goto (tgt := 109) dX11_leaves_105 (by decide) ?_
    exact bX11_leaves_109 hK70 hR h
set_option maxHeartbeats 1000000 in
theorem bX11_leaves_70 {E : TE} {K70 : (Int × Int × Int) → Mem → Prop} (hK70 : ∀ (x : Int × Int × Int) (σ : Mem), K70 x σ → GW E cX11_leaves 4 RX11 2 43 σ 70 [(0, vR 300), (1, vI x.1), (2, vI x.2.1), (3, vI x.2.2)] []) {Q : Int → Mem → Prop} (hR : RI E (some .int) Q) {l1 : Int} {l2 : Int} {l3 : Int} {σ : Mem} (h : wX11_leaves_70 K70 Q l1 l2 l3 σ) : GW E cX11_leaves 4 RX11 2 43 σ 70 [(0, vR 300), (1, vI l1), (2, vI l2), (3, vI l3)] [] := by
  unfold wX11_leaves_70 at h
  refine g_iload_n dX11_leaves_70 rfl ?_
  refine g_aload_n dX11_leaves_71 rfl ?_
  refine g_getR (r := 301) fl_11_9 kd_300 rfl dX11_leaves_72 ?_
  refine g_iconst dX11_leaves_75 0 rfl (by decide) ?_
  refine g_iald kd_301 (by decide) dX11_leaves_76 ?_
  obtain ⟨hA, hB⟩ := h
  refine g_icmp_ge (tgt := 144) dX11_leaves_77 (by decide) (fun hc => ?_) (fun hc => ?_)
  · replace h := hA hc
    refine g_iload_n dX11_leaves_144 rfl ?_
    exact g_iret hR dX11_leaves_145 h
  · replace h := hB hc
    refine g_iload_n dX11_leaves_80 rfl ?_
    refine g_aload_n dX11_leaves_81 rfl ?_
    refine g_iload_n dX11_leaves_82 rfl ?_
    refine g_iload_n dX11_leaves_83 rfl ?_
    refine g_cVi (st := [vI l2]) (av := [vI l1, vI l3]) (kX11_limit h) kd_300 rfl cw_RX11_95 (by decide) (by decide) (Nat.le_of_ble_eq_true rfl) rfl dX11_leaves_84 (fun y2 m1 h => ?_)
    obtain ⟨hA, hB⟩ := h
    refine g_if_le (tgt := 94) dX11_leaves_87 (by decide) (fun hc => ?_) (fun hc => ?_)
    · replace h := hA hc
      refine g_iconst dX11_leaves_94 0 rfl (by decide) ?_
      refine g_lv (lv' := [(0, vR 300), (1, vI l1), (3, vI l3)]) [0, 1, 3] rfl ?_
      exact bX11_leaves_95 hK70 hR h
    · replace h := hB hc
      refine g_iconst dX11_leaves_90 1 rfl (by decide) ?_
      refine g_goto (tgt := 95) dX11_leaves_91 (by decide) ?_
      refine g_lv (lv' := [(0, vR 300), (1, vI l1), (3, vI l3)]) [0, 1, 3] rfl ?_
      exact bX11_leaves_95 hK70 hR h
theorem eX11_leaves_70 {E : TE} {Q : Int → Mem → Prop} (hR : RI E (some .int) Q) {l1 : Int} {l2 : Int} {l3 : Int} {σ : Mem} (h : wLX11_leaves_70 Q l1 l2 l3 σ) : GW E cX11_leaves 4 RX11 2 43 σ 70 [(0, vR 300), (1, vI l1), (2, vI l2), (3, vI l3)] [] := by
  obtain ⟨n, h⟩ := h
  exact lp_GW (P := fun (x : Int × Int × Int) (σ : Mem) => GW E cX11_leaves 4 RX11 2 43 σ 70 [(0, vR 300), (1, vI x.1), (2, vI x.2.1), (3, vI x.2.2)] []) (fun K hK x σ h  => bX11_leaves_70 hK hR h) n _ σ h 
set_option maxHeartbeats 1000000 in
theorem bX11_leaves_27 {E : TE} {K27 : (Int × Int) → Mem → Prop} (hK27 : ∀ (x : Int × Int) (σ : Mem), K27 x σ → GW E cX11_leaves 4 RX11 2 43 σ 27 [(0, vR 300), (1, vI x.1), (2, vI x.2)] []) {Q : Int → Mem → Prop} (hR : RI E (some .int) Q) {l1 : Int} {l2 : Int} {σ : Mem} (h : wX11_leaves_27 K27 Q l1 l2 σ) : GW E cX11_leaves 4 RX11 2 43 σ 27 [(0, vR 300), (1, vI l1), (2, vI l2)] [] := by
  unfold wX11_leaves_27 at h
  refine g_iload_n dX11_leaves_27 rfl ?_
  refine g_aload_n dX11_leaves_28 rfl ?_
  refine g_getR (r := 301) fl_11_9 kd_300 rfl dX11_leaves_29 ?_
  refine g_iconst dX11_leaves_32 0 rfl (by decide) ?_
  refine g_iald kd_301 (by decide) dX11_leaves_33 ?_
  obtain ⟨hA, hB⟩ := h
  refine g_icmp_ge (tgt := 62) dX11_leaves_34 (by decide) (fun hc => ?_) (fun hc => ?_)
  · replace h := hA hc
    refine g_aload_n dX11_leaves_62 rfl ?_
    refine g_cVv (st := []) (av := []) (kX11_change h) kd_300 rfl cw_RX11_138 (by decide) (by decide) (Nat.le_of_ble_eq_true rfl) rfl dX11_leaves_63 (fun m1 h => ?_)
    refine g_iconst dX11_leaves_66 0 rfl (by decide) ?_
    refine g_istore_n (lv' := [(2, vI 0), (0, vR 300), (1, vI l1)]) dX11_leaves_67 (by decide) rfl ?_
    refine g_iconst dX11_leaves_68 0 rfl (by decide) ?_
    refine g_istore_n (lv' := [(3, vI 0), (2, vI 0), (0, vR 300), (1, vI l1)]) dX11_leaves_69 (by decide) rfl ?_
    refine g_lv (lv' := [(0, vR 300), (1, vI l1), (2, vI 0), (3, vI 0)]) [2, 3, 1, 0] rfl ?_
    exact eX11_leaves_70 hR h
  · replace h := hB hc
    refine g_aload_n dX11_leaves_37 rfl ?_
    refine g_getR (r := 301) fl_11_9 kd_300 rfl dX11_leaves_38 ?_
    refine g_bipush dX11_leaves_41 65 rfl (by decide) ?_
    refine g_iload_n dX11_leaves_43 rfl ?_
    refine g_iload_n dX11_leaves_44 rfl ?_
    refine g_cSi (st := [vI 65, vR 301]) (av := [vI l1, vI l2]) (kX11_pair h) cw_RX11_82 (by decide) (by decide) (Nat.le_of_ble_eq_true rfl) rfl dX11_leaves_45 (fun y3 m2 h => ?_)
    refine g_iadd dX11_leaves_48 ?_
    obtain ⟨hin, h⟩ := h
    refine g_iald kd_301 hin dX11_leaves_49 ?_
    obtain ⟨hA, hB⟩ := h
    refine g_if_eq (tgt := 56) dX11_leaves_50 (by decide) (fun hc => ?_) (fun hc => ?_)
    · replace h := hA hc
      refine g_iinc (lv' := [(2, vI (w32 (l2 + 1))), (0, vR 300), (1, vI l1)]) dX11_leaves_56 rfl (by decide) rfl ?_
      refine g_loc (a := w32 (l2 + 1)) (i := 2) (lv := [(0, vR 300), (1, vI l1)]) (fun x4 ex4 => ?_)
      replace h := h x4 ex4
      refine g_goto (tgt := 27) dX11_leaves_59 (by decide) ?_
      refine g_lv (lv' := [(0, vR 300), (1, vI l1), (2, vI x4)]) [1, 2, 0] rfl ?_
      exact hK27 ((l1, x4)) m2 h
    · replace h := hB hc
      refine g_bipush dX11_leaves_53 (-4) rfl (by decide) ?_
      exact g_iret hR dX11_leaves_55 h
theorem eX11_leaves_27 {E : TE} {Q : Int → Mem → Prop} (hR : RI E (some .int) Q) {l1 : Int} {l2 : Int} {σ : Mem} (h : wLX11_leaves_27 Q l1 l2 σ) : GW E cX11_leaves 4 RX11 2 43 σ 27 [(0, vR 300), (1, vI l1), (2, vI l2)] [] := by
  obtain ⟨n, h⟩ := h
  exact lp_GW (P := fun (x : Int × Int) (σ : Mem) => GW E cX11_leaves 4 RX11 2 43 σ 27 [(0, vR 300), (1, vI x.1), (2, vI x.2)] []) (fun K hK x σ h  => bX11_leaves_27 hK hR h) n _ σ h 
set_option maxHeartbeats 1000000 in
theorem kX11_leaves {l1 : Int} {σ : Mem} {Q : Int → Mem → Prop} (h : wX11_leaves l1 σ Q) (l : Launch) (D : va_G) (cy : Nat → ClassId) (ad : Nat → Nat) : MI l yX11_leaves cX11_leaves 4 (some .int) 2 43 D cy ad [vR 300, vI l1] σ Q := by
  refine m_I (own := RX11) (lv := [(0, vR 300), (1, vI l1)]) (by decide +kernel) rfl (Nat.le_of_ble_eq_true rfl) rfl (fun E hR => ?_) l D cy ad
  unfold wX11_leaves at h
  refine g_aload_n dX11_leaves_0 rfl ?_
  refine g_iconst dX11_leaves_1 0 rfl (by decide) ?_
  refine g_putI fp_11_68 kd_300 rfl dX11_leaves_2 ?_
  refine g_nm (fun m1 em1 => ?_)
  replace h := h m1 em1
  refine g_aload_n dX11_leaves_5 rfl ?_
  refine g_iload_n dX11_leaves_6 rfl ?_
  refine g_cVi (st := []) (av := [vI l1]) (kX11_isMember h) kd_300 rfl cw_RX11_78 (by decide) (by decide) (Nat.le_of_ble_eq_true rfl) rfl dX11_leaves_7 (fun y3 m2 h => ?_)
  obtain ⟨hA, hB⟩ := h
  refine g_if_ne (tgt := 15) dX11_leaves_10 (by decide) (fun hc => ?_) (fun hc => ?_)
  · replace h := hA hc
    refine g_aload_n dX11_leaves_15 rfl ?_
    refine g_cVi (st := []) (av := []) (kX11_heldBits h) kd_300 rfl cw_RX11_144 (by decide) (by decide) (Nat.le_of_ble_eq_true rfl) rfl dX11_leaves_16 (fun y5 m4 h => ?_)
    obtain ⟨hA, hB⟩ := h
    refine g_if_eq (tgt := 25) dX11_leaves_19 (by decide) (fun hc => ?_) (fun hc => ?_)
    · replace h := hA hc
      refine g_iconst dX11_leaves_25 0 rfl (by decide) ?_
      refine g_istore_n (lv' := [(2, vI 0), (0, vR 300), (1, vI l1)]) dX11_leaves_26 (by decide) rfl ?_
      refine g_lv (lv' := [(0, vR 300), (1, vI l1), (2, vI 0)]) [1, 2, 0] rfl ?_
      exact eX11_leaves_27 hR h
    · replace h := hB hc
      refine g_bipush dX11_leaves_22 (-5) rfl (by decide) ?_
      exact g_iret hR dX11_leaves_24 h
  · replace h := hB hc
    refine g_iconst dX11_leaves_13 (-1) rfl (by decide) ?_
    exact g_iret hR dX11_leaves_14 h
def wX11_act_306 (Q : Int → Mem → Prop) (s0 : Int) (s1 : Int) (σ : Mem) : Prop := (wX11_free s1 s0 σ (fun m1 => Q 1 m1))
def wX11_act (l1 : Int) (σ : Mem) (Q : Int → Mem → Prop) : Prop := ((0 ≤ w32 (l1 + 1) ∧ w32 (l1 + 1) < 320) ∧ (∀ x1 : Int, x1 = σ 310 (w32 (l1 + 1)).toNat → ((0 ≤ w32 (l1 + 2) ∧ w32 (l1 + 2) < 320) ∧ (∀ x2 : Int, x2 = σ 310 (w32 (l1 + 2)).toNat → ((0 ≤ w32 (l1 + 3) ∧ w32 (l1 + 3) < 320) ∧ (∀ x3 : Int, x3 = σ 310 (w32 (l1 + 3)).toNat → ((0 ≤ l1 ∧ l1 < 320) ∧ ((σ 310 l1.toNat = 102 → (wX11_refusesLet x1 x2 x3 σ (fun y5 m4 => ((0 ≤ y5 → (wX11_straight x2 x1 x3 m4 (fun m6 => Q 1 m6))) ∧ (¬ 0 ≤ y5 → Q 0 m4))))) ∧ (σ 310 l1.toNat = 103 → (wX11_isHeld x1 σ (fun y8 m7 => ((¬ y8 = 0 → ((0 ≤ l1 ∧ l1 < 320) ∧ ((¬ m7 310 l1.toNat = 109 → wX11_act_306 Q 0 x1 m7) ∧ (m7 310 l1.toNat = 109 → wX11_act_306 Q 1 x1 m7)))) ∧ (y8 = 0 → Q 0 m7))))) ∧ (σ 310 l1.toNat = 104 → (wX11_isPayment x1 x2 x3 σ (fun y10 m9 => ((y10 = 0 → Q 0 m9) ∧ (¬ y10 = 0 → (wX11_freePlace  m9 (fun y12 m11 => ((y12 = 4 → Q 0 m11) ∧ (¬ y12 = 4 → (wX11_mostOf x1 x2 m11 (fun y14 m13 => ((x3 ≤ y14 → (wX11_freePlace  m13 (fun y16 m15 => (wX11_hold y16 x1 x2 x3 m15 (fun m17 => Q 1 m17))))) ∧ (¬ x3 ≤ y14 → Q 0 m13))))))))))))) ∧ (σ 310 l1.toNat = 107 → (wX11_refusesStock x1 x3 σ (fun y19 m18 => ((0 ≤ y19 → ((0 ≤ w32 (129 + x1) ∧ w32 (129 + x1) < 405) ∧ (∀ m20 : Mem, m20 = up2 m18 301 (w32 (129 + x1)).toNat x3 → Q 1 m20))) ∧ (¬ 0 ≤ y19 → Q 0 m18))))) ∧ (σ 310 l1.toNat = 108 → (wX11_refusesLimit x1 x2 x3 σ (fun y22 m21 => ((0 ≤ y22 → (wX11_pair x1 x2 m21 (fun y24 m23 => ((0 ≤ w32 (1 + y24) ∧ w32 (1 + y24) < 405) ∧ (∀ m25 : Mem, m25 = up2 m23 301 (w32 (1 + y24)).toNat x3 → Q 1 m25))))) ∧ (¬ 0 ≤ y22 → Q 0 m21))))) ∧ (σ 310 l1.toNat = 109 → (wX11_isHeld x1 σ (fun y27 m26 => ((¬ y27 = 0 → ((0 ≤ l1 ∧ l1 < 320) ∧ ((¬ m26 310 l1.toNat = 109 → wX11_act_306 Q 0 x1 m26) ∧ (m26 310 l1.toNat = 109 → wX11_act_306 Q 1 x1 m26)))) ∧ (y27 = 0 → Q 0 m26))))) ∧ (σ 310 l1.toNat = 112 → (wX11_isPayment x1 x2 x3 σ (fun y29 m28 => ((y29 = 0 → Q 0 m28) ∧ (¬ y29 = 0 → (wX11_goPay x1 x2 x3 m28 (fun y31 m30 => ((y31 = 0 → Q 0 m30) ∧ (¬ y31 = 0 → Q 1 m30))))))))) ∧ (σ 310 l1.toNat = 119 → (wX11_isPayment x1 x2 x3 σ (fun y33 m32 => ((y33 = 0 → Q 0 m32) ∧ (¬ y33 = 0 → (wX11_findWay x1 x2 x3 m32 (fun y35 m34 => ((¬ y35 = 0 → (wX11_goOnWay x3 m34 (fun m36 => Q 1 m36))) ∧ (y35 = 0 → Q 0 m34))))))))) ∧ (σ 310 l1.toNat ≠ 102 ∧ σ 310 l1.toNat ≠ 103 ∧ σ 310 l1.toNat ≠ 104 ∧ σ 310 l1.toNat ≠ 107 ∧ σ 310 l1.toNat ≠ 108 ∧ σ 310 l1.toNat ≠ 109 ∧ σ 310 l1.toNat ≠ 112 ∧ σ 310 l1.toNat ≠ 119 → (wX11_heldBits  σ (fun y38 m37 => ((¬ y38 = 0 → Q 0 m37) ∧ (y38 = 0 → (wX11_goSettle  m37 (fun y40 m39 => ((y40 ≤ 0 → Q 0 m39) ∧ (¬ y40 ≤ 0 → Q 1 m39)))))))))))))))))
set_option maxHeartbeats 1000000 in
theorem bX11_act_306 {E : TE} {Q : Int → Mem → Prop} (hR : RI E (some .boolean) Q) {s0 : Int} {s1 : Int} {σ : Mem} (h : wX11_act_306 Q s0 s1 σ) : GW E cX11_act 5 RX11 15 345 σ 306 [] [vI s0, vI s1, vR 300] := by
  unfold wX11_act_306 at h
  refine g_cVv (st := []) (av := [vI s1, vI s0]) (kX11_free h) kd_300 rfl cw_RX11_287 (by decide) (by decide) (Nat.le_of_ble_eq_true rfl) rfl dX11_act_306 (fun m1 h => ?_)
  refine g_iconst dX11_act_309 1 rfl (by decide) ?_
  exact g_zret hR dX11_act_310 (by decide) h
set_option maxHeartbeats 1000000 in
theorem kX11_act {l1 : Int} {σ : Mem} {Q : Int → Mem → Prop} (h : wX11_act l1 σ Q) (l : Launch) (D : va_G) (cy : Nat → ClassId) (ad : Nat → Nat) : MI l yX11_act cX11_act 5 (some .boolean) 15 345 D cy ad [vR 300, vI l1] σ Q := by
  refine m_I (own := RX11) (lv := [(0, vR 300), (1, vI l1)]) (by decide +kernel) rfl (Nat.le_of_ble_eq_true rfl) rfl (fun E hR => ?_) l D cy ad
  unfold wX11_act at h
  refine g_aload_n dX11_act_0 rfl ?_
  refine g_getR (r := 310) fl_11_21 kd_300 rfl dX11_act_1 ?_
  refine g_iload_n dX11_act_4 rfl ?_
  refine g_iconst dX11_act_5 1 rfl (by decide) ?_
  refine g_iadd dX11_act_6 ?_
  obtain ⟨hin, h⟩ := h
  refine g_iald kd_310 hin dX11_act_7 ?_
  refine g_topI (fun x1 ex1 => ?_)
  replace h := h x1 ex1
  refine g_istore_n (lv' := [(2, vI x1), (0, vR 300), (1, vI l1)]) dX11_act_8 (by decide) rfl ?_
  refine g_aload_n dX11_act_9 rfl ?_
  refine g_getR (r := 310) fl_11_21 kd_300 rfl dX11_act_10 ?_
  refine g_iload_n dX11_act_13 rfl ?_
  refine g_iconst dX11_act_14 2 rfl (by decide) ?_
  refine g_iadd dX11_act_15 ?_
  obtain ⟨hin, h⟩ := h
  refine g_iald kd_310 hin dX11_act_16 ?_
  refine g_topI (fun x2 ex2 => ?_)
  replace h := h x2 ex2
  refine g_istore_n (lv' := [(3, vI x2), (2, vI x1), (0, vR 300), (1, vI l1)]) dX11_act_17 (by decide) rfl ?_
  refine g_aload_n dX11_act_18 rfl ?_
  refine g_getR (r := 310) fl_11_21 kd_300 rfl dX11_act_19 ?_
  refine g_iload_n dX11_act_22 rfl ?_
  refine g_iconst dX11_act_23 3 rfl (by decide) ?_
  refine g_iadd dX11_act_24 ?_
  obtain ⟨hin, h⟩ := h
  refine g_iald kd_310 hin dX11_act_25 ?_
  refine g_topI (fun x3 ex3 => ?_)
  replace h := h x3 ex3
  refine g_istore (lv' := [(4, vI x3), (3, vI x2), (2, vI x1), (0, vR 300), (1, vI l1)]) dX11_act_26 (by decide) rfl ?_
  refine g_aload_n dX11_act_28 rfl ?_
  refine g_getR (r := 310) fl_11_21 kd_300 rfl dX11_act_29 ?_
  refine g_iload_n dX11_act_32 rfl ?_
  obtain ⟨hin, h⟩ := h
  refine g_iald kd_310 hin dX11_act_33 ?_
  obtain ⟨hs0, hs1, hs2, hs3, hs4, hs5, hs6, hs7, hsd⟩ := h
  by_cases ej102 : σ 310 l1.toNat = 102
  · refine g_tswIn (tgt := 209) (off := 175) dX11_act_34 102 ej102 (by decide) (by decide) rfl (by decide) ?_
    replace h := hs0 ej102
    refine g_aload_n dX11_act_209 rfl ?_
    refine g_iload_n dX11_act_210 rfl ?_
    refine g_iload_n dX11_act_211 rfl ?_
    refine g_iload dX11_act_212 rfl ?_
    refine g_cVi (st := []) (av := [vI x1, vI x2, vI x3]) (kX11_refusesLet h) kd_300 rfl cw_RX11_326 (by decide) (by decide) (Nat.le_of_ble_eq_true rfl) rfl dX11_act_214 (fun y5 m4 h => ?_)
    obtain ⟨hA, hB⟩ := h
    refine g_if_ge (tgt := 222) dX11_act_217 (by decide) (fun hc => ?_) (fun hc => ?_)
    · replace h := hA hc
      refine g_aload_n dX11_act_222 rfl ?_
      refine g_iload_n dX11_act_223 rfl ?_
      refine g_iload_n dX11_act_224 rfl ?_
      refine g_iload dX11_act_225 rfl ?_
      refine g_cVv (st := []) (av := [vI x2, vI x1, vI x3]) (kX11_straight h) kd_300 rfl cw_RX11_188 (by decide) (by decide) (Nat.le_of_ble_eq_true rfl) rfl dX11_act_227 (fun m6 h => ?_)
      refine g_iconst dX11_act_230 1 rfl (by decide) ?_
      exact g_zret hR dX11_act_231 (by decide) h
    · replace h := hB hc
      refine g_iconst dX11_act_220 0 rfl (by decide) ?_
      exact g_zret hR dX11_act_221 (by decide) h
  by_cases ej103 : σ 310 l1.toNat = 103
  · refine g_tswIn (tgt := 278) (off := 244) dX11_act_34 103 ej103 (by decide) (by decide) rfl (by decide) ?_
    replace h := hs1 ej103
    refine g_aload_n dX11_act_278 rfl ?_
    refine g_iload_n dX11_act_279 rfl ?_
    refine g_cVi (st := []) (av := [vI x1]) (kX11_isHeld h) kd_300 rfl cw_RX11_284 (by decide) (by decide) (Nat.le_of_ble_eq_true rfl) rfl dX11_act_280 (fun y8 m7 h => ?_)
    obtain ⟨hA, hB⟩ := h
    refine g_if_ne (tgt := 288) dX11_act_283 (by decide) (fun hc => ?_) (fun hc => ?_)
    · replace h := hA hc
      refine g_aload_n dX11_act_288 rfl ?_
      refine g_iload_n dX11_act_289 rfl ?_
      refine g_aload_n dX11_act_290 rfl ?_
      refine g_getR (r := 310) fl_11_21 kd_300 rfl dX11_act_291 ?_
      refine g_iload_n dX11_act_294 rfl ?_
      obtain ⟨hin, h⟩ := h
      refine g_iald kd_310 hin dX11_act_295 ?_
      refine g_bipush dX11_act_296 109 rfl (by decide) ?_
      obtain ⟨hA, hB⟩ := h
      refine g_icmp_ne (tgt := 305) dX11_act_298 (by decide) (fun hc => ?_) (fun hc => ?_)
      · replace h := hA hc
        refine g_iconst dX11_act_305 0 rfl (by decide) ?_
        refine g_lv (lv' := []) [] rfl ?_
        exact bX11_act_306 hR h
      · replace h := hB hc
        refine g_iconst dX11_act_301 1 rfl (by decide) ?_
        refine g_goto (tgt := 306) dX11_act_302 (by decide) ?_
        refine g_lv (lv' := []) [] rfl ?_
        exact bX11_act_306 hR h
    · replace h := hB hc
      refine g_iconst dX11_act_286 0 rfl (by decide) ?_
      exact g_zret hR dX11_act_287 (by decide) h
  by_cases ej104 : σ 310 l1.toNat = 104
  · refine g_tswIn (tgt := 232) (off := 198) dX11_act_34 104 ej104 (by decide) (by decide) rfl (by decide) ?_
    replace h := hs2 ej104
    refine g_aload_n dX11_act_232 rfl ?_
    refine g_iload_n dX11_act_233 rfl ?_
    refine g_iload_n dX11_act_234 rfl ?_
    refine g_iload dX11_act_235 rfl ?_
    refine g_cVi (st := []) (av := [vI x1, vI x2, vI x3]) (kX11_isPayment h) kd_300 rfl cw_RX11_192 (by decide) (by decide) (Nat.le_of_ble_eq_true rfl) rfl dX11_act_237 (fun y10 m9 h => ?_)
    obtain ⟨hA, hB⟩ := h
    refine g_if_eq (tgt := 262) dX11_act_240 (by decide) (fun hc => ?_) (fun hc => ?_)
    · replace h := hA hc
      refine g_iconst dX11_act_262 0 rfl (by decide) ?_
      exact g_zret hR dX11_act_263 (by decide) h
    · replace h := hB hc
      refine g_aload_n dX11_act_243 rfl ?_
      refine g_cVi (st := []) (av := []) (kX11_freePlace h) kd_300 rfl cw_RX11_277 (by decide) (by decide) (Nat.le_of_ble_eq_true rfl) rfl dX11_act_244 (fun y12 m11 h => ?_)
      refine g_iconst dX11_act_247 4 rfl (by decide) ?_
      obtain ⟨hA, hB⟩ := h
      refine g_icmp_eq (tgt := 262) dX11_act_248 (by decide) (fun hc => ?_) (fun hc => ?_)
      · replace h := hA hc
        refine g_iconst dX11_act_262 0 rfl (by decide) ?_
        exact g_zret hR dX11_act_263 (by decide) h
      · replace h := hB hc
        refine g_aload_n dX11_act_251 rfl ?_
        refine g_iload_n dX11_act_252 rfl ?_
        refine g_iload_n dX11_act_253 rfl ?_
        refine g_cVi (st := []) (av := [vI x1, vI x2]) (kX11_mostOf h) kd_300 rfl cw_RX11_235 (by decide) (by decide) (Nat.le_of_ble_eq_true rfl) rfl dX11_act_254 (fun y14 m13 h => ?_)
        refine g_iload dX11_act_257 rfl ?_
        obtain ⟨hA, hB⟩ := h
        refine g_icmp_ge (tgt := 264) dX11_act_259 (by decide) (fun hc => ?_) (fun hc => ?_)
        · replace h := hA hc
          refine g_aload_n dX11_act_264 rfl ?_
          refine g_aload_n dX11_act_265 rfl ?_
          refine g_cVi (st := [vR 300]) (av := []) (kX11_freePlace h) kd_300 rfl cw_RX11_277 (by decide) (by decide) (Nat.le_of_ble_eq_true rfl) rfl dX11_act_266 (fun y16 m15 h => ?_)
          refine g_iload_n dX11_act_269 rfl ?_
          refine g_iload_n dX11_act_270 rfl ?_
          refine g_iload dX11_act_271 rfl ?_
          refine g_cVv (st := []) (av := [vI y16, vI x1, vI x2, vI x3]) (kX11_hold h) kd_300 rfl cw_RX11_280 (by decide) (by decide) (Nat.le_of_ble_eq_true rfl) rfl dX11_act_273 (fun m17 h => ?_)
          refine g_iconst dX11_act_276 1 rfl (by decide) ?_
          exact g_zret hR dX11_act_277 (by decide) h
        · replace h := hB hc
          refine g_iconst dX11_act_262 0 rfl (by decide) ?_
          exact g_zret hR dX11_act_263 (by decide) h
  by_cases ej105 : σ 310 l1.toNat = 105
  · refine g_tswIn (tgt := 337) (off := 303) dX11_act_34 105 ej105 (by decide) (by decide) rfl (by decide) ?_
    replace h := hsd (by omega)
    refine g_aload_n dX11_act_337 rfl ?_
    refine g_cVi (st := []) (av := []) (kX11_heldBits h) kd_300 rfl cw_RX11_144 (by decide) (by decide) (Nat.le_of_ble_eq_true rfl) rfl dX11_act_338 (fun y38 m37 h => ?_)
    obtain ⟨hA, hB⟩ := h
    refine g_if_ne (tgt := 355) dX11_act_341 (by decide) (fun hc => ?_) (fun hc => ?_)
    · replace h := hA hc
      refine g_iconst dX11_act_355 0 rfl (by decide) ?_
      exact g_zret hR dX11_act_356 (by decide) h
    · replace h := hB hc
      refine g_aload_n dX11_act_344 rfl ?_
      refine g_cVi (st := []) (av := []) (kX11_goSettle h) kd_300 rfl cw_RX11_250 (by decide) (by decide) (Nat.le_of_ble_eq_true rfl) rfl dX11_act_345 (fun y40 m39 h => ?_)
      obtain ⟨hA, hB⟩ := h
      refine g_if_le (tgt := 355) dX11_act_348 (by decide) (fun hc => ?_) (fun hc => ?_)
      · replace h := hA hc
        refine g_iconst dX11_act_355 0 rfl (by decide) ?_
        exact g_zret hR dX11_act_356 (by decide) h
      · replace h := hB hc
        refine g_iconst dX11_act_351 1 rfl (by decide) ?_
        refine g_goto (tgt := 356) dX11_act_352 (by decide) ?_
        exact g_zret hR dX11_act_356 (by decide) h
  by_cases ej106 : σ 310 l1.toNat = 106
  · refine g_tswIn (tgt := 337) (off := 303) dX11_act_34 106 ej106 (by decide) (by decide) rfl (by decide) ?_
    replace h := hsd (by omega)
    refine g_aload_n dX11_act_337 rfl ?_
    refine g_cVi (st := []) (av := []) (kX11_heldBits h) kd_300 rfl cw_RX11_144 (by decide) (by decide) (Nat.le_of_ble_eq_true rfl) rfl dX11_act_338 (fun y38 m37 h => ?_)
    obtain ⟨hA, hB⟩ := h
    refine g_if_ne (tgt := 355) dX11_act_341 (by decide) (fun hc => ?_) (fun hc => ?_)
    · replace h := hA hc
      refine g_iconst dX11_act_355 0 rfl (by decide) ?_
      exact g_zret hR dX11_act_356 (by decide) h
    · replace h := hB hc
      refine g_aload_n dX11_act_344 rfl ?_
      refine g_cVi (st := []) (av := []) (kX11_goSettle h) kd_300 rfl cw_RX11_250 (by decide) (by decide) (Nat.le_of_ble_eq_true rfl) rfl dX11_act_345 (fun y40 m39 h => ?_)
      obtain ⟨hA, hB⟩ := h
      refine g_if_le (tgt := 355) dX11_act_348 (by decide) (fun hc => ?_) (fun hc => ?_)
      · replace h := hA hc
        refine g_iconst dX11_act_355 0 rfl (by decide) ?_
        exact g_zret hR dX11_act_356 (by decide) h
      · replace h := hB hc
        refine g_iconst dX11_act_351 1 rfl (by decide) ?_
        refine g_goto (tgt := 356) dX11_act_352 (by decide) ?_
        exact g_zret hR dX11_act_356 (by decide) h
  by_cases ej107 : σ 310 l1.toNat = 107
  · refine g_tswIn (tgt := 311) (off := 277) dX11_act_34 107 ej107 (by decide) (by decide) rfl (by decide) ?_
    replace h := hs3 ej107
    refine g_aload_n dX11_act_311 rfl ?_
    refine g_iload_n dX11_act_312 rfl ?_
    refine g_iload dX11_act_313 rfl ?_
    refine g_cVi (st := []) (av := [vI x1, vI x3]) (kX11_refusesStock h) kd_300 rfl cw_RX11_295 (by decide) (by decide) (Nat.le_of_ble_eq_true rfl) rfl dX11_act_315 (fun y19 m18 h => ?_)
    obtain ⟨hA, hB⟩ := h
    refine g_if_ge (tgt := 323) dX11_act_318 (by decide) (fun hc => ?_) (fun hc => ?_)
    · replace h := hA hc
      refine g_aload_n dX11_act_323 rfl ?_
      refine g_getR (r := 301) fl_11_9 kd_300 rfl dX11_act_324 ?_
      refine g_sipush dX11_act_327 129 rfl (by decide) ?_
      refine g_iload_n dX11_act_330 rfl ?_
      refine g_iadd dX11_act_331 ?_
      refine g_iload dX11_act_332 rfl ?_
      obtain ⟨hin, h⟩ := h
      refine g_iast kd_301 hin dX11_act_334 ?_
      refine g_nm (fun m20 em20 => ?_)
      replace h := h m20 em20
      refine g_iconst dX11_act_335 1 rfl (by decide) ?_
      exact g_zret hR dX11_act_336 (by decide) h
    · replace h := hB hc
      refine g_iconst dX11_act_321 0 rfl (by decide) ?_
      exact g_zret hR dX11_act_322 (by decide) h
  by_cases ej108 : σ 310 l1.toNat = 108
  · refine g_tswIn (tgt := 180) (off := 146) dX11_act_34 108 ej108 (by decide) (by decide) rfl (by decide) ?_
    replace h := hs4 ej108
    refine g_aload_n dX11_act_180 rfl ?_
    refine g_iload_n dX11_act_181 rfl ?_
    refine g_iload_n dX11_act_182 rfl ?_
    refine g_iload dX11_act_183 rfl ?_
    refine g_cVi (st := []) (av := [vI x1, vI x2, vI x3]) (kX11_refusesLimit h) kd_300 rfl cw_RX11_323 (by decide) (by decide) (Nat.le_of_ble_eq_true rfl) rfl dX11_act_185 (fun y22 m21 h => ?_)
    obtain ⟨hA, hB⟩ := h
    refine g_if_ge (tgt := 193) dX11_act_188 (by decide) (fun hc => ?_) (fun hc => ?_)
    · replace h := hA hc
      refine g_aload_n dX11_act_193 rfl ?_
      refine g_getR (r := 301) fl_11_9 kd_300 rfl dX11_act_194 ?_
      refine g_iconst dX11_act_197 1 rfl (by decide) ?_
      refine g_iload_n dX11_act_198 rfl ?_
      refine g_iload_n dX11_act_199 rfl ?_
      refine g_cSi (st := [vI 1, vR 301]) (av := [vI x1, vI x2]) (kX11_pair h) cw_RX11_82 (by decide) (by decide) (Nat.le_of_ble_eq_true rfl) rfl dX11_act_200 (fun y24 m23 h => ?_)
      refine g_iadd dX11_act_203 ?_
      refine g_iload dX11_act_204 rfl ?_
      obtain ⟨hin, h⟩ := h
      refine g_iast kd_301 hin dX11_act_206 ?_
      refine g_nm (fun m25 em25 => ?_)
      replace h := h m25 em25
      refine g_iconst dX11_act_207 1 rfl (by decide) ?_
      exact g_zret hR dX11_act_208 (by decide) h
    · replace h := hB hc
      refine g_iconst dX11_act_191 0 rfl (by decide) ?_
      exact g_zret hR dX11_act_192 (by decide) h
  by_cases ej109 : σ 310 l1.toNat = 109
  · refine g_tswIn (tgt := 278) (off := 244) dX11_act_34 109 ej109 (by decide) (by decide) rfl (by decide) ?_
    replace h := hs5 ej109
    refine g_aload_n dX11_act_278 rfl ?_
    refine g_iload_n dX11_act_279 rfl ?_
    refine g_cVi (st := []) (av := [vI x1]) (kX11_isHeld h) kd_300 rfl cw_RX11_284 (by decide) (by decide) (Nat.le_of_ble_eq_true rfl) rfl dX11_act_280 (fun y27 m26 h => ?_)
    obtain ⟨hA, hB⟩ := h
    refine g_if_ne (tgt := 288) dX11_act_283 (by decide) (fun hc => ?_) (fun hc => ?_)
    · replace h := hA hc
      refine g_aload_n dX11_act_288 rfl ?_
      refine g_iload_n dX11_act_289 rfl ?_
      refine g_aload_n dX11_act_290 rfl ?_
      refine g_getR (r := 310) fl_11_21 kd_300 rfl dX11_act_291 ?_
      refine g_iload_n dX11_act_294 rfl ?_
      obtain ⟨hin, h⟩ := h
      refine g_iald kd_310 hin dX11_act_295 ?_
      refine g_bipush dX11_act_296 109 rfl (by decide) ?_
      obtain ⟨hA, hB⟩ := h
      refine g_icmp_ne (tgt := 305) dX11_act_298 (by decide) (fun hc => ?_) (fun hc => ?_)
      · replace h := hA hc
        refine g_iconst dX11_act_305 0 rfl (by decide) ?_
        refine g_lv (lv' := []) [] rfl ?_
        exact bX11_act_306 hR h
      · replace h := hB hc
        refine g_iconst dX11_act_301 1 rfl (by decide) ?_
        refine g_goto (tgt := 306) dX11_act_302 (by decide) ?_
        refine g_lv (lv' := []) [] rfl ?_
        exact bX11_act_306 hR h
    · replace h := hB hc
      refine g_iconst dX11_act_286 0 rfl (by decide) ?_
      exact g_zret hR dX11_act_287 (by decide) h
  by_cases ej110 : σ 310 l1.toNat = 110
  · refine g_tswIn (tgt := 337) (off := 303) dX11_act_34 110 ej110 (by decide) (by decide) rfl (by decide) ?_
    replace h := hsd (by omega)
    refine g_aload_n dX11_act_337 rfl ?_
    refine g_cVi (st := []) (av := []) (kX11_heldBits h) kd_300 rfl cw_RX11_144 (by decide) (by decide) (Nat.le_of_ble_eq_true rfl) rfl dX11_act_338 (fun y38 m37 h => ?_)
    obtain ⟨hA, hB⟩ := h
    refine g_if_ne (tgt := 355) dX11_act_341 (by decide) (fun hc => ?_) (fun hc => ?_)
    · replace h := hA hc
      refine g_iconst dX11_act_355 0 rfl (by decide) ?_
      exact g_zret hR dX11_act_356 (by decide) h
    · replace h := hB hc
      refine g_aload_n dX11_act_344 rfl ?_
      refine g_cVi (st := []) (av := []) (kX11_goSettle h) kd_300 rfl cw_RX11_250 (by decide) (by decide) (Nat.le_of_ble_eq_true rfl) rfl dX11_act_345 (fun y40 m39 h => ?_)
      obtain ⟨hA, hB⟩ := h
      refine g_if_le (tgt := 355) dX11_act_348 (by decide) (fun hc => ?_) (fun hc => ?_)
      · replace h := hA hc
        refine g_iconst dX11_act_355 0 rfl (by decide) ?_
        exact g_zret hR dX11_act_356 (by decide) h
      · replace h := hB hc
        refine g_iconst dX11_act_351 1 rfl (by decide) ?_
        refine g_goto (tgt := 356) dX11_act_352 (by decide) ?_
        exact g_zret hR dX11_act_356 (by decide) h
  by_cases ej111 : σ 310 l1.toNat = 111
  · refine g_tswIn (tgt := 337) (off := 303) dX11_act_34 111 ej111 (by decide) (by decide) rfl (by decide) ?_
    replace h := hsd (by omega)
    refine g_aload_n dX11_act_337 rfl ?_
    refine g_cVi (st := []) (av := []) (kX11_heldBits h) kd_300 rfl cw_RX11_144 (by decide) (by decide) (Nat.le_of_ble_eq_true rfl) rfl dX11_act_338 (fun y38 m37 h => ?_)
    obtain ⟨hA, hB⟩ := h
    refine g_if_ne (tgt := 355) dX11_act_341 (by decide) (fun hc => ?_) (fun hc => ?_)
    · replace h := hA hc
      refine g_iconst dX11_act_355 0 rfl (by decide) ?_
      exact g_zret hR dX11_act_356 (by decide) h
    · replace h := hB hc
      refine g_aload_n dX11_act_344 rfl ?_
      refine g_cVi (st := []) (av := []) (kX11_goSettle h) kd_300 rfl cw_RX11_250 (by decide) (by decide) (Nat.le_of_ble_eq_true rfl) rfl dX11_act_345 (fun y40 m39 h => ?_)
      obtain ⟨hA, hB⟩ := h
      refine g_if_le (tgt := 355) dX11_act_348 (by decide) (fun hc => ?_) (fun hc => ?_)
      · replace h := hA hc
        refine g_iconst dX11_act_355 0 rfl (by decide) ?_
        exact g_zret hR dX11_act_356 (by decide) h
      · replace h := hB hc
        refine g_iconst dX11_act_351 1 rfl (by decide) ?_
        refine g_goto (tgt := 356) dX11_act_352 (by decide) ?_
        exact g_zret hR dX11_act_356 (by decide) h
  by_cases ej112 : σ 310 l1.toNat = 112
  · refine g_tswIn (tgt := 120) (off := 86) dX11_act_34 112 ej112 (by decide) (by decide) rfl (by decide) ?_
    replace h := hs6 ej112
    refine g_aload_n dX11_act_120 rfl ?_
    refine g_iload_n dX11_act_121 rfl ?_
    refine g_iload_n dX11_act_122 rfl ?_
    refine g_iload dX11_act_123 rfl ?_
    refine g_cVi (st := []) (av := [vI x1, vI x2, vI x3]) (kX11_isPayment h) kd_300 rfl cw_RX11_192 (by decide) (by decide) (Nat.le_of_ble_eq_true rfl) rfl dX11_act_125 (fun y29 m28 h => ?_)
    obtain ⟨hA, hB⟩ := h
    refine g_if_eq (tgt := 146) dX11_act_128 (by decide) (fun hc => ?_) (fun hc => ?_)
    · replace h := hA hc
      refine g_iconst dX11_act_146 0 rfl (by decide) ?_
      exact g_zret hR dX11_act_147 (by decide) h
    · replace h := hB hc
      refine g_aload_n dX11_act_131 rfl ?_
      refine g_iload_n dX11_act_132 rfl ?_
      refine g_iload_n dX11_act_133 rfl ?_
      refine g_iload dX11_act_134 rfl ?_
      refine g_cVi (st := []) (av := [vI x1, vI x2, vI x3]) (kX11_goPay h) kd_300 rfl cw_RX11_256 (by decide) (by decide) (Nat.le_of_ble_eq_true rfl) rfl dX11_act_136 (fun y31 m30 h => ?_)
      obtain ⟨hA, hB⟩ := h
      refine g_if_eq (tgt := 146) dX11_act_139 (by decide) (fun hc => ?_) (fun hc => ?_)
      · replace h := hA hc
        refine g_iconst dX11_act_146 0 rfl (by decide) ?_
        exact g_zret hR dX11_act_147 (by decide) h
      · replace h := hB hc
        refine g_iconst dX11_act_142 1 rfl (by decide) ?_
        refine g_goto (tgt := 147) dX11_act_143 (by decide) ?_
        exact g_zret hR dX11_act_147 (by decide) h
  by_cases ej113 : σ 310 l1.toNat = 113
  · refine g_tswIn (tgt := 337) (off := 303) dX11_act_34 113 ej113 (by decide) (by decide) rfl (by decide) ?_
    replace h := hsd (by omega)
    refine g_aload_n dX11_act_337 rfl ?_
    refine g_cVi (st := []) (av := []) (kX11_heldBits h) kd_300 rfl cw_RX11_144 (by decide) (by decide) (Nat.le_of_ble_eq_true rfl) rfl dX11_act_338 (fun y38 m37 h => ?_)
    obtain ⟨hA, hB⟩ := h
    refine g_if_ne (tgt := 355) dX11_act_341 (by decide) (fun hc => ?_) (fun hc => ?_)
    · replace h := hA hc
      refine g_iconst dX11_act_355 0 rfl (by decide) ?_
      exact g_zret hR dX11_act_356 (by decide) h
    · replace h := hB hc
      refine g_aload_n dX11_act_344 rfl ?_
      refine g_cVi (st := []) (av := []) (kX11_goSettle h) kd_300 rfl cw_RX11_250 (by decide) (by decide) (Nat.le_of_ble_eq_true rfl) rfl dX11_act_345 (fun y40 m39 h => ?_)
      obtain ⟨hA, hB⟩ := h
      refine g_if_le (tgt := 355) dX11_act_348 (by decide) (fun hc => ?_) (fun hc => ?_)
      · replace h := hA hc
        refine g_iconst dX11_act_355 0 rfl (by decide) ?_
        exact g_zret hR dX11_act_356 (by decide) h
      · replace h := hB hc
        refine g_iconst dX11_act_351 1 rfl (by decide) ?_
        refine g_goto (tgt := 356) dX11_act_352 (by decide) ?_
        exact g_zret hR dX11_act_356 (by decide) h
  by_cases ej114 : σ 310 l1.toNat = 114
  · refine g_tswIn (tgt := 337) (off := 303) dX11_act_34 114 ej114 (by decide) (by decide) rfl (by decide) ?_
    replace h := hsd (by omega)
    refine g_aload_n dX11_act_337 rfl ?_
    refine g_cVi (st := []) (av := []) (kX11_heldBits h) kd_300 rfl cw_RX11_144 (by decide) (by decide) (Nat.le_of_ble_eq_true rfl) rfl dX11_act_338 (fun y38 m37 h => ?_)
    obtain ⟨hA, hB⟩ := h
    refine g_if_ne (tgt := 355) dX11_act_341 (by decide) (fun hc => ?_) (fun hc => ?_)
    · replace h := hA hc
      refine g_iconst dX11_act_355 0 rfl (by decide) ?_
      exact g_zret hR dX11_act_356 (by decide) h
    · replace h := hB hc
      refine g_aload_n dX11_act_344 rfl ?_
      refine g_cVi (st := []) (av := []) (kX11_goSettle h) kd_300 rfl cw_RX11_250 (by decide) (by decide) (Nat.le_of_ble_eq_true rfl) rfl dX11_act_345 (fun y40 m39 h => ?_)
      obtain ⟨hA, hB⟩ := h
      refine g_if_le (tgt := 355) dX11_act_348 (by decide) (fun hc => ?_) (fun hc => ?_)
      · replace h := hA hc
        refine g_iconst dX11_act_355 0 rfl (by decide) ?_
        exact g_zret hR dX11_act_356 (by decide) h
      · replace h := hB hc
        refine g_iconst dX11_act_351 1 rfl (by decide) ?_
        refine g_goto (tgt := 356) dX11_act_352 (by decide) ?_
        exact g_zret hR dX11_act_356 (by decide) h
  by_cases ej115 : σ 310 l1.toNat = 115
  · refine g_tswIn (tgt := 337) (off := 303) dX11_act_34 115 ej115 (by decide) (by decide) rfl (by decide) ?_
    replace h := hsd (by omega)
    refine g_aload_n dX11_act_337 rfl ?_
    refine g_cVi (st := []) (av := []) (kX11_heldBits h) kd_300 rfl cw_RX11_144 (by decide) (by decide) (Nat.le_of_ble_eq_true rfl) rfl dX11_act_338 (fun y38 m37 h => ?_)
    obtain ⟨hA, hB⟩ := h
    refine g_if_ne (tgt := 355) dX11_act_341 (by decide) (fun hc => ?_) (fun hc => ?_)
    · replace h := hA hc
      refine g_iconst dX11_act_355 0 rfl (by decide) ?_
      exact g_zret hR dX11_act_356 (by decide) h
    · replace h := hB hc
      refine g_aload_n dX11_act_344 rfl ?_
      refine g_cVi (st := []) (av := []) (kX11_goSettle h) kd_300 rfl cw_RX11_250 (by decide) (by decide) (Nat.le_of_ble_eq_true rfl) rfl dX11_act_345 (fun y40 m39 h => ?_)
      obtain ⟨hA, hB⟩ := h
      refine g_if_le (tgt := 355) dX11_act_348 (by decide) (fun hc => ?_) (fun hc => ?_)
      · replace h := hA hc
        refine g_iconst dX11_act_355 0 rfl (by decide) ?_
        exact g_zret hR dX11_act_356 (by decide) h
      · replace h := hB hc
        refine g_iconst dX11_act_351 1 rfl (by decide) ?_
        refine g_goto (tgt := 356) dX11_act_352 (by decide) ?_
        exact g_zret hR dX11_act_356 (by decide) h
  by_cases ej116 : σ 310 l1.toNat = 116
  · refine g_tswIn (tgt := 337) (off := 303) dX11_act_34 116 ej116 (by decide) (by decide) rfl (by decide) ?_
    replace h := hsd (by omega)
    refine g_aload_n dX11_act_337 rfl ?_
    refine g_cVi (st := []) (av := []) (kX11_heldBits h) kd_300 rfl cw_RX11_144 (by decide) (by decide) (Nat.le_of_ble_eq_true rfl) rfl dX11_act_338 (fun y38 m37 h => ?_)
    obtain ⟨hA, hB⟩ := h
    refine g_if_ne (tgt := 355) dX11_act_341 (by decide) (fun hc => ?_) (fun hc => ?_)
    · replace h := hA hc
      refine g_iconst dX11_act_355 0 rfl (by decide) ?_
      exact g_zret hR dX11_act_356 (by decide) h
    · replace h := hB hc
      refine g_aload_n dX11_act_344 rfl ?_
      refine g_cVi (st := []) (av := []) (kX11_goSettle h) kd_300 rfl cw_RX11_250 (by decide) (by decide) (Nat.le_of_ble_eq_true rfl) rfl dX11_act_345 (fun y40 m39 h => ?_)
      obtain ⟨hA, hB⟩ := h
      refine g_if_le (tgt := 355) dX11_act_348 (by decide) (fun hc => ?_) (fun hc => ?_)
      · replace h := hA hc
        refine g_iconst dX11_act_355 0 rfl (by decide) ?_
        exact g_zret hR dX11_act_356 (by decide) h
      · replace h := hB hc
        refine g_iconst dX11_act_351 1 rfl (by decide) ?_
        refine g_goto (tgt := 356) dX11_act_352 (by decide) ?_
        exact g_zret hR dX11_act_356 (by decide) h
  by_cases ej117 : σ 310 l1.toNat = 117
  · refine g_tswIn (tgt := 337) (off := 303) dX11_act_34 117 ej117 (by decide) (by decide) rfl (by decide) ?_
    replace h := hsd (by omega)
    refine g_aload_n dX11_act_337 rfl ?_
    refine g_cVi (st := []) (av := []) (kX11_heldBits h) kd_300 rfl cw_RX11_144 (by decide) (by decide) (Nat.le_of_ble_eq_true rfl) rfl dX11_act_338 (fun y38 m37 h => ?_)
    obtain ⟨hA, hB⟩ := h
    refine g_if_ne (tgt := 355) dX11_act_341 (by decide) (fun hc => ?_) (fun hc => ?_)
    · replace h := hA hc
      refine g_iconst dX11_act_355 0 rfl (by decide) ?_
      exact g_zret hR dX11_act_356 (by decide) h
    · replace h := hB hc
      refine g_aload_n dX11_act_344 rfl ?_
      refine g_cVi (st := []) (av := []) (kX11_goSettle h) kd_300 rfl cw_RX11_250 (by decide) (by decide) (Nat.le_of_ble_eq_true rfl) rfl dX11_act_345 (fun y40 m39 h => ?_)
      obtain ⟨hA, hB⟩ := h
      refine g_if_le (tgt := 355) dX11_act_348 (by decide) (fun hc => ?_) (fun hc => ?_)
      · replace h := hA hc
        refine g_iconst dX11_act_355 0 rfl (by decide) ?_
        exact g_zret hR dX11_act_356 (by decide) h
      · replace h := hB hc
        refine g_iconst dX11_act_351 1 rfl (by decide) ?_
        refine g_goto (tgt := 356) dX11_act_352 (by decide) ?_
        exact g_zret hR dX11_act_356 (by decide) h
  by_cases ej118 : σ 310 l1.toNat = 118
  · refine g_tswIn (tgt := 337) (off := 303) dX11_act_34 118 ej118 (by decide) (by decide) rfl (by decide) ?_
    replace h := hsd (by omega)
    refine g_aload_n dX11_act_337 rfl ?_
    refine g_cVi (st := []) (av := []) (kX11_heldBits h) kd_300 rfl cw_RX11_144 (by decide) (by decide) (Nat.le_of_ble_eq_true rfl) rfl dX11_act_338 (fun y38 m37 h => ?_)
    obtain ⟨hA, hB⟩ := h
    refine g_if_ne (tgt := 355) dX11_act_341 (by decide) (fun hc => ?_) (fun hc => ?_)
    · replace h := hA hc
      refine g_iconst dX11_act_355 0 rfl (by decide) ?_
      exact g_zret hR dX11_act_356 (by decide) h
    · replace h := hB hc
      refine g_aload_n dX11_act_344 rfl ?_
      refine g_cVi (st := []) (av := []) (kX11_goSettle h) kd_300 rfl cw_RX11_250 (by decide) (by decide) (Nat.le_of_ble_eq_true rfl) rfl dX11_act_345 (fun y40 m39 h => ?_)
      obtain ⟨hA, hB⟩ := h
      refine g_if_le (tgt := 355) dX11_act_348 (by decide) (fun hc => ?_) (fun hc => ?_)
      · replace h := hA hc
        refine g_iconst dX11_act_355 0 rfl (by decide) ?_
        exact g_zret hR dX11_act_356 (by decide) h
      · replace h := hB hc
        refine g_iconst dX11_act_351 1 rfl (by decide) ?_
        refine g_goto (tgt := 356) dX11_act_352 (by decide) ?_
        exact g_zret hR dX11_act_356 (by decide) h
  by_cases ej119 : σ 310 l1.toNat = 119
  · refine g_tswIn (tgt := 148) (off := 114) dX11_act_34 119 ej119 (by decide) (by decide) rfl (by decide) ?_
    replace h := hs7 ej119
    refine g_aload_n dX11_act_148 rfl ?_
    refine g_iload_n dX11_act_149 rfl ?_
    refine g_iload_n dX11_act_150 rfl ?_
    refine g_iload dX11_act_151 rfl ?_
    refine g_cVi (st := []) (av := [vI x1, vI x2, vI x3]) (kX11_isPayment h) kd_300 rfl cw_RX11_192 (by decide) (by decide) (Nat.le_of_ble_eq_true rfl) rfl dX11_act_153 (fun y33 m32 h => ?_)
    obtain ⟨hA, hB⟩ := h
    refine g_if_eq (tgt := 170) dX11_act_156 (by decide) (fun hc => ?_) (fun hc => ?_)
    · replace h := hA hc
      refine g_iconst dX11_act_170 0 rfl (by decide) ?_
      exact g_zret hR dX11_act_171 (by decide) h
    · replace h := hB hc
      refine g_aload_n dX11_act_159 rfl ?_
      refine g_iload_n dX11_act_160 rfl ?_
      refine g_iload_n dX11_act_161 rfl ?_
      refine g_iload dX11_act_162 rfl ?_
      refine g_cVi (st := []) (av := [vI x1, vI x2, vI x3]) (kX11_findWay h) kd_300 rfl cw_RX11_195 (by decide) (by decide) (Nat.le_of_ble_eq_true rfl) rfl dX11_act_164 (fun y35 m34 h => ?_)
      obtain ⟨hA, hB⟩ := h
      refine g_if_ne (tgt := 172) dX11_act_167 (by decide) (fun hc => ?_) (fun hc => ?_)
      · replace h := hA hc
        refine g_aload_n dX11_act_172 rfl ?_
        refine g_iload dX11_act_173 rfl ?_
        refine g_cVv (st := []) (av := [vI x3]) (kX11_goOnWay h) kd_300 rfl cw_RX11_216 (by decide) (by decide) (Nat.le_of_ble_eq_true rfl) rfl dX11_act_175 (fun m36 h => ?_)
        refine g_iconst dX11_act_178 1 rfl (by decide) ?_
        exact g_zret hR dX11_act_179 (by decide) h
      · replace h := hB hc
        refine g_iconst dX11_act_170 0 rfl (by decide) ?_
        exact g_zret hR dX11_act_171 (by decide) h
  refine g_tswOut (tgt := 337) dX11_act_34 (by omega) (by decide) ?_
  replace h := hsd (by omega)
  refine g_aload_n dX11_act_337 rfl ?_
  refine g_cVi (st := []) (av := []) (kX11_heldBits h) kd_300 rfl cw_RX11_144 (by decide) (by decide) (Nat.le_of_ble_eq_true rfl) rfl dX11_act_338 (fun y38 m37 h => ?_)
  obtain ⟨hA, hB⟩ := h
  refine g_if_ne (tgt := 355) dX11_act_341 (by decide) (fun hc => ?_) (fun hc => ?_)
  · replace h := hA hc
    refine g_iconst dX11_act_355 0 rfl (by decide) ?_
    exact g_zret hR dX11_act_356 (by decide) h
  · replace h := hB hc
    refine g_aload_n dX11_act_344 rfl ?_
    refine g_cVi (st := []) (av := []) (kX11_goSettle h) kd_300 rfl cw_RX11_250 (by decide) (by decide) (Nat.le_of_ble_eq_true rfl) rfl dX11_act_345 (fun y40 m39 h => ?_)
    obtain ⟨hA, hB⟩ := h
    refine g_if_le (tgt := 355) dX11_act_348 (by decide) (fun hc => ?_) (fun hc => ?_)
    · replace h := hA hc
      refine g_iconst dX11_act_355 0 rfl (by decide) ?_
      exact g_zret hR dX11_act_356 (by decide) h
    · replace h := hB hc
      refine g_iconst dX11_act_351 1 rfl (by decide) ?_
      refine g_goto (tgt := 356) dX11_act_352 (by decide) ?_
      exact g_zret hR dX11_act_356 (by decide) h
def wX11_undo_26 (K26 : Int → Mem → Prop) (Q : Int → Mem → Prop) (l1 : Int) (σ : Mem) : Prop := ((405 ≤ l1 → Q (σ 300 28) σ) ∧ (¬ 405 ≤ l1 → ((0 ≤ w32 ((w32 (405 * (σ 300 28))) + l1) ∧ w32 ((w32 (405 * (σ 300 28))) + l1) < 3240) ∧ ((0 ≤ l1 ∧ l1 < 405) ∧ (∀ m1 : Mem, m1 = up2 σ 301 l1.toNat (σ 327 (w32 ((w32 (405 * (σ 300 28))) + l1)).toNat) → (∀ x2 : Int, x2 = w32 (l1 + 1) → K26 x2 m1))))))
def wLX11_undo_26 (Q : Int → Mem → Prop) (l1 : Int) (σ : Mem) : Prop := ∃ n, lp (fun (K26 : Int → Mem → Prop) (x : Int) (σ : Mem) => wX11_undo_26 K26 Q x σ) n l1 σ
def wX11_undo (σ : Mem) (Q : Int → Mem → Prop) : Prop := (∀ m1 : Mem, m1 = up2 σ 300 5 0 → ((¬ m1 300 28 = 0 → (∀ m2 : Mem, m2 = up2 m1 300 28 (w32 ((m1 300 28) - 1)) → wLX11_undo_26 Q 0 m2)) ∧ (m1 300 28 = 0 → Q ((-1)) m1)))
set_option maxHeartbeats 1000000 in
theorem bX11_undo_26 {E : TE} {K26 : Int → Mem → Prop} (hK26 : ∀ (x : Int) (σ : Mem), K26 x σ → GW E cX11_undo 2 RX11 0 0 σ 26 [(0, vR 300), (1, vI x)] []) {Q : Int → Mem → Prop} (hR : RI E (some .int) Q) {l1 : Int} {σ : Mem} (h : wX11_undo_26 K26 Q l1 σ) : GW E cX11_undo 2 RX11 0 0 σ 26 [(0, vR 300), (1, vI l1)] [] := by
  unfold wX11_undo_26 at h
  refine g_iload_n dX11_undo_26 rfl ?_
  refine g_sipush dX11_undo_27 405 rfl (by decide) ?_
  obtain ⟨hA, hB⟩ := h
  refine g_icmp_ge (tgt := 60) dX11_undo_30 (by decide) (fun hc => ?_) (fun hc => ?_)
  · replace h := hA hc
    refine g_aload_n dX11_undo_60 rfl ?_
    refine g_getI fl_11_320 kd_300 rfl dX11_undo_61 ?_
    exact g_iret hR dX11_undo_64 h
  · replace h := hB hc
    refine g_aload_n dX11_undo_33 rfl ?_
    refine g_getR (r := 301) fl_11_9 kd_300 rfl dX11_undo_34 ?_
    refine g_iload_n dX11_undo_37 rfl ?_
    refine g_aload_n dX11_undo_38 rfl ?_
    refine g_getR (r := 327) fl_11_55 kd_300 rfl dX11_undo_39 ?_
    refine g_sipush dX11_undo_42 405 rfl (by decide) ?_
    refine g_aload_n dX11_undo_45 rfl ?_
    refine g_getI fl_11_320 kd_300 rfl dX11_undo_46 ?_
    refine g_imul dX11_undo_49 ?_
    refine g_iload_n dX11_undo_50 rfl ?_
    refine g_iadd dX11_undo_51 ?_
    obtain ⟨hin, h⟩ := h
    refine g_iald kd_327 hin dX11_undo_52 ?_
    obtain ⟨hin, h⟩ := h
    refine g_iast kd_301 hin dX11_undo_53 ?_
    refine g_nm (fun m1 em1 => ?_)
    replace h := h m1 em1
    refine g_iinc (lv' := [(1, vI (w32 (l1 + 1))), (0, vR 300)]) dX11_undo_54 rfl (by decide) rfl ?_
    refine g_loc (a := w32 (l1 + 1)) (i := 1) (lv := [(0, vR 300)]) (fun x2 ex2 => ?_)
    replace h := h x2 ex2
    refine g_goto (tgt := 26) dX11_undo_57 (by decide) ?_
    refine g_lv (lv' := [(0, vR 300), (1, vI x2)]) [1, 0] rfl ?_
    exact hK26 x2 m1 h
theorem eX11_undo_26 {E : TE} {Q : Int → Mem → Prop} (hR : RI E (some .int) Q) {l1 : Int} {σ : Mem} (h : wLX11_undo_26 Q l1 σ) : GW E cX11_undo 2 RX11 0 0 σ 26 [(0, vR 300), (1, vI l1)] [] := by
  obtain ⟨n, h⟩ := h
  exact lp_GW (P := fun (x : Int) (σ : Mem) => GW E cX11_undo 2 RX11 0 0 σ 26 [(0, vR 300), (1, vI x)] []) (fun K hK x σ h  => bX11_undo_26 hK hR h) n _ σ h 
set_option maxHeartbeats 1000000 in
theorem kX11_undo {σ : Mem} {Q : Int → Mem → Prop} (h : wX11_undo σ Q) (l : Launch) (D : va_G) (cy : Nat → ClassId) (ad : Nat → Nat) : MI l yX11_undo cX11_undo 2 (some .int) 0 0 D cy ad [vR 300] σ Q := by
  refine m_I (own := RX11) (lv := [(0, vR 300)]) (by decide +kernel) rfl (Nat.le_of_ble_eq_true rfl) rfl (fun E hR => ?_) l D cy ad
  unfold wX11_undo at h
  refine g_aload_n dX11_undo_0 rfl ?_
  refine g_iconst dX11_undo_1 0 rfl (by decide) ?_
  refine g_putI fp_11_68 kd_300 rfl dX11_undo_2 ?_
  refine g_nm (fun m1 em1 => ?_)
  replace h := h m1 em1
  refine g_aload_n dX11_undo_5 rfl ?_
  refine g_getI fl_11_320 kd_300 rfl dX11_undo_6 ?_
  obtain ⟨hA, hB⟩ := h
  refine g_if_ne (tgt := 14) dX11_undo_9 (by decide) (fun hc => ?_) (fun hc => ?_)
  · replace h := hA hc
    refine g_aload_n dX11_undo_14 rfl ?_
    refine g_dup dX11_undo_15 rfl ?_
    refine g_getI fl_11_320 kd_300 rfl dX11_undo_16 ?_
    refine g_iconst dX11_undo_19 1 rfl (by decide) ?_
    refine g_isub dX11_undo_20 ?_
    refine g_putI fp_11_320 kd_300 rfl dX11_undo_21 ?_
    refine g_nm (fun m2 em2 => ?_)
    replace h := h m2 em2
    refine g_iconst dX11_undo_24 0 rfl (by decide) ?_
    refine g_istore_n (lv' := [(1, vI 0), (0, vR 300)]) dX11_undo_25 (by decide) rfl ?_
    refine g_lv (lv' := [(0, vR 300), (1, vI 0)]) [1, 0] rfl ?_
    exact eX11_undo_26 hR h
  · replace h := hB hc
    refine g_iconst dX11_undo_12 (-1) rfl (by decide) ?_
    exact g_iret hR dX11_undo_13 h
def wX11_draw (l1 : Int) (σ : Mem) (Q : Int → Mem → Prop) : Prop := (∀ m1 : Mem, m1 = up2 σ 300 29 (w32 ((w32 ((σ 300 29) * 1103515245)) + 12345)) → (l1 ≠ 0 ∧ Q (brem (bushr (m1 300 29) 16) l1) m1))
set_option maxHeartbeats 1000000 in
theorem kX11_draw {l1 : Int} {σ : Mem} {Q : Int → Mem → Prop} (h : wX11_draw l1 σ Q) (l : Launch) (D : va_G) (cy : Nat → ClassId) (ad : Nat → Nat) : MI l yX11_draw cX11_draw 2 (some .int) 0 0 D cy ad [vR 300, vI l1] σ Q := by
  refine m_I (own := RX11) (lv := [(0, vR 300), (1, vI l1)]) (by decide +kernel) rfl (Nat.le_of_ble_eq_true rfl) rfl (fun E hR => ?_) l D cy ad
  unfold wX11_draw at h
  refine g_aload_n dX11_draw_0 rfl ?_
  refine g_aload_n dX11_draw_1 rfl ?_
  refine g_getI fl_11_342 kd_300 rfl dX11_draw_2 ?_
  refine g_ldc_w dX11_draw_5 1103515245 q_1701 (by decide) ?_
  refine g_imul dX11_draw_8 ?_
  refine g_sipush dX11_draw_9 12345 rfl (by decide) ?_
  refine g_iadd dX11_draw_12 ?_
  refine g_putI fp_11_342 kd_300 rfl dX11_draw_13 ?_
  refine g_nm (fun m1 em1 => ?_)
  replace h := h m1 em1
  refine g_aload_n dX11_draw_16 rfl ?_
  refine g_getI fl_11_342 kd_300 rfl dX11_draw_17 ?_
  refine g_bipush dX11_draw_20 16 rfl (by decide) ?_
  refine g_iushr dX11_draw_22 ?_
  refine g_iload_n dX11_draw_23 rfl ?_
  obtain ⟨hne, h⟩ := h
  refine g_irem dX11_draw_24 hne ?_
  exact g_iret hR dX11_draw_25 h
def wX11_years_98 (K32 : (Int × Int × Int) → Mem → Prop) (Q : Int → Mem → Prop) (l2 : Int) (l4 : Int) (s0 : Int) (s1 : Int) (σ : Mem) : Prop := (∀ x1 : Int, x1 = w32 (s1 + s0) → (∀ x2 : Int, x2 = w32 (l4 + 1) → K32 (l2, x1, x2) σ))
def wX11_years_97 (K32 : (Int × Int × Int) → Mem → Prop) (Q : Int → Mem → Prop) (l2 : Int) (l4 : Int) (s0 : Int) (σ : Mem) : Prop := wX11_years_98 K32 Q l2 l4 0 s0 σ
def wX11_years_32 (K32 : (Int × Int × Int) → Mem → Prop) (Q : Int → Mem → Prop) (l2 : Int) (l3 : Int) (l4 : Int) (σ : Mem) : Prop := ((l2 ≤ l4 → (wX11_allDebts  σ (fun y2 m1 => (wX11_goSettle  m1 (fun y4 m3 => (wX11_comesBack 3 m3 (fun m5 => (∀ m6 : Mem, m6 = up2 m5 300 4 0 → (wX11_tell y2 m6 (fun m7 => (wX11_tell y4 m7 (fun m8 => Q l3 m8)))))))))))) ∧ (¬ l2 ≤ l4 → (wX11_draw (σ 301 0) σ (fun y10 m9 => (wX11_draw (m9 301 0) m9 (fun y12 m11 => (wX11_draw 60 m11 (fun y14 m13 => (∀ x15 : Int, x15 = w32 (y14 + 1) → ((y10 = y12 → wX11_years_97 K32 Q l2 l4 l3 m13) ∧ (¬ y10 = y12 → (wX11_goPay y10 y12 x15 m13 (fun y17 m16 => ((y17 = 0 → wX11_years_97 K32 Q l2 l4 l3 m16) ∧ (¬ y17 = 0 → wX11_years_98 K32 Q l2 l4 1 l3 m16)))))))))))))))
def wLX11_years_32 (Q : Int → Mem → Prop) (l2 : Int) (l3 : Int) (l4 : Int) (σ : Mem) : Prop := ∃ n, lp (fun (K32 : (Int × Int × Int) → Mem → Prop) (x : Int × Int × Int) (σ : Mem) => wX11_years_32 K32 Q x.1 x.2.1 x.2.2 σ) n (l2, l3, l4) σ
def wX11_years (l1 : Int) (l2 : Int) (σ : Mem) (Q : Int → Mem → Prop) : Prop := (∀ m1 : Mem, m1 = up2 σ 300 5 0 → (wX11_in l2 1 30 m1 (fun y3 m2 => ((¬ y3 = 0 → (∀ m4 : Mem, m4 = up2 m2 300 29 l1 → (wX11_layAside 3 m4 (fun m5 => wLX11_years_32 Q l2 0 0 m5)))) ∧ (y3 = 0 → Q ((-1)) m2)))))
set_option maxHeartbeats 1000000 in
theorem bX11_years_98 {E : TE} {K32 : (Int × Int × Int) → Mem → Prop} (hK32 : ∀ (x : Int × Int × Int) (σ : Mem), K32 x σ → GW E cX11_years 8 RX11 15 345 σ 32 [(0, vR 300), (2, vI x.1), (3, vI x.2.1), (4, vI x.2.2)] []) {Q : Int → Mem → Prop} (hR : RI E (some .int) Q) {l2 : Int} {l4 : Int} {s0 : Int} {s1 : Int} {σ : Mem} (h : wX11_years_98 K32 Q l2 l4 s0 s1 σ) : GW E cX11_years 8 RX11 15 345 σ 98 [(0, vR 300), (2, vI l2), (4, vI l4)] [vI s0, vI s1] := by
  unfold wX11_years_98 at h
  refine g_iadd dX11_years_98 ?_
  refine g_topI (fun x1 ex1 => ?_)
  replace h := h x1 ex1
  refine g_istore_n (lv' := [(3, vI x1), (0, vR 300), (2, vI l2), (4, vI l4)]) dX11_years_99 (by decide) rfl ?_
  refine g_iinc (lv' := [(4, vI (w32 (l4 + 1))), (3, vI x1), (0, vR 300), (2, vI l2)]) dX11_years_100 rfl (by decide) rfl ?_
  refine g_loc (a := w32 (l4 + 1)) (i := 4) (lv := [(3, vI x1), (0, vR 300), (2, vI l2)]) (fun x2 ex2 => ?_)
  replace h := h x2 ex2
  refine g_goto (tgt := 32) dX11_years_103 (by decide) ?_
  refine g_lv (lv' := [(0, vR 300), (2, vI l2), (3, vI x1), (4, vI x2)]) [2, 3, 1, 0] rfl ?_
  exact hK32 ((l2, x1, x2)) σ h
set_option maxHeartbeats 1000000 in
theorem bX11_years_97 {E : TE} {K32 : (Int × Int × Int) → Mem → Prop} (hK32 : ∀ (x : Int × Int × Int) (σ : Mem), K32 x σ → GW E cX11_years 8 RX11 15 345 σ 32 [(0, vR 300), (2, vI x.1), (3, vI x.2.1), (4, vI x.2.2)] []) {Q : Int → Mem → Prop} (hR : RI E (some .int) Q) {l2 : Int} {l4 : Int} {s0 : Int} {σ : Mem} (h : wX11_years_97 K32 Q l2 l4 s0 σ) : GW E cX11_years 8 RX11 15 345 σ 97 [(0, vR 300), (2, vI l2), (4, vI l4)] [vI s0] := by
  unfold wX11_years_97 at h
  refine g_iconst dX11_years_97 0 rfl (by decide) ?_
  exact bX11_years_98 hK32 hR h
set_option maxHeartbeats 1000000 in
theorem bX11_years_32 {E : TE} {K32 : (Int × Int × Int) → Mem → Prop} (hK32 : ∀ (x : Int × Int × Int) (σ : Mem), K32 x σ → GW E cX11_years 8 RX11 15 345 σ 32 [(0, vR 300), (2, vI x.1), (3, vI x.2.1), (4, vI x.2.2)] []) {Q : Int → Mem → Prop} (hR : RI E (some .int) Q) {l2 : Int} {l3 : Int} {l4 : Int} {σ : Mem} (h : wX11_years_32 K32 Q l2 l3 l4 σ) : GW E cX11_years 8 RX11 15 345 σ 32 [(0, vR 300), (2, vI l2), (3, vI l3), (4, vI l4)] [] := by
  unfold wX11_years_32 at h
  refine g_iload dX11_years_32 rfl ?_
  refine g_iload_n dX11_years_34 rfl ?_
  obtain ⟨hA, hB⟩ := h
  refine g_icmp_ge (tgt := 106) dX11_years_35 (by decide) (fun hc => ?_) (fun hc => ?_)
  · replace h := hA hc
    refine g_aload_n dX11_years_106 rfl ?_
    refine g_cVi (st := []) (av := []) (kX11_allDebts h) kd_300 rfl cw_RX11_172 (by decide) (by decide) (Nat.le_of_ble_eq_true rfl) rfl dX11_years_107 (fun y2 m1 h => ?_)
    refine g_istore (lv' := [(4, vI y2), (0, vR 300), (2, vI l2), (3, vI l3)]) dX11_years_110 (by decide) rfl ?_
    refine g_aload_n dX11_years_112 rfl ?_
    refine g_cVi (st := []) (av := []) (kX11_goSettle h) kd_300 rfl cw_RX11_250 (by decide) (by decide) (Nat.le_of_ble_eq_true rfl) rfl dX11_years_113 (fun y4 m3 h => ?_)
    refine g_istore (lv' := [(5, vI y4), (4, vI y2), (0, vR 300), (2, vI l2), (3, vI l3)]) dX11_years_116 (by decide) rfl ?_
    refine g_aload_n dX11_years_118 rfl ?_
    refine g_iconst dX11_years_119 3 rfl (by decide) ?_
    refine g_cVv (st := []) (av := [vI 3]) (kX11_comesBack h) kd_300 rfl cw_RX11_232 (by decide) (by decide) (Nat.le_of_ble_eq_true rfl) rfl dX11_years_120 (fun m5 h => ?_)
    refine g_aload_n dX11_years_123 rfl ?_
    refine g_iconst dX11_years_124 0 rfl (by decide) ?_
    refine g_putI fp_11_71 kd_300 rfl dX11_years_125 ?_
    refine g_nm (fun m6 em6 => ?_)
    replace h := h m6 em6
    refine g_aload_n dX11_years_128 rfl ?_
    refine g_iload dX11_years_129 rfl ?_
    refine g_i2l dX11_years_131 ?_
    refine g_cVv (st := []) (av := [vL y2]) (kX11_tell h) kd_300 rfl cw_RX11_155 (by decide) (by decide) (Nat.le_of_ble_eq_true rfl) rfl dX11_years_132 (fun m7 h => ?_)
    refine g_aload_n dX11_years_135 rfl ?_
    refine g_iload dX11_years_136 rfl ?_
    refine g_i2l dX11_years_138 ?_
    refine g_cVv (st := []) (av := [vL y4]) (kX11_tell h) kd_300 rfl cw_RX11_155 (by decide) (by decide) (Nat.le_of_ble_eq_true rfl) rfl dX11_years_139 (fun m8 h => ?_)
    refine g_iload_n dX11_years_142 rfl ?_
    exact g_iret hR dX11_years_143 h
  · replace h := hB hc
    refine g_aload_n dX11_years_38 rfl ?_
    refine g_aload_n dX11_years_39 rfl ?_
    refine g_getR (r := 301) fl_11_9 kd_300 rfl dX11_years_40 ?_
    refine g_iconst dX11_years_43 0 rfl (by decide) ?_
    refine g_iald kd_301 (by decide) dX11_years_44 ?_
    refine g_cVi (st := []) (av := [vI (σ 301 0)]) (kX11_draw h) kd_300 rfl cw_RX11_346 (by decide) (by decide) (Nat.le_of_ble_eq_true rfl) rfl dX11_years_45 (fun y10 m9 h => ?_)
    refine g_istore (lv' := [(5, vI y10), (0, vR 300), (2, vI l2), (3, vI l3), (4, vI l4)]) dX11_years_48 (by decide) rfl ?_
    refine g_aload_n dX11_years_50 rfl ?_
    refine g_aload_n dX11_years_51 rfl ?_
    refine g_getR (r := 301) fl_11_9 kd_300 rfl dX11_years_52 ?_
    refine g_iconst dX11_years_55 0 rfl (by decide) ?_
    refine g_iald kd_301 (by decide) dX11_years_56 ?_
    refine g_cVi (st := []) (av := [vI (m9 301 0)]) (kX11_draw h) kd_300 rfl cw_RX11_346 (by decide) (by decide) (Nat.le_of_ble_eq_true rfl) rfl dX11_years_57 (fun y12 m11 h => ?_)
    refine g_istore (lv' := [(6, vI y12), (5, vI y10), (0, vR 300), (2, vI l2), (3, vI l3), (4, vI l4)]) dX11_years_60 (by decide) rfl ?_
    refine g_aload_n dX11_years_62 rfl ?_
    refine g_bipush dX11_years_63 60 rfl (by decide) ?_
    refine g_cVi (st := []) (av := [vI 60]) (kX11_draw h) kd_300 rfl cw_RX11_346 (by decide) (by decide) (Nat.le_of_ble_eq_true rfl) rfl dX11_years_65 (fun y14 m13 h => ?_)
    refine g_iconst dX11_years_68 1 rfl (by decide) ?_
    refine g_iadd dX11_years_69 ?_
    refine g_topI (fun x15 ex15 => ?_)
    replace h := h x15 ex15
    refine g_istore (lv' := [(7, vI x15), (6, vI y12), (5, vI y10), (0, vR 300), (2, vI l2), (3, vI l3), (4, vI l4)]) dX11_years_70 (by decide) rfl ?_
    refine g_iload_n dX11_years_72 rfl ?_
    refine g_iload dX11_years_73 rfl ?_
    refine g_iload dX11_years_75 rfl ?_
    obtain ⟨hA, hB⟩ := h
    refine g_icmp_eq (tgt := 97) dX11_years_77 (by decide) (fun hc => ?_) (fun hc => ?_)
    · replace h := hA hc
      refine g_lv (lv' := [(0, vR 300), (2, vI l2), (4, vI l4)]) [3, 4, 6] rfl ?_
      exact bX11_years_97 hK32 hR h
    · replace h := hB hc
      refine g_aload_n dX11_years_80 rfl ?_
      refine g_iload dX11_years_81 rfl ?_
      refine g_iload dX11_years_83 rfl ?_
      refine g_iload dX11_years_85 rfl ?_
      refine g_cVi (st := [vI l3]) (av := [vI y10, vI y12, vI x15]) (kX11_goPay h) kd_300 rfl cw_RX11_256 (by decide) (by decide) (Nat.le_of_ble_eq_true rfl) rfl dX11_years_87 (fun y17 m16 h => ?_)
      obtain ⟨hA, hB⟩ := h
      refine g_if_eq (tgt := 97) dX11_years_90 (by decide) (fun hc => ?_) (fun hc => ?_)
      · replace h := hA hc
        refine g_lv (lv' := [(0, vR 300), (2, vI l2), (4, vI l4)]) [3, 4, 6] rfl ?_
        exact bX11_years_97 hK32 hR h
      · replace h := hB hc
        refine g_iconst dX11_years_93 1 rfl (by decide) ?_
        refine g_goto (tgt := 98) dX11_years_94 (by decide) ?_
        refine g_lv (lv' := [(0, vR 300), (2, vI l2), (4, vI l4)]) [3, 4, 6] rfl ?_
        exact bX11_years_98 hK32 hR h
theorem eX11_years_32 {E : TE} {Q : Int → Mem → Prop} (hR : RI E (some .int) Q) {l2 : Int} {l3 : Int} {l4 : Int} {σ : Mem} (h : wLX11_years_32 Q l2 l3 l4 σ) : GW E cX11_years 8 RX11 15 345 σ 32 [(0, vR 300), (2, vI l2), (3, vI l3), (4, vI l4)] [] := by
  obtain ⟨n, h⟩ := h
  exact lp_GW (P := fun (x : Int × Int × Int) (σ : Mem) => GW E cX11_years 8 RX11 15 345 σ 32 [(0, vR 300), (2, vI x.1), (3, vI x.2.1), (4, vI x.2.2)] []) (fun K hK x σ h  => bX11_years_32 hK hR h) n _ σ h 
set_option maxHeartbeats 1000000 in
theorem kX11_years {l1 : Int} {l2 : Int} {σ : Mem} {Q : Int → Mem → Prop} (h : wX11_years l1 l2 σ Q) (l : Launch) (D : va_G) (cy : Nat → ClassId) (ad : Nat → Nat) : MI l yX11_years cX11_years 8 (some .int) 15 345 D cy ad [vR 300, vI l1, vI l2] σ Q := by
  refine m_I (own := RX11) (lv := [(0, vR 300), (1, vI l1), (2, vI l2)]) (by decide +kernel) rfl (Nat.le_of_ble_eq_true rfl) rfl (fun E hR => ?_) l D cy ad
  unfold wX11_years at h
  refine g_aload_n dX11_years_0 rfl ?_
  refine g_iconst dX11_years_1 0 rfl (by decide) ?_
  refine g_putI fp_11_68 kd_300 rfl dX11_years_2 ?_
  refine g_nm (fun m1 em1 => ?_)
  replace h := h m1 em1
  refine g_iload_n dX11_years_5 rfl ?_
  refine g_iconst dX11_years_6 1 rfl (by decide) ?_
  refine g_bipush dX11_years_7 30 rfl (by decide) ?_
  refine g_cSi (st := []) (av := [vI l2, vI 1, vI 30]) (kX11_in h) cw_RX11_74 (by decide) (by decide) (Nat.le_of_ble_eq_true rfl) rfl dX11_years_9 (fun y3 m2 h => ?_)
  obtain ⟨hA, hB⟩ := h
  refine g_if_ne (tgt := 17) dX11_years_12 (by decide) (fun hc => ?_) (fun hc => ?_)
  · replace h := hA hc
    refine g_aload_n dX11_years_17 rfl ?_
    refine g_iload_n dX11_years_18 rfl ?_
    refine g_putI fp_11_342 kd_300 rfl dX11_years_19 ?_
    refine g_nm (fun m4 em4 => ?_)
    replace h := h m4 em4
    refine g_aload_n dX11_years_22 rfl ?_
    refine g_iconst dX11_years_23 3 rfl (by decide) ?_
    refine g_cVv (st := []) (av := [vI 3]) (kX11_layAside h) kd_300 rfl cw_RX11_219 (by decide) (by decide) (Nat.le_of_ble_eq_true rfl) rfl dX11_years_24 (fun m5 h => ?_)
    refine g_iconst dX11_years_27 0 rfl (by decide) ?_
    refine g_istore_n (lv' := [(3, vI 0), (0, vR 300), (1, vI l1), (2, vI l2)]) dX11_years_28 (by decide) rfl ?_
    refine g_iconst dX11_years_29 0 rfl (by decide) ?_
    refine g_istore (lv' := [(4, vI 0), (3, vI 0), (0, vR 300), (1, vI l1), (2, vI l2)]) dX11_years_30 (by decide) rfl ?_
    refine g_lv (lv' := [(0, vR 300), (2, vI l2), (3, vI 0), (4, vI 0)]) [2, 4, 1, 0] rfl ?_
    exact eX11_years_32 hR h
  · replace h := hB hc
    refine g_iconst dX11_years_15 (-1) rfl (by decide) ?_
    exact g_iret hR dX11_years_16 h
def wX11_keep_25 (K25 : (Int × Int) → Mem → Prop) (Q : Int → Mem → Prop) (l1 : Int) (l2 : Int) (σ : Mem) : Prop := ((405 ≤ l2 → Q 1 σ) ∧ (¬ 405 ≤ l2 → ((0 ≤ l2 ∧ l2 < 405) ∧ ((0 ≤ w32 ((w32 (405 * l1)) + l2) ∧ w32 ((w32 (405 * l1)) + l2) < 810) ∧ (∀ m1 : Mem, m1 = up2 σ 331 (w32 ((w32 (405 * l1)) + l2)).toNat (σ 301 l2.toNat) → (∀ x2 : Int, x2 = w32 (l2 + 1) → K25 (l1, x2) m1))))))
def wLX11_keep_25 (Q : Int → Mem → Prop) (l1 : Int) (l2 : Int) (σ : Mem) : Prop := ∃ n, lp (fun (K25 : (Int × Int) → Mem → Prop) (x : Int × Int) (σ : Mem) => wX11_keep_25 K25 Q x.1 x.2 σ) n (l1, l2) σ
def wX11_keep (l1 : Int) (σ : Mem) (Q : Int → Mem → Prop) : Prop := (∀ m1 : Mem, m1 = up2 σ 300 5 0 → (wX11_in l1 0 1 m1 (fun y3 m2 => ((¬ y3 = 0 → ((0 ≤ l1 ∧ l1 < 2) ∧ (∀ m4 : Mem, m4 = up2 m2 332 l1.toNat (z1 1) → wLX11_keep_25 Q l1 0 m4))) ∧ (y3 = 0 → Q 0 m2)))))
set_option maxHeartbeats 1000000 in
theorem bX11_keep_25 {E : TE} {K25 : (Int × Int) → Mem → Prop} (hK25 : ∀ (x : Int × Int) (σ : Mem), K25 x σ → GW E cX11_keep 3 RX11 1 22 σ 25 [(0, vR 300), (1, vI x.1), (2, vI x.2)] []) {Q : Int → Mem → Prop} (hR : RI E (some .boolean) Q) {l1 : Int} {l2 : Int} {σ : Mem} (h : wX11_keep_25 K25 Q l1 l2 σ) : GW E cX11_keep 3 RX11 1 22 σ 25 [(0, vR 300), (1, vI l1), (2, vI l2)] [] := by
  unfold wX11_keep_25 at h
  refine g_iload_n dX11_keep_25 rfl ?_
  refine g_sipush dX11_keep_26 405 rfl (by decide) ?_
  obtain ⟨hA, hB⟩ := h
  refine g_icmp_ge (tgt := 56) dX11_keep_29 (by decide) (fun hc => ?_) (fun hc => ?_)
  · replace h := hA hc
    refine g_iconst dX11_keep_56 1 rfl (by decide) ?_
    exact g_zret hR dX11_keep_57 (by decide) h
  · replace h := hB hc
    refine g_aload_n dX11_keep_32 rfl ?_
    refine g_getR (r := 331) fl_11_61 kd_300 rfl dX11_keep_33 ?_
    refine g_sipush dX11_keep_36 405 rfl (by decide) ?_
    refine g_iload_n dX11_keep_39 rfl ?_
    refine g_imul dX11_keep_40 ?_
    refine g_iload_n dX11_keep_41 rfl ?_
    refine g_iadd dX11_keep_42 ?_
    refine g_aload_n dX11_keep_43 rfl ?_
    refine g_getR (r := 301) fl_11_9 kd_300 rfl dX11_keep_44 ?_
    refine g_iload_n dX11_keep_47 rfl ?_
    obtain ⟨hin, h⟩ := h
    refine g_iald kd_301 hin dX11_keep_48 ?_
    obtain ⟨hin, h⟩ := h
    refine g_iast kd_331 hin dX11_keep_49 ?_
    refine g_nm (fun m1 em1 => ?_)
    replace h := h m1 em1
    refine g_iinc (lv' := [(2, vI (w32 (l2 + 1))), (0, vR 300), (1, vI l1)]) dX11_keep_50 rfl (by decide) rfl ?_
    refine g_loc (a := w32 (l2 + 1)) (i := 2) (lv := [(0, vR 300), (1, vI l1)]) (fun x2 ex2 => ?_)
    replace h := h x2 ex2
    refine g_goto (tgt := 25) dX11_keep_53 (by decide) ?_
    refine g_lv (lv' := [(0, vR 300), (1, vI l1), (2, vI x2)]) [1, 2, 0] rfl ?_
    exact hK25 ((l1, x2)) m1 h
theorem eX11_keep_25 {E : TE} {Q : Int → Mem → Prop} (hR : RI E (some .boolean) Q) {l1 : Int} {l2 : Int} {σ : Mem} (h : wLX11_keep_25 Q l1 l2 σ) : GW E cX11_keep 3 RX11 1 22 σ 25 [(0, vR 300), (1, vI l1), (2, vI l2)] [] := by
  obtain ⟨n, h⟩ := h
  exact lp_GW (P := fun (x : Int × Int) (σ : Mem) => GW E cX11_keep 3 RX11 1 22 σ 25 [(0, vR 300), (1, vI x.1), (2, vI x.2)] []) (fun K hK x σ h  => bX11_keep_25 hK hR h) n _ σ h 
set_option maxHeartbeats 1000000 in
theorem kX11_keep {l1 : Int} {σ : Mem} {Q : Int → Mem → Prop} (h : wX11_keep l1 σ Q) (l : Launch) (D : va_G) (cy : Nat → ClassId) (ad : Nat → Nat) : MI l yX11_keep cX11_keep 3 (some .boolean) 1 22 D cy ad [vR 300, vI l1] σ Q := by
  refine m_I (own := RX11) (lv := [(0, vR 300), (1, vI l1)]) (by decide +kernel) rfl (Nat.le_of_ble_eq_true rfl) rfl (fun E hR => ?_) l D cy ad
  unfold wX11_keep at h
  refine g_aload_n dX11_keep_0 rfl ?_
  refine g_iconst dX11_keep_1 0 rfl (by decide) ?_
  refine g_putI fp_11_68 kd_300 rfl dX11_keep_2 ?_
  refine g_nm (fun m1 em1 => ?_)
  replace h := h m1 em1
  refine g_iload_n dX11_keep_5 rfl ?_
  refine g_iconst dX11_keep_6 0 rfl (by decide) ?_
  refine g_iconst dX11_keep_7 1 rfl (by decide) ?_
  refine g_cSi (st := []) (av := [vI l1, vI 0, vI 1]) (kX11_in h) cw_RX11_74 (by decide) (by decide) (Nat.le_of_ble_eq_true rfl) rfl dX11_keep_8 (fun y3 m2 h => ?_)
  obtain ⟨hA, hB⟩ := h
  refine g_if_ne (tgt := 16) dX11_keep_11 (by decide) (fun hc => ?_) (fun hc => ?_)
  · replace h := hA hc
    refine g_aload_n dX11_keep_16 rfl ?_
    refine g_getR (r := 332) fl_11_64 kd_300 rfl dX11_keep_17 ?_
    refine g_iload_n dX11_keep_20 rfl ?_
    refine g_iconst dX11_keep_21 1 rfl (by decide) ?_
    obtain ⟨hin, h⟩ := h
    refine g_zast kd_332 hin dX11_keep_22 ?_
    refine g_nm (fun m4 em4 => ?_)
    replace h := h m4 em4
    refine g_iconst dX11_keep_23 0 rfl (by decide) ?_
    refine g_istore_n (lv' := [(2, vI 0), (0, vR 300), (1, vI l1)]) dX11_keep_24 (by decide) rfl ?_
    refine g_lv (lv' := [(0, vR 300), (1, vI l1), (2, vI 0)]) [1, 2, 0] rfl ?_
    exact eX11_keep_25 hR h
  · replace h := hB hc
    refine g_iconst dX11_keep_14 0 rfl (by decide) ?_
    exact g_zret hR dX11_keep_15 (by decide) h
def wX11_again_27 (K27 : (Int × Int) → Mem → Prop) (Q : Int → Mem → Prop) (l1 : Int) (l2 : Int) (σ : Mem) : Prop := ((405 ≤ l2 → (∀ m1 : Mem, m1 = up2 σ 300 28 0 → Q 1 m1)) ∧ (¬ 405 ≤ l2 → ((0 ≤ w32 ((w32 (405 * l1)) + l2) ∧ w32 ((w32 (405 * l1)) + l2) < 810) ∧ ((0 ≤ l2 ∧ l2 < 405) ∧ (∀ m2 : Mem, m2 = up2 σ 301 l2.toNat (σ 331 (w32 ((w32 (405 * l1)) + l2)).toNat) → (∀ x3 : Int, x3 = w32 (l2 + 1) → K27 (l1, x3) m2))))))
def wLX11_again_27 (Q : Int → Mem → Prop) (l1 : Int) (l2 : Int) (σ : Mem) : Prop := ∃ n, lp (fun (K27 : (Int × Int) → Mem → Prop) (x : Int × Int) (σ : Mem) => wX11_again_27 K27 Q x.1 x.2 σ) n (l1, l2) σ
def wX11_again (l1 : Int) (σ : Mem) (Q : Int → Mem → Prop) : Prop := (∀ m1 : Mem, m1 = up2 σ 300 5 0 → (wX11_in l1 0 1 m1 (fun y3 m2 => ((y3 = 0 → Q 0 m2) ∧ (¬ y3 = 0 → ((0 ≤ l1 ∧ l1 < 2) ∧ ((¬ m2 332 l1.toNat = 0 → wLX11_again_27 Q l1 0 m2) ∧ (m2 332 l1.toNat = 0 → Q 0 m2))))))))
set_option maxHeartbeats 1000000 in
theorem bX11_again_27 {E : TE} {K27 : (Int × Int) → Mem → Prop} (hK27 : ∀ (x : Int × Int) (σ : Mem), K27 x σ → GW E cX11_again 3 RX11 1 22 σ 27 [(0, vR 300), (1, vI x.1), (2, vI x.2)] []) {Q : Int → Mem → Prop} (hR : RI E (some .boolean) Q) {l1 : Int} {l2 : Int} {σ : Mem} (h : wX11_again_27 K27 Q l1 l2 σ) : GW E cX11_again 3 RX11 1 22 σ 27 [(0, vR 300), (1, vI l1), (2, vI l2)] [] := by
  unfold wX11_again_27 at h
  refine g_iload_n dX11_again_27 rfl ?_
  refine g_sipush dX11_again_28 405 rfl (by decide) ?_
  obtain ⟨hA, hB⟩ := h
  refine g_icmp_ge (tgt := 58) dX11_again_31 (by decide) (fun hc => ?_) (fun hc => ?_)
  · replace h := hA hc
    refine g_aload_n dX11_again_58 rfl ?_
    refine g_iconst dX11_again_59 0 rfl (by decide) ?_
    refine g_putI fp_11_320 kd_300 rfl dX11_again_60 ?_
    refine g_nm (fun m1 em1 => ?_)
    replace h := h m1 em1
    refine g_iconst dX11_again_63 1 rfl (by decide) ?_
    exact g_zret hR dX11_again_64 (by decide) h
  · replace h := hB hc
    refine g_aload_n dX11_again_34 rfl ?_
    refine g_getR (r := 301) fl_11_9 kd_300 rfl dX11_again_35 ?_
    refine g_iload_n dX11_again_38 rfl ?_
    refine g_aload_n dX11_again_39 rfl ?_
    refine g_getR (r := 331) fl_11_61 kd_300 rfl dX11_again_40 ?_
    refine g_sipush dX11_again_43 405 rfl (by decide) ?_
    refine g_iload_n dX11_again_46 rfl ?_
    refine g_imul dX11_again_47 ?_
    refine g_iload_n dX11_again_48 rfl ?_
    refine g_iadd dX11_again_49 ?_
    obtain ⟨hin, h⟩ := h
    refine g_iald kd_331 hin dX11_again_50 ?_
    obtain ⟨hin, h⟩ := h
    refine g_iast kd_301 hin dX11_again_51 ?_
    refine g_nm (fun m2 em2 => ?_)
    replace h := h m2 em2
    refine g_iinc (lv' := [(2, vI (w32 (l2 + 1))), (0, vR 300), (1, vI l1)]) dX11_again_52 rfl (by decide) rfl ?_
    refine g_loc (a := w32 (l2 + 1)) (i := 2) (lv := [(0, vR 300), (1, vI l1)]) (fun x3 ex3 => ?_)
    replace h := h x3 ex3
    refine g_goto (tgt := 27) dX11_again_55 (by decide) ?_
    refine g_lv (lv' := [(0, vR 300), (1, vI l1), (2, vI x3)]) [1, 2, 0] rfl ?_
    exact hK27 ((l1, x3)) m2 h
theorem eX11_again_27 {E : TE} {Q : Int → Mem → Prop} (hR : RI E (some .boolean) Q) {l1 : Int} {l2 : Int} {σ : Mem} (h : wLX11_again_27 Q l1 l2 σ) : GW E cX11_again 3 RX11 1 22 σ 27 [(0, vR 300), (1, vI l1), (2, vI l2)] [] := by
  obtain ⟨n, h⟩ := h
  exact lp_GW (P := fun (x : Int × Int) (σ : Mem) => GW E cX11_again 3 RX11 1 22 σ 27 [(0, vR 300), (1, vI x.1), (2, vI x.2)] []) (fun K hK x σ h  => bX11_again_27 hK hR h) n _ σ h 
set_option maxHeartbeats 1000000 in
theorem kX11_again {l1 : Int} {σ : Mem} {Q : Int → Mem → Prop} (h : wX11_again l1 σ Q) (l : Launch) (D : va_G) (cy : Nat → ClassId) (ad : Nat → Nat) : MI l yX11_again cX11_again 3 (some .boolean) 1 22 D cy ad [vR 300, vI l1] σ Q := by
  refine m_I (own := RX11) (lv := [(0, vR 300), (1, vI l1)]) (by decide +kernel) rfl (Nat.le_of_ble_eq_true rfl) rfl (fun E hR => ?_) l D cy ad
  unfold wX11_again at h
  refine g_aload_n dX11_again_0 rfl ?_
  refine g_iconst dX11_again_1 0 rfl (by decide) ?_
  refine g_putI fp_11_68 kd_300 rfl dX11_again_2 ?_
  refine g_nm (fun m1 em1 => ?_)
  replace h := h m1 em1
  refine g_iload_n dX11_again_5 rfl ?_
  refine g_iconst dX11_again_6 0 rfl (by decide) ?_
  refine g_iconst dX11_again_7 1 rfl (by decide) ?_
  refine g_cSi (st := []) (av := [vI l1, vI 0, vI 1]) (kX11_in h) cw_RX11_74 (by decide) (by decide) (Nat.le_of_ble_eq_true rfl) rfl dX11_again_8 (fun y3 m2 h => ?_)
  obtain ⟨hA, hB⟩ := h
  refine g_if_eq (tgt := 23) dX11_again_11 (by decide) (fun hc => ?_) (fun hc => ?_)
  · replace h := hA hc
    refine g_iconst dX11_again_23 0 rfl (by decide) ?_
    exact g_zret hR dX11_again_24 (by decide) h
  · replace h := hB hc
    refine g_aload_n dX11_again_14 rfl ?_
    refine g_getR (r := 332) fl_11_64 kd_300 rfl dX11_again_15 ?_
    refine g_iload_n dX11_again_18 rfl ?_
    obtain ⟨hin, h⟩ := h
    refine g_zald kd_332 hin dX11_again_19 ?_
    obtain ⟨hA, hB⟩ := h
    refine g_if_ne (tgt := 25) dX11_again_20 (by decide) (fun hc => ?_) (fun hc => ?_)
    · replace h := hA hc
      refine g_iconst dX11_again_25 0 rfl (by decide) ?_
      refine g_istore_n (lv' := [(2, vI 0), (0, vR 300), (1, vI l1)]) dX11_again_26 (by decide) rfl ?_
      refine g_lv (lv' := [(0, vR 300), (1, vI l1), (2, vI 0)]) [1, 2, 0] rfl ?_
      exact eX11_again_27 hR h
    · replace h := hB hc
      refine g_iconst dX11_again_23 0 rfl (by decide) ?_
      exact g_zret hR dX11_again_24 (by decide) h
def wX11_lineMany_27 (K4 : (Int × Int) → Mem → Prop) (Q : Int → Mem → Prop) (l2 : Int) (s0 : Int) (s1 : Int) (σ : Mem) : Prop := (∀ x1 : Int, x1 = w32 (s1 + s0) → (∀ x2 : Int, x2 = w32 (l2 + 1) → K4 (x1, x2) σ))
def wX11_lineMany_4 (K4 : (Int × Int) → Mem → Prop) (Q : Int → Mem → Prop) (l1 : Int) (l2 : Int) (σ : Mem) : Prop := ((64 ≤ l2 → Q l1 σ) ∧ (¬ 64 ≤ l2 → ((0 ≤ w32 (1 + l2) ∧ w32 (1 + l2) < 405) ∧ ((σ 301 (w32 (1 + l2)).toNat ≤ 0 → wX11_lineMany_27 K4 Q l2 0 l1 σ) ∧ (¬ σ 301 (w32 (1 + l2)).toNat ≤ 0 → wX11_lineMany_27 K4 Q l2 1 l1 σ)))))
def wLX11_lineMany_4 (Q : Int → Mem → Prop) (l1 : Int) (l2 : Int) (σ : Mem) : Prop := ∃ n, lp (fun (K4 : (Int × Int) → Mem → Prop) (x : Int × Int) (σ : Mem) => wX11_lineMany_4 K4 Q x.1 x.2 σ) n (l1, l2) σ
def wX11_lineMany (σ : Mem) (Q : Int → Mem → Prop) : Prop := wLX11_lineMany_4 Q 0 0 σ
set_option maxHeartbeats 1000000 in
theorem bX11_lineMany_27 {E : TE} {K4 : (Int × Int) → Mem → Prop} (hK4 : ∀ (x : Int × Int) (σ : Mem), K4 x σ → GW E cX11_lineMany 3 RX11 0 0 σ 4 [(0, vR 300), (1, vI x.1), (2, vI x.2)] []) {Q : Int → Mem → Prop} (hR : RI E (some .int) Q) {l2 : Int} {s0 : Int} {s1 : Int} {σ : Mem} (h : wX11_lineMany_27 K4 Q l2 s0 s1 σ) : GW E cX11_lineMany 3 RX11 0 0 σ 27 [(0, vR 300), (2, vI l2)] [vI s0, vI s1] := by
  unfold wX11_lineMany_27 at h
  refine g_iadd dX11_lineMany_27 ?_
  refine g_topI (fun x1 ex1 => ?_)
  replace h := h x1 ex1
  refine g_istore_n (lv' := [(1, vI x1), (0, vR 300), (2, vI l2)]) dX11_lineMany_28 (by decide) rfl ?_
  refine g_iinc (lv' := [(2, vI (w32 (l2 + 1))), (1, vI x1), (0, vR 300)]) dX11_lineMany_29 rfl (by decide) rfl ?_
  refine g_loc (a := w32 (l2 + 1)) (i := 2) (lv := [(1, vI x1), (0, vR 300)]) (fun x2 ex2 => ?_)
  replace h := h x2 ex2
  refine g_goto (tgt := 4) dX11_lineMany_32 (by decide) ?_
  refine g_lv (lv' := [(0, vR 300), (1, vI x1), (2, vI x2)]) [2, 1, 0] rfl ?_
  exact hK4 ((x1, x2)) σ h
set_option maxHeartbeats 1000000 in
theorem bX11_lineMany_4 {E : TE} {K4 : (Int × Int) → Mem → Prop} (hK4 : ∀ (x : Int × Int) (σ : Mem), K4 x σ → GW E cX11_lineMany 3 RX11 0 0 σ 4 [(0, vR 300), (1, vI x.1), (2, vI x.2)] []) {Q : Int → Mem → Prop} (hR : RI E (some .int) Q) {l1 : Int} {l2 : Int} {σ : Mem} (h : wX11_lineMany_4 K4 Q l1 l2 σ) : GW E cX11_lineMany 3 RX11 0 0 σ 4 [(0, vR 300), (1, vI l1), (2, vI l2)] [] := by
  unfold wX11_lineMany_4 at h
  refine g_iload_n dX11_lineMany_4 rfl ?_
  refine g_bipush dX11_lineMany_5 64 rfl (by decide) ?_
  obtain ⟨hA, hB⟩ := h
  refine g_icmp_ge (tgt := 35) dX11_lineMany_7 (by decide) (fun hc => ?_) (fun hc => ?_)
  · replace h := hA hc
    refine g_iload_n dX11_lineMany_35 rfl ?_
    exact g_iret hR dX11_lineMany_36 h
  · replace h := hB hc
    refine g_iload_n dX11_lineMany_10 rfl ?_
    refine g_aload_n dX11_lineMany_11 rfl ?_
    refine g_getR (r := 301) fl_11_9 kd_300 rfl dX11_lineMany_12 ?_
    refine g_iconst dX11_lineMany_15 1 rfl (by decide) ?_
    refine g_iload_n dX11_lineMany_16 rfl ?_
    refine g_iadd dX11_lineMany_17 ?_
    obtain ⟨hin, h⟩ := h
    refine g_iald kd_301 hin dX11_lineMany_18 ?_
    obtain ⟨hA, hB⟩ := h
    refine g_if_le (tgt := 26) dX11_lineMany_19 (by decide) (fun hc => ?_) (fun hc => ?_)
    · replace h := hA hc
      refine g_iconst dX11_lineMany_26 0 rfl (by decide) ?_
      refine g_lv (lv' := [(0, vR 300), (2, vI l2)]) [0, 2] rfl ?_
      exact bX11_lineMany_27 hK4 hR h
    · replace h := hB hc
      refine g_iconst dX11_lineMany_22 1 rfl (by decide) ?_
      refine g_goto (tgt := 27) dX11_lineMany_23 (by decide) ?_
      refine g_lv (lv' := [(0, vR 300), (2, vI l2)]) [0, 2] rfl ?_
      exact bX11_lineMany_27 hK4 hR h
theorem eX11_lineMany_4 {E : TE} {Q : Int → Mem → Prop} (hR : RI E (some .int) Q) {l1 : Int} {l2 : Int} {σ : Mem} (h : wLX11_lineMany_4 Q l1 l2 σ) : GW E cX11_lineMany 3 RX11 0 0 σ 4 [(0, vR 300), (1, vI l1), (2, vI l2)] [] := by
  obtain ⟨n, h⟩ := h
  exact lp_GW (P := fun (x : Int × Int) (σ : Mem) => GW E cX11_lineMany 3 RX11 0 0 σ 4 [(0, vR 300), (1, vI x.1), (2, vI x.2)] []) (fun K hK x σ h  => bX11_lineMany_4 hK hR h) n _ σ h 
set_option maxHeartbeats 1000000 in
theorem kX11_lineMany {σ : Mem} {Q : Int → Mem → Prop} (h : wX11_lineMany σ Q) (l : Launch) (D : va_G) (cy : Nat → ClassId) (ad : Nat → Nat) : MI l yX11_lineMany cX11_lineMany 3 (some .int) 0 0 D cy ad [vR 300] σ Q := by
  refine m_I (own := RX11) (lv := [(0, vR 300)]) (by decide +kernel) rfl (Nat.le_of_ble_eq_true rfl) rfl (fun E hR => ?_) l D cy ad
  unfold wX11_lineMany at h
  refine g_iconst dX11_lineMany_0 0 rfl (by decide) ?_
  refine g_istore_n (lv' := [(1, vI 0), (0, vR 300)]) dX11_lineMany_1 (by decide) rfl ?_
  refine g_iconst dX11_lineMany_2 0 rfl (by decide) ?_
  refine g_istore_n (lv' := [(2, vI 0), (1, vI 0), (0, vR 300)]) dX11_lineMany_3 (by decide) rfl ?_
  refine g_lv (lv' := [(0, vR 300), (1, vI 0), (2, vI 0)]) [2, 1, 0] rfl ?_
  exact eX11_lineMany_4 hR h
def wX11_allLimits_4 (K4 : (Int × Int) → Mem → Prop) (Q : Int → Mem → Prop) (l1 : Int) (l2 : Int) (σ : Mem) : Prop := ((64 ≤ l2 → Q l1 σ) ∧ (¬ 64 ≤ l2 → ((0 ≤ w32 (1 + l2) ∧ w32 (1 + l2) < 405) ∧ (∀ x1 : Int, x1 = w32 (l1 + (σ 301 (w32 (1 + l2)).toNat)) → (∀ x2 : Int, x2 = w32 (l2 + 1) → K4 (x1, x2) σ)))))
def wLX11_allLimits_4 (Q : Int → Mem → Prop) (l1 : Int) (l2 : Int) (σ : Mem) : Prop := ∃ n, lp (fun (K4 : (Int × Int) → Mem → Prop) (x : Int × Int) (σ : Mem) => wX11_allLimits_4 K4 Q x.1 x.2 σ) n (l1, l2) σ
def wX11_allLimits (σ : Mem) (Q : Int → Mem → Prop) : Prop := wLX11_allLimits_4 Q 0 0 σ
set_option maxHeartbeats 1000000 in
theorem bX11_allLimits_4 {E : TE} {K4 : (Int × Int) → Mem → Prop} (hK4 : ∀ (x : Int × Int) (σ : Mem), K4 x σ → GW E cX11_allLimits 3 RX11 0 0 σ 4 [(0, vR 300), (1, vI x.1), (2, vI x.2)] []) {Q : Int → Mem → Prop} (hR : RI E (some .int) Q) {l1 : Int} {l2 : Int} {σ : Mem} (h : wX11_allLimits_4 K4 Q l1 l2 σ) : GW E cX11_allLimits 3 RX11 0 0 σ 4 [(0, vR 300), (1, vI l1), (2, vI l2)] [] := by
  unfold wX11_allLimits_4 at h
  refine g_iload_n dX11_allLimits_4 rfl ?_
  refine g_bipush dX11_allLimits_5 64 rfl (by decide) ?_
  obtain ⟨hA, hB⟩ := h
  refine g_icmp_ge (tgt := 27) dX11_allLimits_7 (by decide) (fun hc => ?_) (fun hc => ?_)
  · replace h := hA hc
    refine g_iload_n dX11_allLimits_27 rfl ?_
    exact g_iret hR dX11_allLimits_28 h
  · replace h := hB hc
    refine g_iload_n dX11_allLimits_10 rfl ?_
    refine g_aload_n dX11_allLimits_11 rfl ?_
    refine g_getR (r := 301) fl_11_9 kd_300 rfl dX11_allLimits_12 ?_
    refine g_iconst dX11_allLimits_15 1 rfl (by decide) ?_
    refine g_iload_n dX11_allLimits_16 rfl ?_
    refine g_iadd dX11_allLimits_17 ?_
    obtain ⟨hin, h⟩ := h
    refine g_iald kd_301 hin dX11_allLimits_18 ?_
    refine g_iadd dX11_allLimits_19 ?_
    refine g_topI (fun x1 ex1 => ?_)
    replace h := h x1 ex1
    refine g_istore_n (lv' := [(1, vI x1), (0, vR 300), (2, vI l2)]) dX11_allLimits_20 (by decide) rfl ?_
    refine g_iinc (lv' := [(2, vI (w32 (l2 + 1))), (1, vI x1), (0, vR 300)]) dX11_allLimits_21 rfl (by decide) rfl ?_
    refine g_loc (a := w32 (l2 + 1)) (i := 2) (lv := [(1, vI x1), (0, vR 300)]) (fun x2 ex2 => ?_)
    replace h := h x2 ex2
    refine g_goto (tgt := 4) dX11_allLimits_24 (by decide) ?_
    refine g_lv (lv' := [(0, vR 300), (1, vI x1), (2, vI x2)]) [2, 1, 0] rfl ?_
    exact hK4 ((x1, x2)) σ h
theorem eX11_allLimits_4 {E : TE} {Q : Int → Mem → Prop} (hR : RI E (some .int) Q) {l1 : Int} {l2 : Int} {σ : Mem} (h : wLX11_allLimits_4 Q l1 l2 σ) : GW E cX11_allLimits 3 RX11 0 0 σ 4 [(0, vR 300), (1, vI l1), (2, vI l2)] [] := by
  obtain ⟨n, h⟩ := h
  exact lp_GW (P := fun (x : Int × Int) (σ : Mem) => GW E cX11_allLimits 3 RX11 0 0 σ 4 [(0, vR 300), (1, vI x.1), (2, vI x.2)] []) (fun K hK x σ h  => bX11_allLimits_4 hK hR h) n _ σ h 
set_option maxHeartbeats 1000000 in
theorem kX11_allLimits {σ : Mem} {Q : Int → Mem → Prop} (h : wX11_allLimits σ Q) (l : Launch) (D : va_G) (cy : Nat → ClassId) (ad : Nat → Nat) : MI l yX11_allLimits cX11_allLimits 3 (some .int) 0 0 D cy ad [vR 300] σ Q := by
  refine m_I (own := RX11) (lv := [(0, vR 300)]) (by decide +kernel) rfl (Nat.le_of_ble_eq_true rfl) rfl (fun E hR => ?_) l D cy ad
  unfold wX11_allLimits at h
  refine g_iconst dX11_allLimits_0 0 rfl (by decide) ?_
  refine g_istore_n (lv' := [(1, vI 0), (0, vR 300)]) dX11_allLimits_1 (by decide) rfl ?_
  refine g_iconst dX11_allLimits_2 0 rfl (by decide) ?_
  refine g_istore_n (lv' := [(2, vI 0), (1, vI 0), (0, vR 300)]) dX11_allLimits_3 (by decide) rfl ?_
  refine g_lv (lv' := [(0, vR 300), (1, vI 0), (2, vI 0)]) [2, 1, 0] rfl ?_
  exact eX11_allLimits_4 hR h
def wX11_allStocks_4 (K4 : (Int × Int) → Mem → Prop) (Q : Int → Mem → Prop) (l1 : Int) (l2 : Int) (σ : Mem) : Prop := ((8 ≤ l2 → Q l1 σ) ∧ (¬ 8 ≤ l2 → ((0 ≤ w32 (129 + l2) ∧ w32 (129 + l2) < 405) ∧ (∀ x1 : Int, x1 = w32 (l1 + (σ 301 (w32 (129 + l2)).toNat)) → (∀ x2 : Int, x2 = w32 (l2 + 1) → K4 (x1, x2) σ)))))
def wLX11_allStocks_4 (Q : Int → Mem → Prop) (l1 : Int) (l2 : Int) (σ : Mem) : Prop := ∃ n, lp (fun (K4 : (Int × Int) → Mem → Prop) (x : Int × Int) (σ : Mem) => wX11_allStocks_4 K4 Q x.1 x.2 σ) n (l1, l2) σ
def wX11_allStocks (σ : Mem) (Q : Int → Mem → Prop) : Prop := wLX11_allStocks_4 Q 0 0 σ
set_option maxHeartbeats 1000000 in
theorem bX11_allStocks_4 {E : TE} {K4 : (Int × Int) → Mem → Prop} (hK4 : ∀ (x : Int × Int) (σ : Mem), K4 x σ → GW E cX11_allStocks 3 RX11 0 0 σ 4 [(0, vR 300), (1, vI x.1), (2, vI x.2)] []) {Q : Int → Mem → Prop} (hR : RI E (some .int) Q) {l1 : Int} {l2 : Int} {σ : Mem} (h : wX11_allStocks_4 K4 Q l1 l2 σ) : GW E cX11_allStocks 3 RX11 0 0 σ 4 [(0, vR 300), (1, vI l1), (2, vI l2)] [] := by
  unfold wX11_allStocks_4 at h
  refine g_iload_n dX11_allStocks_4 rfl ?_
  refine g_bipush dX11_allStocks_5 8 rfl (by decide) ?_
  obtain ⟨hA, hB⟩ := h
  refine g_icmp_ge (tgt := 29) dX11_allStocks_7 (by decide) (fun hc => ?_) (fun hc => ?_)
  · replace h := hA hc
    refine g_iload_n dX11_allStocks_29 rfl ?_
    exact g_iret hR dX11_allStocks_30 h
  · replace h := hB hc
    refine g_iload_n dX11_allStocks_10 rfl ?_
    refine g_aload_n dX11_allStocks_11 rfl ?_
    refine g_getR (r := 301) fl_11_9 kd_300 rfl dX11_allStocks_12 ?_
    refine g_sipush dX11_allStocks_15 129 rfl (by decide) ?_
    refine g_iload_n dX11_allStocks_18 rfl ?_
    refine g_iadd dX11_allStocks_19 ?_
    obtain ⟨hin, h⟩ := h
    refine g_iald kd_301 hin dX11_allStocks_20 ?_
    refine g_iadd dX11_allStocks_21 ?_
    refine g_topI (fun x1 ex1 => ?_)
    replace h := h x1 ex1
    refine g_istore_n (lv' := [(1, vI x1), (0, vR 300), (2, vI l2)]) dX11_allStocks_22 (by decide) rfl ?_
    refine g_iinc (lv' := [(2, vI (w32 (l2 + 1))), (1, vI x1), (0, vR 300)]) dX11_allStocks_23 rfl (by decide) rfl ?_
    refine g_loc (a := w32 (l2 + 1)) (i := 2) (lv := [(1, vI x1), (0, vR 300)]) (fun x2 ex2 => ?_)
    replace h := h x2 ex2
    refine g_goto (tgt := 4) dX11_allStocks_26 (by decide) ?_
    refine g_lv (lv' := [(0, vR 300), (1, vI x1), (2, vI x2)]) [2, 1, 0] rfl ?_
    exact hK4 ((x1, x2)) σ h
theorem eX11_allStocks_4 {E : TE} {Q : Int → Mem → Prop} (hR : RI E (some .int) Q) {l1 : Int} {l2 : Int} {σ : Mem} (h : wLX11_allStocks_4 Q l1 l2 σ) : GW E cX11_allStocks 3 RX11 0 0 σ 4 [(0, vR 300), (1, vI l1), (2, vI l2)] [] := by
  obtain ⟨n, h⟩ := h
  exact lp_GW (P := fun (x : Int × Int) (σ : Mem) => GW E cX11_allStocks 3 RX11 0 0 σ 4 [(0, vR 300), (1, vI x.1), (2, vI x.2)] []) (fun K hK x σ h  => bX11_allStocks_4 hK hR h) n _ σ h 
set_option maxHeartbeats 1000000 in
theorem kX11_allStocks {σ : Mem} {Q : Int → Mem → Prop} (h : wX11_allStocks σ Q) (l : Launch) (D : va_G) (cy : Nat → ClassId) (ad : Nat → Nat) : MI l yX11_allStocks cX11_allStocks 3 (some .int) 0 0 D cy ad [vR 300] σ Q := by
  refine m_I (own := RX11) (lv := [(0, vR 300)]) (by decide +kernel) rfl (Nat.le_of_ble_eq_true rfl) rfl (fun E hR => ?_) l D cy ad
  unfold wX11_allStocks at h
  refine g_iconst dX11_allStocks_0 0 rfl (by decide) ?_
  refine g_istore_n (lv' := [(1, vI 0), (0, vR 300)]) dX11_allStocks_1 (by decide) rfl ?_
  refine g_iconst dX11_allStocks_2 0 rfl (by decide) ?_
  refine g_istore_n (lv' := [(2, vI 0), (1, vI 0), (0, vR 300)]) dX11_allStocks_3 (by decide) rfl ?_
  refine g_lv (lv' := [(0, vR 300), (1, vI 0), (2, vI 0)]) [2, 1, 0] rfl ?_
  exact eX11_allStocks_4 hR h
def wX11_count (l1 : Int) (σ : Mem) (Q : Int → Mem → Prop) : Prop := (∀ m1 : Mem, m1 = up2 σ 300 5 0 → ((l1 = 0 → Q (m1 301 0) m1) ∧ (l1 = 1 → (wX11_lineMany  m1 (fun y3 m2 => Q y3 m2))) ∧ (l1 = 2 → (wX11_allLimits  m1 (fun y5 m4 => Q y5 m4))) ∧ (l1 = 3 → (wX11_allDebts  m1 (fun y7 m6 => Q y7 m6))) ∧ (l1 = 4 → Q (m1 300 28) m1) ∧ (l1 = 5 → Q (m1 300 4) m1) ∧ (l1 = 6 → Q (m1 300 2) m1) ∧ (l1 = 7 → (wX11_heldBits  m1 (fun y9 m8 => Q y9 m8))) ∧ (l1 = 8 → (wX11_allStocks  m1 (fun y11 m10 => Q y11 m10))) ∧ (l1 ≠ 0 ∧ l1 ≠ 1 ∧ l1 ≠ 2 ∧ l1 ≠ 3 ∧ l1 ≠ 4 ∧ l1 ≠ 5 ∧ l1 ≠ 6 ∧ l1 ≠ 7 ∧ l1 ≠ 8 → Q ((-1)) m1)))
set_option maxHeartbeats 1000000 in
theorem kX11_count {l1 : Int} {σ : Mem} {Q : Int → Mem → Prop} (h : wX11_count l1 σ Q) (l : Launch) (D : va_G) (cy : Nat → ClassId) (ad : Nat → Nat) : MI l yX11_count cX11_count 2 (some .int) 4 91 D cy ad [vR 300, vI l1] σ Q := by
  refine m_I (own := RX11) (lv := [(0, vR 300), (1, vI l1)]) (by decide +kernel) rfl (Nat.le_of_ble_eq_true rfl) rfl (fun E hR => ?_) l D cy ad
  unfold wX11_count at h
  refine g_aload_n dX11_count_0 rfl ?_
  refine g_iconst dX11_count_1 0 rfl (by decide) ?_
  refine g_putI fp_11_68 kd_300 rfl dX11_count_2 ?_
  refine g_nm (fun m1 em1 => ?_)
  replace h := h m1 em1
  refine g_iload_n dX11_count_5 rfl ?_
  obtain ⟨hs0, hs1, hs2, hs3, hs4, hs5, hs6, hs7, hs8, hsd⟩ := h
  by_cases ej0 : l1 = 0
  · refine g_tswIn (tgt := 56) (off := 50) dX11_count_6 0 ej0 (by decide) (by decide) rfl (by decide) ?_
    replace h := hs0 ej0
    refine g_aload_n dX11_count_56 rfl ?_
    refine g_getR (r := 301) fl_11_9 kd_300 rfl dX11_count_57 ?_
    refine g_iconst dX11_count_60 0 rfl (by decide) ?_
    refine g_iald kd_301 (by decide) dX11_count_61 ?_
    exact g_iret hR dX11_count_62 h
  by_cases ej1 : l1 = 1
  · refine g_tswIn (tgt := 63) (off := 57) dX11_count_6 1 ej1 (by decide) (by decide) rfl (by decide) ?_
    replace h := hs1 ej1
    refine g_aload_n dX11_count_63 rfl ?_
    refine g_cVi (st := []) (av := []) (kX11_lineMany h) kd_300 rfl cw_RX11_349 (by decide) (by decide) (Nat.le_of_ble_eq_true rfl) rfl dX11_count_64 (fun y3 m2 h => ?_)
    exact g_iret hR dX11_count_67 h
  by_cases ej2 : l1 = 2
  · refine g_tswIn (tgt := 68) (off := 62) dX11_count_6 2 ej2 (by decide) (by decide) rfl (by decide) ?_
    replace h := hs2 ej2
    refine g_aload_n dX11_count_68 rfl ?_
    refine g_cVi (st := []) (av := []) (kX11_allLimits h) kd_300 rfl cw_RX11_352 (by decide) (by decide) (Nat.le_of_ble_eq_true rfl) rfl dX11_count_69 (fun y5 m4 h => ?_)
    exact g_iret hR dX11_count_72 h
  by_cases ej3 : l1 = 3
  · refine g_tswIn (tgt := 73) (off := 67) dX11_count_6 3 ej3 (by decide) (by decide) rfl (by decide) ?_
    replace h := hs3 ej3
    refine g_aload_n dX11_count_73 rfl ?_
    refine g_cVi (st := []) (av := []) (kX11_allDebts h) kd_300 rfl cw_RX11_172 (by decide) (by decide) (Nat.le_of_ble_eq_true rfl) rfl dX11_count_74 (fun y7 m6 h => ?_)
    exact g_iret hR dX11_count_77 h
  by_cases ej4 : l1 = 4
  · refine g_tswIn (tgt := 78) (off := 72) dX11_count_6 4 ej4 (by decide) (by decide) rfl (by decide) ?_
    replace h := hs4 ej4
    refine g_aload_n dX11_count_78 rfl ?_
    refine g_getI fl_11_320 kd_300 rfl dX11_count_79 ?_
    exact g_iret hR dX11_count_82 h
  by_cases ej5 : l1 = 5
  · refine g_tswIn (tgt := 83) (off := 77) dX11_count_6 5 ej5 (by decide) (by decide) rfl (by decide) ?_
    replace h := hs5 ej5
    refine g_aload_n dX11_count_83 rfl ?_
    refine g_getI fl_11_71 kd_300 rfl dX11_count_84 ?_
    exact g_iret hR dX11_count_87 h
  by_cases ej6 : l1 = 6
  · refine g_tswIn (tgt := 88) (off := 82) dX11_count_6 6 ej6 (by decide) (by decide) rfl (by decide) ?_
    replace h := hs6 ej6
    refine g_aload_n dX11_count_88 rfl ?_
    refine g_getI fl_11_101 kd_300 rfl dX11_count_89 ?_
    exact g_iret hR dX11_count_92 h
  by_cases ej7 : l1 = 7
  · refine g_tswIn (tgt := 93) (off := 87) dX11_count_6 7 ej7 (by decide) (by decide) rfl (by decide) ?_
    replace h := hs7 ej7
    refine g_aload_n dX11_count_93 rfl ?_
    refine g_cVi (st := []) (av := []) (kX11_heldBits h) kd_300 rfl cw_RX11_144 (by decide) (by decide) (Nat.le_of_ble_eq_true rfl) rfl dX11_count_94 (fun y9 m8 h => ?_)
    exact g_iret hR dX11_count_97 h
  by_cases ej8 : l1 = 8
  · refine g_tswIn (tgt := 98) (off := 92) dX11_count_6 8 ej8 (by decide) (by decide) rfl (by decide) ?_
    replace h := hs8 ej8
    refine g_aload_n dX11_count_98 rfl ?_
    refine g_cVi (st := []) (av := []) (kX11_allStocks h) kd_300 rfl cw_RX11_355 (by decide) (by decide) (Nat.le_of_ble_eq_true rfl) rfl dX11_count_99 (fun y11 m10 h => ?_)
    exact g_iret hR dX11_count_102 h
  refine g_tswOut (tgt := 103) dX11_count_6 (by omega) (by decide) ?_
  replace h := hsd (by omega)
  refine g_iconst dX11_count_103 (-1) rfl (by decide) ?_
  exact g_iret hR dX11_count_104 h
