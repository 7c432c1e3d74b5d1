/-! the most that goes is the least cut -/
def ct (N : Nat) (s : Nat → Int) (b i : Nat) : Int := if i / 8 < N ∧ i % 8 < N ∧ b.testBit (i / 8) = true ∧ b.testBit (i % 8) = false then s i else 0
def cutS (N : Nat) (s : Nat → Int) (b : Nat) : Int := sumTo (ct N s b) 64
section CUT
variable {N : Nat} {s : Nat → Int} {b : Nat}
theorem cut_up1 {i : Nat} {y : Int} (hi : i < 64) : cutS N (up1 s i y) b = cutS N s b + (if i / 8 < N ∧ i % 8 < N ∧ b.testBit (i / 8) = true ∧ b.testBit (i % 8) = false then y - s i else 0) := by
  unfold cutS
  rw [sumTo_at (f := ct N s b) (k := i) hi (fun j _ hne => by unfold ct; rw [up1_ne hne])]
  unfold ct
  rw [up1_eq]
  by_cases c : i / 8 < N ∧ i % 8 < N ∧ b.testBit (i / 8) = true ∧ b.testBit (i % 8) = false
  · rw [if_pos c, if_pos c, if_pos c]
  · rw [if_neg c, if_neg c, if_neg c]; omega
theorem cut_pay {u v : Nat} {p : Int} (hN : N ≤ 8) (hu : u < N) (hv : v < N) (hne : u ≠ v) : cutS N (pay s v u p) b = cutS N s b + (if b.testBit v = true then p else 0) - (if b.testBit u = true then p else 0) := by
  have e : pay s v u p = up1 (up1 s (8 * v + u) (s (8 * v + u) + p)) (8 * u + v) (s (8 * u + v) - p) := by
    funext i
    unfold pay up1
    by_cases c1 : i = 8 * u + v
    · rw [if_pos c1, if_neg (by omega), if_pos c1, c1]; omega
    · rw [if_neg c1, if_neg c1]
      by_cases c2 : i = 8 * v + u
      · rw [if_pos c2, if_pos c2, c2]; omega
      · rw [if_neg c2, if_neg c2]; omega
  have hu8 : u < 8 := by omega
  have hv8 : v < 8 := by omega
  rw [e, cut_up1 (lt64 hu8 hv8), cut_up1 (lt64 hv8 hu8), (dm8 hv8).1, (dm8 hv8).2, (dm8 hu8).1, (dm8 hu8).2, up1_ne (by omega)]
  cases c1 : b.testBit u with
  | true =>
    cases c2 : b.testBit v with
    | true => simp <;> omega
    | false => simp [hu, hv]; omega
  | false =>
    cases c2 : b.testBit v with
    | true => simp [hu, hv]; omega
    | false => simp
theorem cut_push {P : Nat → Nat} {p : Int} {L : Nat} (hN : N ≤ 8) (hPn : ∀ i, i < L → P i < N) (hinj : ∀ i, i < L → ∀ j, j < L → P i = P j → i = j) : ∀ k, k < L → cutS N (pushS s P p k) b = cutS N s b + (if b.testBit (P k) = true then p else 0) - (if b.testBit (P 0) = true then p else 0)
  | 0, _ => by rw [pushS]; omega
  | k + 1, hk => by
    have ih := cut_push (p := p) hN hPn hinj k (by omega)
    rw [pushS, cut_pay hN (hPn k (by omega)) (hPn (k + 1) hk) (fun e => by have := hinj _ (by omega) _ hk e; omega), ih]
    omega
theorem cut_run (hN : N ≤ 8) {f t : Nat} (hf : f < N) (ht : t < N) (hne : f ≠ t) (bf : b.testBit f = true) (bt : b.testBit t = false) : ∀ {r : List (Nat × Int)} {s : Nat → Int} {l : Int} {s' : Nat → Int} {l' : Int}, Prun N f t r s l s' l' → cutS N s' b = cutS N s b - (l - l')
  | [], s, l, s', l', h => by
    obtain ⟨rfl, rfl⟩ := h
    omega
  | (L, p) :: r, s, l, s', l', h => by
    obtain ⟨h1, P, hW, hp, hr⟩ := h
    obtain ⟨hL2, hLN, P0, PL, hPn, hinj, he⟩ := hW.sh hf ht hne
    have ih := cut_run hN hf ht hne bf bt hr
    rw [ih, cut_push hN hPn hinj (L - 1) (by omega), PL, P0, bf, bt]
    simp
    omega
theorem cut_nn (h : ∀ u, u < 8 → ∀ v, v < 8 → 0 ≤ s (8 * u + v)) : 0 ≤ cutS N s b := sumTo_nn (fun i hi => by
  unfold ct
  split
  · have := h (i / 8) (by omega) (i % 8) (by omega)
    rw [← i88 i] at this
    exact this
  · omega)
/-- as much as x goes if and only if each cut bears it -/
theorem flow_ge {B : Bk} (hI : Inv B) {f t : Nat} (hf : f < nN B) (ht : t < nN B) (hne : f ≠ t) {r : List (Nat × Int)} {s' : Nat → Int} {v x : Int} (hr : Snd (nN B) f t r (sp B) 2147483647 s' (2147483647 - v)) (hn : NoW (nN B) s' 1 f t) : (x ≤ v ↔ ∀ b, b < 256 → b.testBit f = true → b.testBit t = false → x ≤ cutS (nN B) (sp B) b) ∧ ∀ b, IsR (nN B) s' 1 f b → b.testBit t = false ∧ v = cutS (nN B) (sp B) b := by
  have hN := hI.1.1
  have q := Prun.si hI.1 hf ht hne hr.1 si_sp (by omega)
  have nn : ∀ u, u < 8 → ∀ v, v < 8 → 0 ≤ s' (8 * u + v) := fun u hu v hv => si_nn hI q.1 hu hv
  have strong : ∀ b, IsR (nN B) s' 1 f b → b.testBit t = false ∧ v = cutS (nN B) (sp B) b := fun b hb => by
    have bt : b.testBit t = false := by
      cases e : b.testBit t with
      | false => rfl
      | true =>
        obtain ⟨S, hS, hnt⟩ := now_sep hf ht hn
        exact absurd (hb.1.2.2 S hS t e) hnt
    refine ⟨bt, ?_⟩
    have c := cut_run hN.2 hf ht hne hb.1.2.1 bt hr.1
    have z : cutS (nN B) s' b = 0 := sumTo_z (fun i hi => by
      unfold ct
      by_cases c1 : i / 8 < nN B ∧ i % 8 < nN B ∧ b.testBit (i / 8) = true ∧ b.testBit (i % 8) = false
      · rw [if_pos c1]
        have a1 := nn (i / 8) (by omega) (i % 8) (by omega)
        rw [← i88 i] at a1
        by_cases c2 : 1 ≤ s' i
        · have := hb.2 (i / 8) c1.1 (i % 8) c1.2.1 c1.2.2.1 (by rw [← i88 i]; exact c2)
          rw [c1.2.2.2] at this
          cases this
        · omega
      · rw [if_neg c1])
    omega
  refine ⟨⟨fun hx b hb bf bt => ?_, fun h => ?_⟩, strong⟩
  · have c := cut_run hN.2 hf ht hne bf bt hr.1
    have := cut_nn (N := nN B) (b := b) nn
    omega
  · obtain ⟨b, hb⟩ := ex_R (nN B) s' 1 hN.2 hf
    have st := strong b hb
    have := h b hb.1.1 hb.1.2.1 st.1
    omega
end CUT
/-! a line's limit, raised -/
/-- the books with the limit of the line from a to c at m -/
abbrev RB1 (B : Bk) (a c : Nat) (m : Int) : Bk := wLim B (up1 (lim B) (8 * a + c) m)
section RAISE
variable {B : Bk} {a c f t : Nat} {x : Int}
theorem inv_wide {m : Int} (hI : Inv B) (ha : a < nN B) (hc : c < nN B) (hne : a ≠ c) (h1 : lim B (8 * a + c) ≤ m) (h2 : m ≤ 999) : Inv (RB1 B a c m) := by
  have hN := hI.1.1
  have lb := hI.1.2.1 (8 * a + c) (by omega)
  refine ⟨wl_A hI.1 ⟨by omega, h2⟩ _, wl_B hI.2.1 ha hc hN.2 hne, fun u hu v hv hn => ?_⟩
  have hu' : u < nN B := hu
  have hv' : v < nN B := hv
  have r := hI.2.2 u hu' v hv' hn
  unfold rm at r ⊢
  show 0 ≤ up1 (lim B) (8 * a + c) m (8 * v + u) - deb B (8 * u + v) - hld B u v
  unfold up1
  by_cases e : 8 * v + u = 8 * a + c
  · rw [if_pos e]; rw [e] at r; omega
  · rw [if_neg e]; exact r
theorem cut_wide {m : Int} {b : Nat} (hN : nN B ≤ 8) (ha : a < nN B) (hc : c < nN B) (hne : a ≠ c) : cutS (nN B) (sp (RB1 B a c m)) b = cutS (nN B) (sp B) b + (if b.testBit c = true ∧ b.testBit a = false then m - lim B (8 * a + c) else 0) := by
  have e : cutS (nN B) (sp (RB1 B a c m)) b = cutS (nN B) (up1 (sp B) (8 * c + a) (sp B (8 * c + a) + (m - lim B (8 * a + c)))) b := sumTo_congr (fun i hi => by
    unfold ct
    rw [wl_sp ha hc hN hne i hi])
  have ha8 : a < 8 := by omega
  rw [e, cut_up1 (by omega), (dm8 ha8).1, (dm8 ha8).2]
  by_cases q : b.testBit c = true ∧ b.testBit a = false
  · rw [if_pos ⟨hc, ha, q⟩, if_pos q]; omega
  · rw [if_neg (fun z => q z.2.2), if_neg q]
/-- each cut bears x once this line's limit is d more -/
def Wde (B : Bk) (f t : Nat) (x : Int) (a c : Nat) (d : Int) : Prop := ∀ b, b < 256 → b.testBit f = true → b.testBit t = false → x ≤ cutS (nN B) (sp B) b + (if b.testBit c = true ∧ b.testBit a = false then d else 0)
theorem wide_ge {m : Int} (hI : Inv B) (hf : f < nN B) (ht : t < nN B) (hft : f ≠ t) (ha : a < nN B) (hc : c < nN B) (hne : a ≠ c) (h1 : lim B (8 * a + c) ≤ m) (h2 : m ≤ 999) {r : List (Nat × Int)} {s' : Nat → Int} {v : Int} (hr : Snd (nN B) f t r (sp (RB1 B a c m)) 2147483647 s' (2147483647 - v)) (hn : NoW (nN B) s' 1 f t) : x ≤ v ↔ Wde B f t x a c (m - lim B (8 * a + c)) := by
  have hN := hI.1.1
  have q := (flow_ge (B := RB1 B a c m) (x := x) (inv_wide hI ha hc hne h1 h2) hf ht hft hr hn).1
  rw [q]
  refine ⟨fun h b b1 b2 b3 => ?_, fun h b b1 b2 b3 => ?_⟩
  · have := h b b1 b2 b3
    rw [show cutS (nN (RB1 B a c m)) (sp (RB1 B a c m)) b = cutS (nN B) (sp (RB1 B a c m)) b from rfl, cut_wide hN.2 ha hc hne] at this
    exact this
  · rw [show cutS (nN (RB1 B a c m)) (sp (RB1 B a c m)) b = cutS (nN B) (sp (RB1 B a c m)) b from rfl, cut_wide hN.2 ha hc hne]
    exact h b b1 b2 b3
/-- so much is missing, or it never goes -/
theorem wde_iff {v : Int} {b0 : Nat} (h0 : b0 < 256) (hf0 : b0.testBit f = true) (ht0 : b0.testBit t = false) (hv : v = cutS (nN B) (sp B) b0) (hmin : ∀ b, b < 256 → b.testBit f = true → b.testBit t = false → v ≤ cutS (nN B) (sp B) b) (hx : v < x) {d : Int} (hd : 0 ≤ d) : Wde B f t x a c d ↔ (x - v ≤ d ∧ Wde B f t x a c (x - v)) := by
  refine ⟨fun h => ?_, fun h b b1 b2 b3 => ?_⟩
  · have q := h b0 h0 hf0 ht0
    have hcr : b0.testBit c = true ∧ b0.testBit a = false := by
      by_cases e : b0.testBit c = true ∧ b0.testBit a = false
      · exact e
      · rw [if_neg e] at q; omega
    rw [if_pos hcr] at q
    refine ⟨by omega, fun b b1 b2 b3 => ?_⟩
    have q2 := h b b1 b2 b3
    have q3 := hmin b b1 b2 b3
    by_cases e : b.testBit c = true ∧ b.testBit a = false
    · rw [if_pos e]; omega
    · rw [if_neg e] at q2 ⊢; exact q2
  · have q := h.2 b b1 b2 b3
    by_cases e : b.testBit c = true ∧ b.testBit a = false
    · rw [if_pos e] at q ⊢; omega
    · rw [if_neg e] at q ⊢; exact q
theorem wde_cross {v : Int} {b0 : Nat} (h0 : b0 < 256) (hf0 : b0.testBit f = true) (ht0 : b0.testBit t = false) (hv : v = cutS (nN B) (sp B) b0) (hx : v < x) {d : Int} (h : Wde B f t x a c d) : b0.testBit c = true ∧ b0.testBit a = false := by
  have q := h b0 h0 hf0 ht0
  by_cases e : b0.testBit c = true ∧ b0.testBit a = false
  · exact e
  · rw [if_neg e] at q; omega
end RAISE
