/-! what holds of the books goes on holding -/
section INV
variable {B : Bk}
theorem bor_0l : ∀ x : Int, inI x → bor 0 x = x := by
  intro x hx
  unfold bor
  rw [show Int32.ofInt 0 = 0 from rfl, Int32.zero_or]
  exact oi_t hx
theorem held_all : ∀ a b c d : Bool, bor (bor (bor (bor 0 (if a then 0 else bshl 1 0)) (if b then 0 else bshl 1 1)) (if c then 0 else bshl 1 2)) (if d then 0 else bshl 1 3) = 0 → a = true ∧ b = true ∧ c = true ∧ d = true := by decide +kernel
theorem heldB_0 (h : heldB B = 0) : ∀ p, p < 4 → hdr B p 2 ≤ 0 := by
  unfold heldB at h
  simp only [bitsTo] at h
  have k := held_all (decide (hdr B 0 2 ≤ 0)) (decide (hdr B 1 2 ≤ 0)) (decide (hdr B 2 2 ≤ 0)) (decide (hdr B 3 2 ≤ 0)) (by simpa using h)
  simp only [decide_eq_true_eq] at k
  intro p hp
  match p, hp with
  | 0, _ => exact k.1
  | 1, _ => exact k.2.1
  | 2, _ => exact k.2.2.1
  | 3, _ => exact k.2.2.2
theorem hld_0 (hI : IvA B) (hZ : IvB B) (h : heldB B = 0) {u v : Nat} (hu : u < 8) (hv : v < 8) : hld B u v = 0 := by
  unfold hld
  refine sumTo_z (fun p hp => ?_)
  unfold hldf
  have h1 := heldB_0 h p hp
  have h2 := hI.2.2.2.2.1 p hp
  rw [(hZ.2.2.2.2 p hp (by omega)).2.2 _ (lt64 hu hv)]
  rfl
/-- other debts, such as leave all rooms -/
theorem inv_deb {d : Nat → Int} (h : Inv B) (h1 : ∀ u, u < 8 → ∀ v, v < 8 → d (8 * u + v) = - d (8 * v + u)) (h2 : ∀ u, u < 8 → ∀ v, v < 8 → (nN B ≤ u ∨ nN B ≤ v ∨ u = v) → d (8 * u + v) = 0) (h3 : ∀ u, u < nN B → ∀ v, v < nN B → u ≠ v → 0 ≤ lim B (8 * v + u) - d (8 * u + v) - hld B u v) : Inv (wDeb B d) := by
  obtain ⟨hA, hB, hR⟩ := h
  have hN := hA.1
  have bd : ∀ u, u < 8 → ∀ v, v < 8 → d (8 * u + v) ≤ 999 := fun u hu v hv => by
    by_cases c : nN B ≤ u ∨ nN B ≤ v ∨ u = v
    · rw [h2 u hu v hv c]; omega
    · have := h3 u (by omega) v (by omega) (by omega)
      have l := hA.2.1 (8 * v + u) (by omega)
      have hh := (hld_b hA hu hv).1
      omega
  refine ⟨⟨hA.1, hA.2.1, fun i hi => ?_, hA.2.2.2.1, hA.2.2.2.2.1, hA.2.2.2.2.2⟩, ⟨h1, hB.2.1, fun u hu v hv c => ⟨(hB.2.2.1 u hu v hv c).1, h2 u hu v hv c, (hB.2.2.1 u hu v hv c).2.2⟩, hB.2.2.2.1, hB.2.2.2.2⟩, fun u hu v hv hne => h3 u hu v hv hne⟩
  show -999 ≤ d i ∧ d i ≤ 999
  have e : i = 8 * (i / 8) + i % 8 := by omega
  have a1 := bd (i / 8) (by omega) (i % 8) (by omega)
  have a2 := bd (i % 8) (by omega) (i / 8) (by omega)
  have a3 := h1 (i / 8) (by omega) (i % 8) (by omega)
  rw [e]
  omega
theorem pay_anti {d : Nat → Int} {a b : Nat} {x : Int} (ha : a < 8) (hb : b < 8) (h1 : ∀ u, u < 8 → ∀ v, v < 8 → d (8 * u + v) = - d (8 * v + u)) : ∀ u, u < 8 → ∀ v, v < 8 → pay d a b x (8 * u + v) = - pay d a b x (8 * v + u) := by
  intro u hu v hv
  have := h1 u hu v hv
  unfold pay
  by_cases c1 : u = a ∧ v = b
  · rw [if_pos (by omega), if_pos (show 8 * v + u = 8 * b + a by omega)]
    by_cases c2 : u = v
    · rw [if_pos (by omega), if_pos (by omega)]; omega
    · rw [if_neg (by omega), if_neg (by omega)]; omega
  · rw [if_neg (by omega), if_neg (show ¬ 8 * v + u = 8 * b + a by omega)]
    by_cases c2 : u = b ∧ v = a
    · rw [if_pos (by omega), if_pos (by omega)]; omega
    · rw [if_neg (by omega), if_neg (by omega)]; omega
theorem pay_at {d : Nat → Int} {a b : Nat} {x : Int} (hne : a ≠ b) (ha : a < 8) (hb : b < 8) : pay d a b x (8 * a + b) = d (8 * a + b) + x ∧ pay d a b x (8 * b + a) = d (8 * b + a) - x := by
  unfold pay
  rw [if_pos rfl, if_neg (by omega), if_neg (by omega), if_pos rfl]
  omega
theorem pay_ne {d : Nat → Int} {a b i : Nat} {x : Int} (h1 : i ≠ 8 * a + b) (h2 : i ≠ 8 * b + a) : pay d a b x i = d i := by
  unfold pay
  rw [if_neg h1, if_neg h2]; omega
theorem inv_pay {a b : Nat} {x : Int} (h : Inv B) (ha : a < nN B) (hb : b < nN B) (hne : a ≠ b) (hx0 : 0 ≤ x) (hx : x ≤ rm B a b) : Inv (wDeb B (pay (deb B) a b x)) := by
  have hN := h.1.1
  refine inv_deb h (pay_anti (by omega) (by omega) h.2.1.1) (fun u hu v hv c => ?_) (fun u hu v hv c => ?_)
  · rw [pay_ne (by omega) (by omega)]; exact (h.2.1.2.2.1 u hu v hv c).2.1
  · have r := h.2.2 u hu v hv c
    unfold rm at r hx
    by_cases c1 : u = a ∧ v = b
    · obtain ⟨rfl, rfl⟩ := c1
      rw [(pay_at hne (by omega) (by omega)).1]; omega
    · by_cases c2 : u = b ∧ v = a
      · obtain ⟨rfl, rfl⟩ := c2
        rw [(pay_at (fun e => hne e) (by omega) (by omega)).2]; omega
      · rw [pay_ne (by omega) (by omega)]; omega
theorem inv_stk {m : Nat} {v : Int} (h : Inv B) (hm : m < nN B) (hv : 0 ≤ v ∧ v ≤ 999) : Inv (wStk B (up1 (stk B) m v)) := by
  obtain ⟨hA, hB, hR⟩ := h
  refine ⟨⟨hA.1, hA.2.1, hA.2.2.1, fun i hi => ?_, hA.2.2.2.2.1, hA.2.2.2.2.2⟩, ⟨hB.1, hB.2.1, hB.2.2.1, fun i h1 h2 => ?_, hB.2.2.2.2⟩, hR⟩
  · show 0 ≤ up1 (stk B) m v i ∧ up1 (stk B) m v i ≤ 999
    unfold up1
    by_cases c : i = m
    · rw [if_pos c]; exact hv
    · rw [if_neg c]; exact hA.2.2.2.1 i hi
  · show up1 (stk B) m v i = 0
    unfold up1
    have h1' : nN B ≤ i := h1
    rw [if_neg (by omega)]
    exact hB.2.2.2.1 i h1 h2
theorem inv_lim {u w : Nat} {v : Int} (h : Inv B) (hu : u < nN B) (hw : w < nN B) (hne : u ≠ w) (hv : 0 ≤ v ∧ v ≤ 999) (hh : heldB B = 0) (ho : owe B w u ≤ v) : Inv (wLim B (up1 (lim B) (8 * u + w) v)) := by
  obtain ⟨hA, hB, hR⟩ := h
  have hN := hA.1
  refine ⟨⟨hA.1, fun i hi => ?_, hA.2.2.1, hA.2.2.2.1, hA.2.2.2.2.1, hA.2.2.2.2.2⟩, ⟨hB.1, hB.2.1, fun a ha b hb c => ⟨?_, (hB.2.2.1 a ha b hb c).2⟩, hB.2.2.2.1, hB.2.2.2.2⟩, fun a ha b hb c => ?_⟩
  · show 0 ≤ up1 (lim B) (8 * u + w) v i ∧ up1 (lim B) (8 * u + w) v i ≤ 999
    unfold up1
    by_cases c : i = 8 * u + w
    · rw [if_pos c]; exact hv
    · rw [if_neg c]; exact hA.2.1 i hi
  · show up1 (lim B) (8 * u + w) v (8 * a + b) = 0
    unfold up1
    have c' : nN B ≤ a ∨ nN B ≤ b ∨ a = b := c
    rw [if_neg (by omega)]
    exact (hB.2.2.1 a ha b hb c).1
  · have ha' : a < nN B := ha
    have hb' : b < nN B := hb
    have hr := hR a ha' b hb' c
    unfold rm at hr ⊢
    show 0 ≤ up1 (lim B) (8 * u + w) v (8 * b + a) - deb B (8 * a + b) - hld B a b
    unfold up1
    by_cases c1 : 8 * b + a = 8 * u + w
    · rw [if_pos c1, hld_0 hA hB hh (by omega) (by omega)]
      have e1 : b = u := by omega
      have e2 : a = w := by omega
      subst e1 e2
      unfold owe at ho
      omega
    · rw [if_neg c1]; exact hr
theorem hld_drop {p : Nat} (hp : p < 4) (u v : Nat) : hld (dropB B p) u v = hld B u v - max (flo B p (8 * u + v)) 0 := by
  unfold hld
  have e : ∀ q, hldf (dropB B p) (8 * u + v) q = if q = p then 0 else hldf B (8 * u + v) q := fun q => by
    unfold hldf
    rw [flo_drop]
    by_cases c : q = p
    · rw [if_pos c, if_pos c]; rfl
    · rw [if_neg c, if_neg c]
  simp only [sumTo, e]
  have h0 : hldf B (8 * u + v) p = max (flo B p (8 * u + v)) 0 := rfl
  rw [← h0]
  match p, hp with
  | 0, _ => simp; omega
  | 1, _ => simp; omega
  | 2, _ => simp; omega
  | 3, _ => simp
theorem inv_drop {p : Nat} (h : Inv B) (hp : p < 4) : Inv (dropB B p) := by
  obtain ⟨hA, hB, hR⟩ := h
  refine ⟨⟨hA.1, hA.2.1, hA.2.2.1, hA.2.2.2.1, fun q hq => ?_, fun q hq i hi => ?_⟩, ⟨hB.1, fun q hq a ha b hb => ?_, fun a ha b hb c => ⟨(hB.2.2.1 a ha b hb c).1, (hB.2.2.1 a ha b hb c).2.1, fun q hq => ?_⟩, hB.2.2.2.1, fun q hq h0 => ⟨?_, ?_, fun i hi => ?_⟩⟩, fun a ha b hb c => ?_⟩
  · rw [hdr_drop]; split
    · omega
    · exact hA.2.2.2.2.1 q hq
  · rw [flo_drop]; split
    · omega
    · exact hA.2.2.2.2.2 q hq i hi
  · rw [flo_drop, flo_drop]; split
    · omega
    · exact hB.2.1 q hq a ha b hb
  · rw [flo_drop]; split
    · rfl
    · exact (hB.2.2.1 a ha b hb c).2.2 q hq
  · rw [hdr_drop] at h0 ⊢; split
    · rfl
    · rename_i z; rw [if_neg z] at h0; exact (hB.2.2.2.2 q hq h0).1
  · rw [hdr_drop] at h0 ⊢; split
    · rfl
    · rename_i z; rw [if_neg z] at h0; exact (hB.2.2.2.2 q hq h0).2.1
  · rw [hdr_drop] at h0; rw [flo_drop]; split
    · rfl
    · rename_i z; rw [if_neg z] at h0; exact (hB.2.2.2.2 q hq h0).2.2 i hi
  · have hr := hR a ha b hb c
    unfold rm at hr ⊢
    rw [hld_drop hp]
    show 0 ≤ lim B (8 * b + a) - deb B (8 * a + b) - (hld B a b - _)
    omega
theorem inv_make {p : Nat} (h : Inv B) (hp : p < 4) : Inv (makeB B p) := by
  have hd := inv_drop h hp
  have e : makeB B p = wDeb (dropB B p) (fun i => deb B i + flo B p i) := rfl
  rw [e]
  refine inv_deb hd (fun u hu v hv => ?_) (fun u hu v hv c => ?_) (fun u hu v hv c => ?_)
  · have a1 := h.2.1.1 u hu v hv
    have a2 := h.2.1.2.1 p hp u hu v hv
    show deb B _ + flo B p _ = - (deb B _ + flo B p _)
    omega
  · have a1 := h.2.1.2.2.1 u hu v hv c
    show deb B _ + flo B p _ = 0
    rw [a1.2.1, a1.2.2 p hp]; rfl
  · have hr := h.2.2 u hu v hv c
    unfold rm at hr
    rw [hld_drop hp]
    show 0 ≤ lim B (8 * v + u) - (deb B (8 * u + v) + flo B p (8 * u + v)) - (hld B u v - _)
    omega
theorem inv_close {m : Nat} (h : Inv B) (hm : m < nN B) (hh : heldB B = 0) (hd : ∀ o, o < nN B → deb B (8 * m + o) = 0) : Inv (closeB B m) := by
  obtain ⟨hA, hB, hR⟩ := h
  have hN := hA.1
  refine ⟨⟨hA.1, fun i hi => ?_, hA.2.2.1, hA.2.2.2.1, hA.2.2.2.2.1, hA.2.2.2.2.2⟩, ⟨hB.1, hB.2.1, fun a ha b hb c => ⟨?_, (hB.2.2.1 a ha b hb c).2⟩, hB.2.2.2.1, hB.2.2.2.2⟩, fun a ha b hb c => ?_⟩
  · show 0 ≤ (if i / 8 = m ∨ i % 8 = m then 0 else lim B i) ∧ (if i / 8 = m ∨ i % 8 = m then 0 else lim B i) ≤ 999
    split
    · omega
    · exact hA.2.1 i hi
  · show (if (8 * a + b) / 8 = m ∨ (8 * a + b) % 8 = m then 0 else lim B (8 * a + b)) = 0
    split
    · rfl
    · exact (hB.2.2.1 a ha b hb c).1
  · have ha' : a < nN B := ha
    have hb' : b < nN B := hb
    have hr := hR a ha' b hb' c
    unfold rm at hr ⊢
    show 0 ≤ (if (8 * b + a) / 8 = m ∨ (8 * b + a) % 8 = m then 0 else lim B (8 * b + a)) - deb B (8 * a + b) - hld B a b
    by_cases c1 : (8 * b + a) / 8 = m ∨ (8 * b + a) % 8 = m
    · rw [if_pos c1, hld_0 hA hB hh (by omega) (by omega)]
      have : deb B (8 * a + b) = 0 := by
        by_cases c2 : a = m
        · rw [c2]; exact hd b hb'
        · have e : b = m := by omega
          have a1 := hB.1 a (by omega) b (by omega)
          rw [e, hd a ha'] at a1
          rw [e]; exact a1
      omega
    · rw [if_neg c1]; exact hr
end INV
