section CBOOKS
variable {b : Nat} {B : Bk} {σ : Mem}
theorem s_hcopy {Q : Mem → Prop} {o0 o1 : Nat} (h01 : o0 ≠ o1 ∧ o0 ≠ o1 + 4 ∧ o0 + 4 ≠ o1) (h : ∀ σ', σ' o0 0 = σ o1 0 → σ' o0 1 = σ o1 1 → σ' o0 2 = σ o1 2 → (0 < σ o1 2 → ∀ i, i < 64 → σ' (o0 + 4) i = σ (o1 + 4) i) → (∀ i, i ≠ o0 → i ≠ o0 + 4 → σ' i = σ i) → Q σ') : wX3_copyFrom o0 o1 σ Q := by
  unfold wX3_copyFrom
  rintro m1 e1 m2 e2 m3 e3
  have f1 : m3 o0 0 = σ o1 0 := by
    rw [e3, up2_nj (by omega), e2, up2_nj (by omega), e1, up2_eq]
  have f2 : m3 o0 1 = σ o1 1 := by
    rw [e3, up2_nj (by omega), e2, up2_eq, e1, up2_ne (by omega)]
  have f3 : m3 o0 2 = σ o1 2 := by
    rw [e3, up2_eq, e2, up2_ne (by omega), e1, up2_ne (by omega)]
  have f4 : ∀ i, i ≠ o0 → m3 i = σ i := fun i hi => by
    rw [e3, up2_ne hi, e2, up2_ne hi, e1, up2_ne hi]
  refine ⟨fun z => h m3 f1 f2 f3 (fun y => by omega) (fun i h1 h2 => f4 i h1), fun z => ?_⟩
  rintro m4 rfl
  refine h _ ?_ ?_ ?_ (fun _ i hi => ?_) (fun i h1 h2 => ?_)
  · rw [upA_ne (by omega)]; exact f1
  · rw [upA_ne (by omega)]; exact f2
  · rw [upA_ne (by omega)]; exact f3
  · rw [upA_eq, acp_64 hi, f4 _ (by omega)]
  · rw [upA_ne h2]; exact f4 i h1
theorem s_copyFrom {Q : Mem → Prop} {b1 : Nat} (hd : b + 13 ≤ b1 ∨ b1 + 13 ≤ b) (hC : CB b1 B σ) (h : ∀ σ', CB b B σ' → (∀ i, ¬ (b ≤ i ∧ i < b + 13) → σ' i = σ i) → Q σ') : wX1_copyFrom b b1 σ Q := by
  unfold wX1_copyFrom
  rintro m1 e1 m2 e2 m3 e3 m4 e4
  have F : ∀ i, i ≠ b → i ≠ b + 1 → i ≠ b + 2 → i ≠ b + 3 → m4 i = σ i := fun i h0 h1 h2 h3 => by
    rw [e4, upA_ne h3, e3, upA_ne h2, e2, upA_ne h1, e1, up2_ne h0]
  have g0 : m4 b 0 = (nN B : Int) := by
    rw [e4, upA_ne (by omega), e3, upA_ne (by omega), e2, upA_ne (by omega), e1, up2_eq]; exact hC.1
  have g1 : ∀ i, i < 64 → m4 (b + 1) i = lim B i := fun i hi => by
    rw [e4, upA_ne (by omega), e3, upA_ne (by omega), e2, upA_eq, acp_64 hi, e1, up2_ne (by omega)]; exact hC.2.1 i hi
  have g2 : ∀ i, i < 64 → m4 (b + 2) i = deb B i := fun i hi => by
    rw [e4, upA_ne (by omega), e3, upA_eq, acp_64 hi, e2, upA_ne (by omega), e1, up2_ne (by omega)]; exact hC.2.2.1 i hi
  have g3 : ∀ i, i < 8 → m4 (b + 3) i = stk B i := fun i hi => by
    rw [e4, upA_eq, acp_64 hi, e3, upA_ne (by omega), e2, upA_ne (by omega), e1, up2_ne (by omega)]; exact hC.2.2.2.1 i hi
  have gH : ∀ p, p < 4 → m4 (b1 + 5 + p) = σ (b1 + 5 + p) ∧ m4 (b1 + 5 + p + 4) = σ (b1 + 5 + p + 4) := fun p hp => ⟨F _ (by omega) (by omega) (by omega) (by omega), F _ (by omega) (by omega) (by omega) (by omega)⟩
  clear e4 e3 e2 e1
  unfold wLX1_copyFrom_55
  refine lp_for (fun k x τ => x = (k : Int) ∧ (∀ i, i < b + 5 ∨ b + 13 ≤ i → τ i = m4 i) ∧ ∀ p, p < k → τ (b + 5 + p) 2 = hdr B p 2 ∧ (0 < hdr B p 2 → τ (b + 5 + p) 0 = hdr B p 0 ∧ τ (b + 5 + p) 1 = hdr B p 1 ∧ ∀ i, i < 64 → τ (b + 5 + p + 4) i = max (flo B p i) 0)) 4 ?_ ?_ _ _ ⟨rfl, fun _ _ => rfl, fun p hp => absurd hp (by omega)⟩
  · rintro k hk _ τ ⟨rfl, hF, hP⟩ K hK
    dsimp only [wX1_copyFrom_55]
    refine ⟨(fun hno => absurd hno (by omega)), fun _ => ⟨⟨by omega, by omega⟩, ⟨by omega, by omega⟩, ?_⟩⟩
    rw [tn]
    refine s_hcopy (by omega) (fun σ' c0 c1 c2 c3 c4 => ?_)
    rintro _ rfl
    have t1 : τ (b1 + 5 + k) = σ (b1 + 5 + k) := by rw [hF _ (by omega)]; exact (gH k hk).1
    have t2 : τ (b1 + 5 + k + 4) = σ (b1 + 5 + k + 4) := by rw [hF _ (by omega)]; exact (gH k hk).2
    have hh := hC.2.2.2.2 k hk
    rw [t1] at c0 c1 c2 c3
    rw [t2] at c3
    refine hK _ _ ⟨by rw [w32_id (by omega) (by omega)]; rfl, fun i hi => ?_, fun p hp => ?_⟩
    · rw [c4 i (by omega) (by omega)]; exact hF i hi
    · by_cases c : p = k
      · subst c
        refine ⟨c2.trans hh.1, fun z => ⟨c0.trans (hh.2 z).1, c1.trans (hh.2 z).2.1, fun i hi => (c3 (by rw [hh.1]; exact z) i hi).trans ((hh.2 z).2.2 i hi)⟩⟩
      · rw [c4 (b + 5 + p) (by omega) (by omega), c4 (b + 5 + p + 4) (by omega) (by omega)]
        exact hP p (by omega)
  · rintro _ τ ⟨rfl, hF, hP⟩ K
    dsimp only [wX1_copyFrom_55]
    refine ⟨fun _ => h τ ⟨?_, ?_, ?_, ?_, hP⟩ (fun i hi => ?_), (fun hno => absurd hno (by omega))⟩
    · rw [hF _ (by omega)]; exact g0
    · rw [hF _ (by omega)]; exact g1
    · rw [hF _ (by omega)]; exact g2
    · rw [hF _ (by omega)]; exact g3
    · rw [hF i (by omega)]; exact F i (by omega) (by omega) (by omega) (by omega)
theorem s_startAnew {Q : Mem → Prop} {N : Nat} (h : ∀ σ', CB b (newB N) σ' → (∀ i, ¬ (b ≤ i ∧ i < b + 13) → σ' i = σ i) → Q σ') : wX1_startAnew b N σ Q := by
  unfold wX1_startAnew
  rintro m1 e1
  unfold wLX1_startAnew_7
  refine lp_for (fun k x τ => x = (k : Int) ∧ τ b 0 = N ∧ (∀ i, i < k → τ (b + 1) i = 0 ∧ τ (b + 2) i = 0) ∧ (∀ i, i ≠ b → i ≠ b + 1 → i ≠ b + 2 → τ i = σ i)) 64 ?_ ?_ _ _ ⟨rfl, by rw [e1, up2_eq], fun i hi => absurd hi (by omega), fun i h0 _ _ => by rw [e1, up2_ne h0]⟩
  · rintro k hk _ τ ⟨rfl, hN, hz, hF⟩ K hK
    dsimp only [wX1_startAnew_7]
    refine ⟨(fun hno => absurd hno (by omega)), fun _ => ⟨⟨by omega, by omega⟩, ?_⟩⟩
    rintro _ rfl
    refine ⟨⟨by omega, by omega⟩, ?_⟩
    rintro _ rfl _ rfl
    rw [tn]
    refine hK _ _ ⟨by rw [w32_id (by omega) (by omega)]; rfl, ?_, fun i hi => ?_, fun i h0 h1 h2 => ?_⟩
    · rw [up2_ne (by omega), up2_ne (by omega)]; exact hN
    · rw [up2_ne (a := b + 1) (by omega), up2_app, up2_app]
      by_cases c : i = k
      · subst c
        simp
      · rw [if_neg (fun z => c z.2), if_neg (fun z => c z.2), up2_ne (by omega)]
        exact hz i (by omega)
    · rw [up2_ne h2, up2_ne h1]; exact hF i h0 h1 h2
  · rintro _ τ ⟨rfl, hN, hz, hF⟩ K
    dsimp only [wX1_startAnew_7]
    refine ⟨fun _ => ?_, (fun hno => absurd hno (by omega))⟩
    unfold wLX1_startAnew_35
    refine lp_for (fun k x τ => x = (k : Int) ∧ τ b 0 = N ∧ (∀ i, i < 64 → τ (b + 1) i = 0 ∧ τ (b + 2) i = 0) ∧ (∀ i, i < k → τ (b + 3) i = 0) ∧ (∀ i, i ≠ b → i ≠ b + 1 → i ≠ b + 2 → i ≠ b + 3 → τ i = σ i)) 8 ?_ ?_ _ _ ⟨rfl, hN, hz, fun i hi => absurd hi (by omega), fun i h0 h1 h2 _ => hF i h0 h1 h2⟩
    · rintro k hk _ τ ⟨rfl, hN, hz, hz3, hF⟩ K hK
      dsimp only [wX1_startAnew_35]
      refine ⟨(fun hno => absurd hno (by omega)), fun _ => ⟨⟨by omega, by omega⟩, ?_⟩⟩
      rintro _ rfl _ rfl
      rw [tn]
      refine hK _ _ ⟨by rw [w32_id (by omega) (by omega)]; rfl, ?_, fun i hi => ?_, fun i hi => ?_, fun i h0 h1 h2 h3 => ?_⟩
      · rw [up2_ne (by omega)]; exact hN
      · rw [up2_ne (by omega), up2_ne (by omega)]; exact hz i hi
      · rw [up2_app]
        by_cases c : i = k
        · simp [c]
        · rw [if_neg (fun z => c z.2)]; exact hz3 i (by omega)
      · rw [up2_ne h3]; exact hF i h0 h1 h2 h3
    · rintro _ τ ⟨rfl, hN, hz, hz3, hF⟩ K
      dsimp only [wX1_startAnew_35]
      refine ⟨fun _ => ?_, (fun hno => absurd hno (by omega))⟩
      unfold wLX1_startAnew_56
      refine lp_for (fun k x τ => x = (k : Int) ∧ τ b 0 = N ∧ (∀ i, i < 64 → τ (b + 1) i = 0 ∧ τ (b + 2) i = 0) ∧ (∀ i, i < 8 → τ (b + 3) i = 0) ∧ (∀ p, p < k → τ (b + 5 + p) 2 = 0) ∧ (∀ i, ¬ (b ≤ i ∧ i < b + 13) → τ i = σ i)) 4 ?_ ?_ _ _ ⟨rfl, hN, hz, hz3, fun i hi => absurd hi (by omega), fun i hi => hF i (by omega) (by omega) (by omega) (by omega)⟩
      · rintro k hk _ τ ⟨rfl, hN, hz, hz3, hp, hF⟩ K hK
        dsimp only [wX1_startAnew_56]
        refine ⟨(fun hno => absurd hno (by omega)), fun _ => ⟨⟨by omega, by omega⟩, ?_⟩⟩
        rintro _ rfl _ rfl
        rw [tn]
        refine hK _ _ ⟨by rw [w32_id (by omega) (by omega)]; rfl, ?_, fun i hi => ?_, fun i hi => ?_, fun q hq => ?_, fun i hi => ?_⟩
        · rw [up2_ne (by omega)]; exact hN
        · rw [up2_ne (by omega), up2_ne (by omega)]; exact hz i hi
        · rw [up2_ne (by omega)]; exact hz3 i hi
        · rw [up2_app]
          by_cases c : q = k
          · simp [c]
          · rw [if_neg (fun z => c (by omega))]; exact hp q (by omega)
        · rw [up2_ne (by omega)]; exact hF i hi
      · rintro _ τ ⟨rfl, hN, hz, hz3, hp, hF⟩ K
        dsimp only [wX1_startAnew_56]
        refine ⟨fun _ => h τ ⟨hN, fun i hi => (hz i hi).1, fun i hi => (hz i hi).2, hz3, fun p hp4 => ⟨hp p hp4, fun z => absurd z (by show ¬ (0 : Int) < 0; omega)⟩⟩ hF, (fun hno => absurd hno (by omega))⟩
theorem s_closeLine {Q : Int → Mem → Prop} {i : Nat} (hi : i < 64) (hC : CB b B σ) (h : ∀ σ', CB b (wLim B (fun j => if j = i then 0 else lim B j)) σ' → (∀ j, j ≠ b + 1 → σ' j = σ j) → Q (pos1 (lim B i)) σ') : wX1_closeLine b i σ Q := by
  unfold wX1_closeLine wX1_closeLine_14
  have key : CB b (wLim B (fun j => if j = i then 0 else lim B j)) (up2 σ (b + 1) i 0) := by
    refine ⟨?_, fun j hj => ?_, ?_, ?_, fun p hp => ?_⟩
    · rw [up2_ne (by omega)]; exact hC.1
    · show _ = if j = i then 0 else lim B j
      rw [up2_app]
      by_cases c : j = i
      · simp [c]
      · rw [if_neg (fun z => c z.2), if_neg c]; exact hC.2.1 j hj
    · rw [up2_ne (by omega)]; exact hC.2.2.1
    · rw [up2_ne (by omega)]; exact hC.2.2.2.1
    · rw [up2_ne (by omega), up2_ne (by omega)]; exact hC.2.2.2.2 p hp
  refine ⟨⟨by omega, by omega⟩, ?_⟩
  rw [tn, hC.2.1 i hi]
  refine ⟨fun z => ⟨⟨by omega, by omega⟩, ?_⟩, fun z => ⟨⟨by omega, by omega⟩, ?_⟩⟩
  · rintro _ rfl
    have := h _ key (fun j hj => up2_ne hj)
    unfold pos1 at this
    rw [if_pos z] at this
    exact this
  · rintro _ rfl
    have := h _ key (fun j hj => up2_ne hj)
    unfold pos1 at this
    rw [if_neg z] at this
    exact this
theorem CB_lim {d d' : Nat → Int} (h : CB b (wLim B d) σ) (e : ∀ i, i < 64 → d i = d' i) : CB b (wLim B d') σ := ⟨h.1, fun i hi => (h.2.1 i hi).trans (e i hi), h.2.2.1, h.2.2.2.1, h.2.2.2.2⟩
theorem s_closeLines {Q : Int → Mem → Prop} {m : Nat} (hm : m < nN B) (hC : CB b B σ) (hI : IvA B) (hZ : IvB B) (h : ∀ σ', CB b (closeB B m) σ' → (∀ j, j ≠ b + 1 → σ' j = σ j) → Q (closeN B m) σ') : wX1_closeLines b m σ Q := by
  have hN := hI.1
  unfold wX1_closeLines wLX1_closeLines_4
  refine lp_for (fun k x τ => x = ((m : Int), sumTo (fun o => pos1 (lim B (8 * m + o)) + pos1 (lim B (8 * o + m))) k, (k : Int)) ∧ CB b (wLim B (fun i => if (i / 8 = m ∧ i % 8 < k) ∨ (i % 8 = m ∧ i / 8 < k) then 0 else lim B i)) τ ∧ ∀ j, j ≠ b + 1 → τ j = σ j) (nN B) ?_ ?_ _ _ ⟨rfl, ?_, fun _ _ => rfl⟩
  · rintro k hk _ τ ⟨rfl, hT, hF⟩ K hK
    dsimp only [wX1_closeLines_4]
    refine ⟨fun z => absurd z (by rw [hT.1]; show ¬ ((nN B : Nat) : Int) ≤ _; omega), fun _ => s_at (by omega) (by omega) (s_closeLine (by omega) hT (fun σ1 hT1 hF1 => s_at (by omega) (by omega) (s_closeLine (by omega) hT1 (fun σ2 hT2 hF2 => ?_))))⟩
    have hb := sumTo_le (f := fun o => pos1 (lim B (8 * m + o)) + pos1 (lim B (8 * o + m))) (n := k) (a := 0) (b := 2) (fun o _ => by
      have h1 := pos1_b (lim B (8 * m + o))
      have h2 := pos1_b (lim B (8 * o + m))
      omega)
    have e1 : lim (wLim B (fun i => if (i / 8 = m ∧ i % 8 < k) ∨ (i % 8 = m ∧ i / 8 < k) then 0 else lim B i)) (8 * m + k) = lim B (8 * m + k) := by
      show (if ((8 * m + k) / 8 = m ∧ (8 * m + k) % 8 < k) ∨ ((8 * m + k) % 8 = m ∧ (8 * m + k) / 8 < k) then 0 else lim B (8 * m + k)) = _
      rw [if_neg (by omega)]
    have e2 : lim (wLim (wLim B (fun i => if (i / 8 = m ∧ i % 8 < k) ∨ (i % 8 = m ∧ i / 8 < k) then 0 else lim B i)) (fun j => if j = 8 * m + k then 0 else lim (wLim B (fun i => if (i / 8 = m ∧ i % 8 < k) ∨ (i % 8 = m ∧ i / 8 < k) then 0 else lim B i)) j)) (8 * k + m) = lim B (8 * k + m) := by
      show (if 8 * k + m = 8 * m + k then 0 else (if ((8 * k + m) / 8 = m ∧ (8 * k + m) % 8 < k) ∨ ((8 * k + m) % 8 = m ∧ (8 * k + m) / 8 < k) then 0 else lim B (8 * k + m))) = _
      by_cases c : k = m
      · rw [if_pos (by omega), c]
        exact ((hZ.2.2.1 m (by omega) m (by omega) (by omega)).1).symm
      · rw [if_neg (by omega), if_neg (by omega)]
    rw [e1, e2]
    have p1 := pos1_b (lim B (8 * m + k))
    have p2 := pos1_b (lim B (8 * k + m))
    rintro _ rfl _ rfl
    refine hK _ _ ⟨?_, ?_, fun j hj => ?_⟩
    · rw [w32_id (a := pos1 (lim B (8 * m + k)) + pos1 (lim B (8 * k + m))) (by omega) (by omega), w32_id (by omega) (by omega), w32_id (by omega) (by omega), sumTo_s]
      rfl
    · refine CB_lim (B := B) hT2 (fun i hi => ?_)
      show (if i = 8 * k + m then 0 else if i = 8 * m + k then 0 else if (i / 8 = m ∧ i % 8 < k) ∨ (i % 8 = m ∧ i / 8 < k) then 0 else lim B i) = if (i / 8 = m ∧ i % 8 < k + 1) ∨ (i % 8 = m ∧ i / 8 < k + 1) then 0 else lim B i
      by_cases c1 : i = 8 * k + m
      · rw [if_pos c1, if_pos (by omega)]
      · rw [if_neg c1]
        by_cases c2 : i = 8 * m + k
        · rw [if_pos c2, if_pos (by omega)]
        · rw [if_neg c2]
          by_cases c3 : (i / 8 = m ∧ i % 8 < k) ∨ (i % 8 = m ∧ i / 8 < k)
          · rw [if_pos c3, if_pos (by omega)]
          · rw [if_neg c3, if_neg (by omega)]
    · rw [hF2 j hj, hF1 j hj]; exact hF j hj
  · rintro _ τ ⟨rfl, hT, hF⟩ K
    dsimp only [wX1_closeLines_4]
    refine ⟨fun _ => h τ ?_ hF, fun z => absurd z (by rw [hT.1]; show ¬ ¬ ((nN B : Nat) : Int) ≤ _; omega)⟩
    refine CB_lim (B := B) hT (fun i hi => ?_)
    show (if (i / 8 = m ∧ i % 8 < nN B) ∨ (i % 8 = m ∧ i / 8 < nN B) then 0 else lim B i) = if i / 8 = m ∨ i % 8 = m then 0 else lim B i
    by_cases c1 : (i / 8 = m ∧ i % 8 < nN B) ∨ (i % 8 = m ∧ i / 8 < nN B)
    · rw [if_pos c1, if_pos (by omega)]
    · rw [if_neg c1]
      by_cases c2 : i / 8 = m ∨ i % 8 = m
      · rw [if_pos c2]
        have := (hZ.2.2.1 (i / 8) (by omega) (i % 8) (by omega) (by omega)).1
        rw [show 8 * (i / 8) + i % 8 = i by omega] at this
        exact this
      · rw [if_neg c2]
  · refine CB_lim (B := B) (d := lim B) hC (fun i hi => ?_)
    rw [if_neg (by omega)]
theorem s_steps {Q : Int → Mem → Prop} {p : Nat} (hp : p < 4) (hh : 0 < hdr B p 2) (hC : CB b B σ) (h : Q (stepsB B p) σ) : wX3_steps (b + 5 + p) σ Q := by
  unfold wX3_steps wLX3_steps_4
  refine lp_for (fun k x τ => τ = σ ∧ x = (sumTo (fun i => pos1 (flo B p i)) k, (k : Int))) 64 ?_ ?_ _ _ ⟨rfl, rfl⟩
  · rintro k hk _ _ ⟨rfl, rfl⟩ K hK
    dsimp only [wX3_steps_4, wX3_steps_25]
    have hb := sumTo_le (f := fun i => pos1 (flo B p i)) (n := k) (a := 0) (b := 1) (fun i _ => pos1_b _)
    refine ⟨(fun hno => absurd hno (by omega)), fun _ => ⟨⟨by omega, by omega⟩, ?_⟩⟩
    rw [tn, ((hC.2.2.2.2 p hp).2 hh).2.2 k hk]
    refine ⟨fun h0 => ?_, fun h0 => ?_⟩
    · rintro _ rfl _ rfl
      refine hK _ _ ⟨rfl, ?_⟩
      rw [w32_id (by omega) (by omega), w32_id (by omega) (by omega), sumTo_s]
      have : pos1 (flo B p k) = 0 := by unfold pos1; rw [if_pos (by omega)]
      rw [this]
      rfl
    · rintro _ rfl _ rfl
      refine hK _ _ ⟨rfl, ?_⟩
      rw [w32_id (by omega) (by omega), w32_id (by omega) (by omega), sumTo_s]
      have : pos1 (flo B p k) = 1 := by unfold pos1; rw [if_neg (by omega)]
      rw [this]
      rfl
  · rintro _ _ ⟨rfl, rfl⟩ K
    dsimp only [wX3_steps_4]
    exact ⟨fun _ => h, (fun hno => absurd hno (by omega))⟩
end CBOOKS
