/-! payments that are held -/
def holdB (B : Bk) (p f t : Nat) (x : Int) (s : Nat → Int) : Bk := wHld B (fun q k => if q = p then (if k = 0 then (f : Int) else if k = 1 then (t : Int) else x) else hdr B q k) (fun q i => if q = p then gn B s i else flo B q i)
theorem hdr_hold {B : Bk} {p f t : Nat} {x : Int} {s : Nat → Int} (q k : Nat) : hdr (holdB B p f t x s) q k = if q = p then (if k = 0 then (f : Int) else if k = 1 then (t : Int) else x) else hdr B q k := rfl
theorem flo_hold {B : Bk} {p f t : Nat} {x : Int} {s : Nat → Int} (q i : Nat) : flo (holdB B p f t x s) q i = if q = p then gn B s i else flo B q i := rfl
theorem freeP_0 {B : Bk} (h : freeP B ≠ 4) : freeP B < 4 ∧ hdr B (freeP B) 2 = 0 := by
  unfold freeP at h ⊢
  by_cases c0 : hdr B 0 2 = 0
  · rw [if_pos c0]; exact ⟨by omega, c0⟩
  · rw [if_neg c0] at h ⊢
    by_cases c1 : hdr B 1 2 = 0
    · rw [if_pos c1]; exact ⟨by omega, c1⟩
    · rw [if_neg c1] at h ⊢
      by_cases c2 : hdr B 2 2 = 0
      · rw [if_pos c2]; exact ⟨by omega, c2⟩
      · rw [if_neg c2] at h ⊢
        by_cases c3 : hdr B 3 2 = 0
        · rw [if_pos c3]; exact ⟨by omega, c3⟩
        · rw [if_neg c3] at h; exact absurd rfl h
theorem freeP_4 (B : Bk) : freeP B ≤ 4 := by
  by_cases c : freeP B = 4
  · omega
  · have := (freeP_0 c).1; omega
section HOLD
variable {B : Bk} {s : Nat → Int} {σ : Mem} {p f t : Nat} {x : Int}
theorem gn_bi (hI : Inv B) (hS : SI 8 B s) {u v : Nat} (hu : u < 8) (hv : v < 8) : -3996 ≤ gn B s (8 * u + v) ∧ gn B s (8 * u + v) ≤ 3996 := by
  have n1 := si_nn hI hS hu hv
  have n2 := si_nn hI hS hv hu
  have b1 := sp_b hI.1 (lt64 hu hv)
  have b2 := sp_b hI.1 (lt64 hv hu)
  have p1 := si_nn hI (si_sp (B := B)) hu hv
  by_cases z : Zr (nN B) 8 u v
  · rw [gn_z hS hu hv z]; omega
  · have := (hS.2 u hu v hv z).1
    unfold gn
    omega
theorem hld_hold (hI : Inv B) (hp : p < 4) (h0 : hdr B p 2 = 0) {u v : Nat} (hu : u < 8) (hv : v < 8) : hld (holdB B p f t x s) u v = hld B u v + max (gn B s (8 * u + v)) 0 := by
  unfold hld
  rw [sumTo_at (f := hldf B (8 * u + v)) (k := p) hp (fun i _ hne => ?_)]
  · unfold hldf
    rw [flo_hold, if_pos rfl, (hI.2.1.2.2.2.2 p hp h0).2.2 _ (lt64 hu hv)]
    omega
  · unfold hldf
    rw [flo_hold, if_neg hne]
theorem inv_hold (hI : Inv B) (hS : SI 8 B s) (hp : p < 4) (h0 : hdr B p 2 = 0) (hx : 1 ≤ x ∧ x ≤ 9999) : Inv (holdB B p f t x s) := by
  obtain ⟨hA, hB, hR⟩ := id hI
  have hN := hA.1
  refine ⟨⟨hA.1, hA.2.1, hA.2.2.1, hA.2.2.2.1, fun q hq => ?_, fun q hq i hi => ?_⟩, ⟨hB.1, fun q hq a ha b hb => ?_, fun a ha b hb c => ⟨(hB.2.2.1 a ha b hb c).1, (hB.2.2.1 a ha b hb c).2.1, fun q hq => ?_⟩, hB.2.2.2.1, fun q hq h2 => ?_⟩, fun a ha b hb c => ?_⟩
  · rw [hdr_hold]
    by_cases e : q = p
    · rw [if_pos e, if_neg (by omega), if_neg (by omega)]; omega
    · rw [if_neg e]; exact hA.2.2.2.2.1 q hq
  · rw [flo_hold]
    by_cases e : q = p
    · rw [if_pos e]
      have := gn_bi hI hS (u := i / 8) (v := i % 8) (by omega) (by omega)
      rw [← i88 i] at this
      omega
    · rw [if_neg e]; exact hA.2.2.2.2.2 q hq i hi
  · rw [flo_hold, flo_hold]
    by_cases e : q = p
    · rw [if_pos e, if_pos e]
      have := gn_anti hS hb ha
      omega
    · rw [if_neg e, if_neg e]; exact hB.2.1 q hq a ha b hb
  · rw [flo_hold]
    by_cases e : q = p
    · rw [if_pos e]; exact gn_z hS ha hb (by unfold Zr; have : nN (holdB B p f t x s) = nN B := rfl
                                             omega)
    · rw [if_neg e]; exact (hB.2.2.1 a ha b hb c).2.2 q hq
  · by_cases e : q = p
    · rw [hdr_hold, if_pos e, if_neg (by omega), if_neg (by omega)] at h2; omega
    · rw [hdr_hold, if_neg e] at h2
      rw [hdr_hold, if_neg e, hdr_hold, if_neg e]
      have := hB.2.2.2.2 q hq h2
      exact ⟨this.1, this.2.1, fun i hi => by rw [flo_hold, if_neg e]; exact this.2.2 i hi⟩
  · have ha' : a < nN B := ha
    have hb' : b < nN B := hb
    have r0 := hR a ha' b hb' c
    have n1 := si_nn hI hS (u := a) (v := b) (by omega) (by omega)
    have e1 := sp_uv (B := B) (u := a) (v := b) (by omega) ha' hb' c
    have hh := hld_hold (f := f) (t := t) (x := x) (s := s) hI hp h0 (u := a) (v := b) (by omega) (by omega)
    unfold rm at r0 e1 ⊢
    rw [hh]
    unfold gn
    rw [e1]
    show 0 ≤ lim B (8 * b + a) - deb B (8 * a + b) - (hld B a b + _)
    omega
theorem s_take {Q : Mem → Prop} (hC : CB 40 B σ) (hI : IvA B) (hS : SI 8 B s) (hp : p < 4) (h16 : ∀ i, i < 64 → σ 16 i = sp B i) (h15 : ∀ i, i < 64 → σ 15 i = s i) (h : ∀ σ', CB 40 (holdB B p f t x s) σ' → (∀ i, i ≠ 45 + p → i ≠ 49 + p → σ' i = σ i) → Q σ') : wX3_take (40 + 5 + p) (f : Int) (t : Int) x σ Q := by
  unfold wX3_take
  rintro m1 e1 m2 e2 m3 e3
  have q0 : m3 (45 + p) 0 = (f : Int) := by rw [e3, up2_nj (by omega), e2, up2_nj (by omega), e1, up2_eq]
  have q1 : m3 (45 + p) 1 = (t : Int) := by rw [e3, up2_nj (by omega), e2, up2_eq]
  have q2 : m3 (45 + p) 2 = x := by rw [e3, up2_eq]
  have qf : ∀ i, i ≠ 45 + p → m3 i = σ i := fun i hi => by rw [e3, up2_ne hi, e2, up2_ne hi, e1, up2_ne hi]
  clear e1 e2 e3
  unfold wLX3_take_18
  refine lp_for (fun k y τ => y = (k : Int) ∧ (∀ i, i < 8 * k → τ (49 + p) i = max (gn B s i) 0) ∧ ∀ i, i ≠ 49 + p → τ i = m3 i) 8 ?_ ?_ _ _ ⟨rfl, fun i hi => by omega, fun _ _ => rfl⟩
  · rintro k hk _ τ ⟨rfl, hT, hF⟩ K hK
    dsimp only [wX3_take_18]
    refine ⟨(fun hno => absurd hno (by omega)), fun _ => ?_⟩
    unfold wLX3_take_28
    refine lp_for (fun j y ρ => y = ((k : Int), (j : Int)) ∧ (∀ i, i < 8 * k + j → ρ (49 + p) i = max (gn B s i) 0) ∧ ∀ i, i ≠ 49 + p → ρ i = m3 i) 8 ?_ ?_ _ _ ⟨rfl, fun i hi => hT i (by omega), hF⟩
    · rintro j hj _ ρ ⟨rfl, hT2, hF2⟩ K2 hK2
      dsimp only [wX3_take_28]
      refine ⟨(fun hno => absurd hno (by omega)), fun _ => s_at hk hj (s_gone hI hS hk hj (fun i hi => by rw [hF2 16 (by omega), qf 16 (by omega)]; exact h16 i hi) (fun i hi => by rw [hF2 15 (by omega), qf 15 (by omega)]; exact h15 i hi) ⟨rg64 hk hj, ?_⟩)⟩
      rintro m6 e6 _ rfl
      rw [tn] at e6
      refine hK2 _ _ ⟨by rw [w32_id (by omega) (by omega)]; rfl, fun i hi => ?_, fun i hi => by rw [e6, up2_ne (by omega)]; exact hF2 i hi⟩
      rw [e6, show 40 + 5 + p + 4 = 49 + p by omega, up2_app]
      by_cases c : i = 8 * k + j
      · rw [if_pos ⟨rfl, c⟩, c]
      · rw [if_neg (fun z => c z.2)]; exact hT2 i (by omega)
    · rintro _ ρ ⟨rfl, hT2, hF2⟩ K2
      dsimp only [wX3_take_28]
      refine ⟨fun _ => ?_, (fun hno => absurd hno (by omega))⟩
      rintro _ rfl
      exact hK _ _ ⟨by rw [w32_id (by omega) (by omega)]; rfl, fun i hi => hT2 i (by omega), hF2⟩
  · rintro _ τ ⟨rfl, hT, hF⟩ K
    dsimp only [wX3_take_18]
    refine ⟨fun _ => h τ ?_ (fun i a1 a2 => by rw [hF i a2, qf i a1]), (fun hno => absurd hno (by omega))⟩
    have g : ∀ i, i ≠ 45 + p → i ≠ 49 + p → τ i = σ i := fun i a1 a2 => by rw [hF i a2, qf i a1]
    have g45 : τ (45 + p) = m3 (45 + p) := hF _ (by omega)
    refine ⟨by rw [g 40 (by omega) (by omega)]; exact hC.1, by rw [g (40 + 1) (by omega) (by omega)]; exact hC.2.1, by rw [g (40 + 2) (by omega) (by omega)]; exact hC.2.2.1, by rw [g (40 + 3) (by omega) (by omega)]; exact hC.2.2.2.1, fun q hq => ?_⟩
    by_cases c : q = p
    · subst c
      refine ⟨?_, fun _ => ⟨?_, ?_, fun i hi => ?_⟩⟩
      · rw [hdr_hold, if_pos rfl, show 40 + 5 + q = 45 + q by omega, g45, q2]; rfl
      · rw [hdr_hold, if_pos rfl, show 40 + 5 + q = 45 + q by omega, g45, q0]; rfl
      · rw [hdr_hold, if_pos rfl, show 40 + 5 + q = 45 + q by omega, g45, q1]; rfl
      · rw [flo_hold, if_pos rfl, show 40 + 5 + q + 4 = 49 + q by omega]; exact hT i (by omega)
    · have e1 : hdr (holdB B p f t x s) q = hdr B q := by funext k; rw [hdr_hold, if_neg c]
      have e2 : flo (holdB B p f t x s) q = flo B q := by funext k; rw [flo_hold, if_neg c]
      rw [e1, e2, g (40 + 5 + q) (by omega) (by omega), g (40 + 5 + q + 4) (by omega) (by omega)]
      exact hC.2.2.2.2 q hq
theorem m_hold {r : List (Nat × Int)} {s1 : Nat → Int} {R : List Int} {Q : Mem → Prop} (hM : MN σ B) (hI : Inv B) (hbar : σ 300 14 = -1) (hp : p < 4) (hf : f < nN B) (ht : t < nN B) (hne : f ≠ t) (hx : 1 ≤ x ∧ x ≤ 9999) (hR : MR R σ) (hr : Snd (nN B) f t r (sp B) x s1 0) (h : ∀ σ', MN σ' (holdB B p f t x s1) → MR R σ' → σ' 300 16 = (r.length : Int) → (∀ i, i ≠ 300 → i ≠ 301 → i ≠ 304 → i ≠ 312 → i ≠ 313 → i ≠ 316 → i ≠ 325 → σ' i = σ i) → (∀ j, j ≠ 4 → j ≠ 13 → j ≠ 16 → j ≠ 17 → σ' 300 j = σ 300 j) → Q σ') : wX11_hold (p : Int) (f : Int) (t : Int) x σ Q := by
  have hN := hI.1.1
  have q := Prun.si hI.1 hf ht hne hr.1 si_sp (by omega)
  unfold wX11_hold
  refine m_layAside (d := 1) hM (by omega) (fun σ1 a1 k1 f1 => ?_)
  refine m_goParts (m := 8) (B := B) (s := sp B) (R := R) (by refine mn_gm ?_; unfold MN; rw [f1 301 (by omega)]; exact hM) hI.1 hI.2.1 si_sp (nobar (by rw [f1 300 (by omega)]; exact hbar)) hf ht hne (by omega) (by omega) (hR.fr (by rw [f1 300 (by omega)]) (f1 304 (by omega))) (fun z => absurd rfl z) hr (fun σ2 E R2 => ?_)
  obtain ⟨E1, E2, E3, E4, E5⟩ := E
  rw [if_pos rfl] at R2
  refine m_holdAt hp ?_
  rw [show x - 0 = x by omega]
  have A2 : MB (σ2 316) (405 * 1) B := by rw [E4 316 (by omega) (by omega) (by omega) (by omega) (by omega)]; exact a1
  unfold wLX11_hold_25
  refine lp_for (fun k y τ => y = ((f : Int), (t : Int), x, ((137 + 67 * p : Nat) : Int), (k : Int)) ∧ (∀ i, i < k → τ 325 i = gn B s1 i) ∧ ∀ i, i ≠ 325 → τ i = σ2 i) 64 ?_ ?_ _ _ ⟨rfl, fun i hi => by omega, fun _ _ => rfl⟩
  · rintro k hk _ τ ⟨rfl, hT, hF⟩ K hK
    dsimp only [wX11_hold_25]
    have d1 := gm8 (B := B) (s := s1) k hk
    have d2 : σ2 316 (470 + k) = deb B k := by have := A2.2.2.1 k hk; rw [show 405 * 1 + 65 + k = 470 + k by omega] at this; exact this
    have b1 := hI.1.2.2.1 k hk
    have b2 := gn_b hI.1 q.1 hk
    refine ⟨(fun hno => absurd hno (by omega)), fun _ => ?_⟩
    rw [w32n (65 + k) (by omega) (by omega), w32n (470 + k) (by omega) (by omega), tn, tn, tn, hF 301 (by omega), hF 316 (by omega), mn_deb E1 hk, d1, d2]
    refine ⟨by omega, by omega, by omega, ?_⟩
    rintro m5 e5 _ rfl
    refine hK _ _ ⟨by rw [w32_id (a := (k : Int) + 1) (by omega) (by omega)]; rfl, fun i hi => ?_, fun i hi => by rw [e5, up2_ne hi]; exact hF i hi⟩
    rw [e5, up2_app]
    by_cases c : i = k
    · rw [if_pos ⟨rfl, c⟩, w32_id (by omega) (by omega), c]; omega
    · rw [if_neg (fun z => c z.2)]; exact hT i (by omega)
  · rintro _ τ ⟨rfl, hT, hF⟩ K
    dsimp only [wX11_hold_25]
    refine ⟨fun _ => ?_, (fun hno => absurd hno (by omega))⟩
    refine m_comesBack (B := B) (d := 1) (by rw [hF 316 (by omega)]; exact A2) (by omega) (fun σ3 M3 f3 => ?_)
    refine ⟨by omega, ?_⟩
    rw [w32n (137 + 67 * p + 1) (by omega) (by omega), w32n (137 + 67 * p + 2) (by omega) (by omega), tn, tn, tn]
    rintro m4 e4
    refine ⟨by omega, ?_⟩
    rintro m5 e5
    refine ⟨by omega, ?_⟩
    rintro m6 e6
    have n6 : ∀ j, j ≠ 137 + 67 * p → j ≠ 137 + 67 * p + 1 → j ≠ 137 + 67 * p + 2 → m6 301 j = σ3 301 j := fun j b1 b2 b3 => by rw [e6, up2_nj b3, e5, up2_nj b2, e4, up2_nj b1]
    have v0 : m6 301 (137 + 67 * p) = (f : Int) := by rw [e6, up2_nj (by omega), e5, up2_nj (by omega), e4, up2_eq]
    have v1 : m6 301 (137 + 67 * p + 1) = (t : Int) := by rw [e6, up2_nj (by omega), e5, up2_eq]
    have v2 : m6 301 (137 + 67 * p + 2) = x := by rw [e6, up2_eq]
    have f6 : ∀ i, i ≠ 301 → m6 i = τ i := fun i hi => by rw [e6, up2_ne hi, e5, up2_ne hi, e4, up2_ne hi, f3 i hi]
    clear e4 e5 e6
    unfold wLX11_hold_104
    refine lp_for (fun k y ρ => y = (((137 + 67 * p : Nat) : Int), (k : Int)) ∧ (∀ j, ρ 301 j = if 140 + 67 * p ≤ j ∧ j < 140 + 67 * p + k then gn B s1 (j - (140 + 67 * p)) else m6 301 j) ∧ ∀ i, i ≠ 301 → ρ i = m6 i) 64 ?_ ?_ _ _ ⟨rfl, fun j => by rw [if_neg (by omega)], fun _ _ => rfl⟩
    · rintro k hk _ ρ ⟨rfl, hT2, hF2⟩ K2 hK2
      dsimp only [wX11_hold_104]
      rw [w32_id (a := ((137 + 67 * p : Nat) : Int) + 3) (by omega) (by omega), w32n (140 + 67 * p + k) (by omega) (by omega), tn, tn, hF2 325 (by omega), f6 325 (by omega), hT k hk]
      refine ⟨(fun hno => absurd hno (by omega)), fun _ => ⟨by omega, by omega, ?_⟩⟩
      rintro m7 e7 _ rfl
      refine hK2 _ _ ⟨by rw [w32_id (by omega) (by omega)]; rfl, fun j => ?_, fun i hi => by rw [e7, up2_ne hi]; exact hF2 i hi⟩
      rw [e7, up2_app, hT2 j]
      by_cases c : j = 140 + 67 * p + k
      · rw [if_pos ⟨rfl, c⟩, if_pos (by omega)]; congr 1; omega
      · rw [if_neg (fun z => c z.2)]
        by_cases c2 : 140 + 67 * p ≤ j ∧ j < 140 + 67 * p + k
        · rw [if_pos c2, if_pos (by omega)]
        · rw [if_neg c2, if_neg (by omega)]
    · rintro _ ρ ⟨rfl, hT2, hF2⟩ K2
      dsimp only [wX11_hold_104]
      have fr : ∀ i, i ≠ 301 → i ≠ 325 → ρ i = σ2 i := fun i b1 b2 => by rw [hF2 i b1, f6 i b1, hF i b2]
      refine ⟨fun _ => h ρ ?_ (R2.fr (by rw [fr 300 (by omega) (by omega)]) (fr 304 (by omega) (by omega))) (by rw [fr 300 (by omega) (by omega), E2, Nat.zero_add]) (fun i b1 b2 b3 b4 b5 b6 b7 => by rw [fr i b2 b7, E4 i b1 b2 b3 b4 b5, f1 i b6]) (fun j b1 b2 b3 b4 => by rw [fr 300 (by omega) (by omega), E5 j b1 b2 b3 b4, f1 300 (by omega)]), (fun hno => absurd hno (by omega))⟩
      refine ⟨?_, fun j hj => ?_, fun j hj => ?_, fun j hj => ?_, fun q' hq => ⟨fun k hk => ?_, fun j hj => ?_⟩⟩
      · rw [hT2, if_neg (by omega), n6 _ (by omega) (by omega) (by omega)]; exact M3.1
      · rw [hT2, if_neg (by omega), n6 _ (by omega) (by omega) (by omega)]; exact M3.2.1 j hj
      · rw [hT2, if_neg (by omega), n6 _ (by omega) (by omega) (by omega)]; exact M3.2.2.1 j hj
      · rw [hT2, if_neg (by omega), n6 _ (by omega) (by omega) (by omega)]; exact M3.2.2.2.1 j hj
      · rw [hdr_hold, hT2, if_neg (by omega)]
        by_cases c : q' = p
        · subst c
          rw [if_pos rfl, Nat.zero_add]
          match k, hk with
          | 0, _ => rw [Nat.add_zero, v0]; rfl
          | 1, _ => rw [v1]; rfl
          | 2, _ => rw [v2]; rfl
        · rw [if_neg c, n6 _ (by omega) (by omega) (by omega)]; exact (M3.2.2.2.2 q' hq).1 k hk
      · rw [flo_hold, hT2]
        by_cases c : q' = p
        · subst c
          rw [if_pos (by omega), if_pos rfl]; congr 1; omega
        · rw [if_neg (by omega), if_neg c, n6 _ (by omega) (by omega) (by omega)]; exact (M3.2.2.2.2 q' hq).2 j hj
end HOLD
def aHold (f t : Nat) (x : Int) (B : Bk) (L : List Int) (r : List (Nat × Int)) (s1 : Nat → Int) (l1 : Int) : Act := if freeP B = 4 then (-3, B, L) else if l1 = 0 then ((freeP B : Int), holdB B (freeP B) f t x s1, [(r.length : Int)]) else (-4, B, [x - l1])
section CHOLD
variable {B : Bk} {L : List Int}
theorem ca_nohold {a b x : Int} (hp : ¬ (two (nN B) a b ∧ 1 ≤ x ∧ x ≤ 9999)) : CAct B L (fun τ Q => wX10_holdPayment a b x τ Q) (-1, B, L) := by
  intro τ Q hC hR h
  show wX10_holdPayment a b x τ Q
  unfold wX10_holdPayment
  exact s_isPayment hC (not_pay hp) (fun z => ⟨fun q => absurd rfl q, fun _ => h _ hC hR (fun _ _ _ => rfl)⟩)
theorem ca_hold (hI : Inv B) {f t : Nat} {x : Int} {r : List (Nat × Int)} {s1 : Nat → Int} {l1 : Int} (hf : f < nN B) (ht : t < nN B) (hne : f ≠ t) (hx : 1 ≤ x ∧ x ≤ 9999) (hr : Snd (nN B) f t r (sp B) x s1 l1) : CAct B L (fun τ Q => wX10_holdPayment (f : Int) (t : Int) x τ Q) (aHold f t x B L r s1 l1) := by
  intro τ Q hC hR h
  have hN := hI.1.1
  have q := Prun.si hI.1 hf ht hne hr.1 si_sp (by omega)
  have hlen := snd_len hI.1 hf ht hne si_sp (by omega) hr
  show wX10_holdPayment (f : Int) (t : Int) x τ Q
  unfold wX10_holdPayment
  refine s_isPayment hC (fun u v e1 e2 hu hv hne2 z1 z2 => ⟨fun _ => ?_, fun z => absurd z (by decide)⟩) (fun z => absurd ⟨two_n hf ht hne, hx⟩ z)
  refine s_freePlace hC ?_
  by_cases c4 : freeP B = 4
  · rw [if_pos c4]
    have ea : aHold f t x B L r s1 l1 = (-3, B, L) := by unfold aHold; rw [if_pos c4]
    rw [ea] at h
    exact ⟨fun z => absurd z (by decide), fun _ => h _ hC hR (fun _ _ _ => rfl)⟩
  · rw [if_neg c4]
    obtain ⟨hp4, hp0⟩ := freeP_0 c4
    refine ⟨fun _ => ?_, fun z => absurd (by omega) z⟩
    refine s_load (by omega) hC hI.1 hI.2.1 (fun σ1 g0 g15 g16 gf => ?_)
    refine s_send (m := 8) (s := sp B) hI.1 hf ht hne g0 g15 si_sp (by omega) (by omega) hr (fun σ2 k0 k15 k10 kR kf => ?_)
    have f2 : ∀ i, ¬ (14 ≤ i ∧ i ≤ 22) → σ2 i = τ i := fun i hi => by rw [kf i (by omega)]; exact gf i (by omega) (by omega) (by omega)
    have C2 : CB 40 B σ2 := hC.fr (fun i a1 a2 => f2 i (by omega))
    refine ⟨fun z => ⟨by omega, ?_⟩, fun z => ?_⟩
    · have ea : aHold f t x B L r s1 l1 = ((freeP B : Int), holdB B (freeP B) f t x s1, [(r.length : Int)]) := by unfold aHold; rw [if_neg c4, if_pos (by omega)]
      rw [ea] at h
      rw [tn]
      refine s_take (s := s1) C2 hI.1 q.1 hp4 (fun i hi => by rw [kf 16 (by omega)]; exact g16 i hi) k15 (fun σ3 C3 f3 => ?_)
      rw [show σ3 14 10 = (r.length : Int) by rw [f3 14 (by omega) (by omega)]; exact k10]
      refine c_tell1 (fun σ4 r4 f4 => h σ4 (C3.fr (fun i a1 a2 => f4 i (by omega) (by omega))) r4 (fun i a1 a2 => ?_))
      rw [f4 i (by omega) (by omega), f3 i (by omega) (by omega)]; exact f2 i (by omega)
    · have ea : aHold f t x B L r s1 l1 = (-4, B, [x - l1]) := by unfold aHold; rw [if_neg c4, if_neg (by omega)]
      rw [ea] at h
      exact c_tell1 (fun σ3 r3 f3 => h σ3 (C2.fr (fun i a1 a2 => f3 i (by omega) (by omega))) r3 (fun i a1 a2 => by rw [f3 i (by omega) (by omega)]; exact f2 i (by omega)))
end CHOLD
theorem op_holds (a b x : Int) : OpOK (wX10_holds a b x) (wX11_holds a b x) := by
  refine OpOK.of (fun X hI => ?_)
  have hN := hI.1.1.1
  by_cases hp : two (nN X.1) a b ∧ 1 ≤ x ∧ x ≤ 9999
  · obtain ⟨f, rfl⟩ : ∃ f : Nat, a = f := ⟨a.toNat, by omega⟩
    obtain ⟨t, rfl⟩ : ∃ t : Nat, b = t := ⟨b.toNat, by omega⟩
    have hf : f < nN X.1 := by omega
    have ht : t < nN X.1 := by omega
    have hne : f ≠ t := by omega
    obtain ⟨r, s', v, hr, hr2, hn, v0, v1, hlen, hS'⟩ := snd_most hI.1.1 hf ht hne (si_sp (B := X.1))
    obtain ⟨r1, s1, l1, h1, hlen1⟩ := snd_ex hI.1.1 hf ht hne (si_sp (B := X.1)) (l := x) (by omega)
    have q1 := Prun.si hI.1.1 hf ht hne h1.1 si_sp (by omega)
    have hcase := snd_x hI.1.1 hf ht hne si_sp hr (by omega) h1
    refine ⟨_, _, cto_rem (ca_hold hI.1 hf ht hne hp.2 h1), fun σ Q hM h => ?_, xi_rem hI ?_ ?_⟩
    · unfold wX11_holds
      rintro m1 rfl
      have hM1 := hM.thr (v := 0)
      refine m_isPayment hM1.1 hI.1.1 (fun u w e1 e2 hu hw hne2 z1 z2 => ⟨fun _ => ?_, fun z => absurd z (by decide)⟩) (fun z => absurd hp z)
      refine m_freePlace hM1.1 hI.1.1 ⟨fun z4 => ?_, fun z4 => ?_⟩
      · have c4 : freeP X.1 ≠ 4 := by omega
        obtain ⟨hp4, hp0⟩ := freeP_0 c4
        refine mo_mostOf hI.1.1 hI.1.2.1 hM1 hf ht hne hr2 (fun σ2 c2 hc2 M2 k16 k17 k18 f2 _ j2 => ?_)
        rintro m3 e3
        have M3 : MSt (wL X []) m3 := by rw [e3]; exact mo_row0 M2
        have f3 : ∀ i, i < 300 ∨ i = 340 → m3 i = σ i := fun i hi => by rw [e3, up2_ne (by omega), f2 i (by omega) (by omega) (by omega) (by omega) (by omega) (by omega), fr2 hi]
        refine ⟨fun z => ?_, fun z => ?_⟩
        · have hl : l1 = 0 := by omega
          subst hl
          have ea : aHold f t x X.1 X.2.2.2.2 r1 s1 0 = ((freeP X.1 : Int), holdB X.1 (freeP X.1) f t x s1, [(r1.length : Int)]) := by unfold aHold; rw [if_neg c4, if_pos rfl]
          rw [ea, remX_pos rfl (by omega)] at h
          refine mo_change M3 hI.2.2.1.2 (fun σ4 M4 f4 => ?_)
          refine m_hold (B := X.1) (R := []) M4.1 hI.1 M4.2.2.2.2.2 hp4 hf ht hne hp.2 M4.2.2.2.2.1 h1 (fun σ5 M5 R5 k5 f5 j5 => ?_)
          rw [k5]
          have MS5 := M4.bk M5 R5 (fun i hi => f5 i (by omega) (by omega) (by omega) (by omega) (by omega) (by omega) (by omega)) (fun j hj => j5 j (by omega) (by omega) (by omega) (by omega))
          refine mo_tell MS5 (by simp) (fun σ6 M6 f6 j6 => ?_)
          exact h σ6 M6 (fun i hi => by rw [f6 i (by omega) (by omega), f5 i (by omega) (by omega) (by omega) (by omega) (by omega) (by omega) (by omega), f4 i (by omega) (by omega) (by omega)]; exact f3 i hi)
        · have hl : ¬ l1 = 0 := by omega
          have ev : x - l1 = v := by omega
          have ea : aHold f t x X.1 X.2.2.2.2 r1 s1 l1 = (-4, X.1, [x - l1]) := by unfold aHold; rw [if_neg c4, if_neg hl]
          have er : remX X (aHold f t x X.1 X.2.2.2.2 r1 s1 l1) = wL X [v] := by rw [ea, ev]; rfl
          rw [er, ea] at h
          refine mo_tell M3 (by simp) (fun σ4 M4 f4 j4 => ?_)
          exact h σ4 M4 (fun i hi => by rw [f4 i (by omega) (by omega)]; exact f3 i hi)
      · have c4 : freeP X.1 = 4 := by omega
        have ea : aHold f t x X.1 X.2.2.2.2 r1 s1 l1 = (-3, X.1, X.2.2.2.2) := by unfold aHold; rw [if_pos c4]
        rw [remX_neg ea (by omega), ea] at h
        exact h _ hM1 (fun i hi => fr2 hi)
    · unfold aHold
      split
      · exact hI.1
      · rename_i c4
        split
        · exact inv_hold hI.1 q1.1 (freeP_0 c4).1 (freeP_0 c4).2 hp.2
        · exact hI.1
    · unfold aHold
      split
      · exact hI.2.2.2.2
      · split
        · refine ⟨fun y hy => ?_, by simp⟩
          simp at hy
          omega
        · refine ⟨fun y hy => ?_, by simp⟩
          simp at hy
          omega
  · refine ⟨-1, X, ?_, fun σ Q hM h => ?_, hI⟩
    · have c := cto_rem (X := X) (ca_nohold (B := X.1) (L := X.2.2.2.2) hp)
      exact c
    · unfold wX11_holds
      rintro m1 rfl
      have hM1 := hM.thr (v := 0)
      exact m_isPayment hM1.1 hI.1.1 (not_pay hp) (fun z => ⟨fun q => absurd rfl q, fun _ => h _ hM1 (fun i hi => fr2 hi)⟩)
