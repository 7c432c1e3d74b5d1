/-! the class's network: how far it is, the first way, along it -/
theorem up2_row {σ : Mem} {i j : Nat} {v : Int} : up2 σ i j v i = up1 (σ i) j v := if_pos rfl
section CNET
variable {N : Nat} {s : Nat → Int} {x : Int} {σ : Mem}
theorem s_measure {t : Nat} {Q : Mem → Prop} (hN : N ≤ 8) (ht : t < N) (e0 : σ 14 0 = (N : Int)) (eS : ∀ i, i < 64 → σ 15 i = s i) (h : ∀ σ', IsD N s x t (σ' 18) → (∀ i, i ≠ 18 → i ≠ 19 → σ' i = σ i) → Q σ') : wX4_measure (t : Int) x σ Q := by
  unfold wX4_measure wLX4_measure_2
  refine lp_for (fun k y τ => y = ((t : Int), x, (k : Int)) ∧ (∀ u, u < k → τ 18 u = -1) ∧ ∀ i, i ≠ 18 → i ≠ 19 → τ i = σ i) 8 ?_ ?_ _ _ ⟨rfl, fun u hu => by omega, fun i _ _ => rfl⟩
  · rintro k hk _ τ ⟨rfl, hD, hF⟩ K hK
    dsimp only [wX4_measure_2]
    refine ⟨(fun hno => absurd hno (by omega)), fun _ => ⟨⟨by omega, by omega⟩, ?_⟩⟩
    rintro _ rfl _ rfl
    refine hK _ _ ⟨by rw [w32_id (by omega) (by omega)]; rfl, fun u hu => ?_, fun i h1 h2 => by rw [up2_ne h1]; exact hF i h1 h2⟩
    rw [tn, up2_app]
    split
    · rfl
    · exact hD u (by omega)
  · rintro _ τ ⟨rfl, hD, hF⟩ K
    dsimp only [wX4_measure_2]
    refine ⟨fun _ => ?_, (fun hno => absurd hno (by omega))⟩
    rw [band7_all t (by omega)]
    refine ⟨⟨by omega, by omega⟩, ?_⟩
    rintro m1 e1 m2 e2
    rw [tn] at e1
    have eD : ∀ u, u < N → m2 18 u = if u = t then 0 else -1 := fun u hu => by
      rw [e2, up2_ne (by omega), e1, up2_app]
      by_cases c : u = t
      · rw [if_pos ⟨rfl, c⟩, if_pos c]
      · rw [if_neg (fun z => c z.2), if_neg c]; exact hD u (by omega)
    have eq : m2 19 0 = (t : Int) := by rw [e2, up2_eq]
    have fr : ∀ i, i ≠ 18 → i ≠ 19 → m2 i = σ i := fun i h1 h2 => by rw [e2, up2_ne h2, e1, up2_ne h1]; exact hF i h1 h2
    clear e1 e2
    unfold wLX4_measure_43
    refine lp_in (I := fun y ρ => ∃ hd tl : Nat, y = (x, (tl : Int), (hd : Int)) ∧ Bfs N s x t (ρ 18) (ρ 19) hd tl ∧ ∀ i, i ≠ 18 → i ≠ 19 → ρ i = σ i) (μ := fun y _ => (8 - y.2.2).toNat) ?_ _ _ ⟨0, 1, rfl, Bfs.init ht eD eq, fr⟩
    rintro y ρ ⟨hd, tl, rfl, hB, hF⟩ K hK
    dsimp only [wX4_measure_43]
    have b := hB.2.1
    refine ⟨fun z => h ρ (by obtain rfl : hd = tl := by omega
                             exact hB.done) hF, fun z => ⟨fun z8 => absurd z8 (by omega), fun _ => ?_⟩⟩
    obtain ⟨v, hv, ev, hv0⟩ := hB.2.2.2.1 hd (by omega)
    rw [band7_all hd (by omega)]
    refine ⟨⟨by omega, by omega⟩, ?_⟩
    rintro _ rfl
    rw [tn, ev, band7_all v (by omega)]
    refine ⟨⟨by omega, by omega⟩, ?_⟩
    rintro _ rfl
    rw [tn]
    have dl := hB.1.lt hv
    rw [w32_id (a := ρ 18 v + 1) (by omega) (by omega)]
    unfold wLX4_measure_85
    refine lp_for (fun k y τ => ∃ tl' : Nat, y = (x, (tl' : Int), (hd : Int), (v : Int), ρ 18 v + 1, (k : Int)) ∧ Bfs N s x t (τ 18) (τ 19) hd tl' ∧ hd < tl' ∧ τ 19 hd = (v : Int) ∧ τ 18 v = ρ 18 v ∧ (∀ u, u < k → x ≤ s (8 * u + v) → 0 ≤ τ 18 u) ∧ ∀ i, i ≠ 18 → i ≠ 19 → τ i = σ i) N ?_ ?_ _ _ ⟨tl, rfl, hB, by omega, ev, rfl, fun u hu => by omega, hF⟩
    · rintro k hk _ τ ⟨tl', rfl, hB', hl, ev', dv, hc, hF'⟩ K2 hK2
      dsimp only [wX4_measure_85]
      have e0' : τ 14 0 = (N : Int) := by rw [hF' 14 (by omega) (by omega)]; exact e0
      have b' := hB'.2.1
      refine ⟨fun z => absurd z (by rw [e0']; omega), fun _ => ⟨fun z2 => ?_, fun z2 => ?_⟩⟩
      · rintro _ rfl
        obtain rfl : tl' = 8 := by omega
        have w1 : w32 ((hd : Int) + 1) = ((hd + 1 : Nat) : Int) := by rw [w32_id (by omega) (by omega)]; rfl
        rw [w1]
        exact hK _ _ ⟨hd + 1, 8, rfl, hB'.next hl ev' (fun u hu _ => hB'.full hN u hu), hF'⟩ (by (try dsimp only); omega)
      · rw [band7_all k (by omega)]
        refine ⟨⟨by omega, by omega⟩, ?_⟩
        rw [tn]
        refine ⟨fun z3 => ?_, fun z3 => ?_⟩
        · rintro _ rfl
          refine hK2 _ _ ⟨tl', by rw [w32_id (by omega) (by omega)]; rfl, hB', hl, ev', dv, fun u hu hx => ?_, hF'⟩
          by_cases c : u = k
          · rw [c]; exact z3
          · exact hc u (by omega) hx
        · refine s_at (by omega) (by omega) ⟨rg64 (by omega) (by omega), ?_⟩
          rw [tn, hF' 15 (by omega) (by omega), eS _ (lt64 (by omega) (by omega))]
          refine ⟨fun z4 => ?_, fun z4 => ⟨⟨by omega, by omega⟩, ?_⟩⟩
          · rintro _ rfl
            refine hK2 _ _ ⟨tl', by rw [w32_id (by omega) (by omega)]; rfl, hB', hl, ev', dv, fun u hu hx => ?_, hF'⟩
            by_cases c : u = k
            · rw [c] at hx; omega
            · exact hc u (by omega) hx
          · rintro m7 e7
            refine ⟨⟨by omega, by omega⟩, ?_⟩
            rintro m8 e8 _ rfl _ rfl
            rw [tn] at e8
            have r18 : m8 18 = up1 (τ 18) k (τ 18 v + 1) := by rw [e8, up2_ne (by omega), e7, up2_row, dv]
            have r19 : m8 19 = up1 (τ 19) tl' (k : Int) := by rw [e8, up2_row, e7, up2_ne (by omega)]
            have hvis := hB'.visit hl (by omega) hk (by omega) ev' (by omega)
            have hv0' : 0 ≤ τ 18 v := by rw [dv]; exact hv0
            refine hK2 _ _ ⟨tl' + 1, by rw [w32_id (by omega) (by omega), w32_id (by omega) (by omega)]; rfl, by rw [r18, r19]; exact hvis, by omega, by rw [r19, up1_ne (by omega)]; exact ev', by rw [r18, up1_ne (fun c => by rw [c] at hv0'; omega)]; exact dv, fun u hu hx => ?_, fun i h1 h2 => by rw [e8, up2_ne h2, e7, up2_ne h1]; exact hF' i h1 h2⟩
            rw [r18]
            by_cases c : u = k
            · rw [c, up1_eq]; omega
            · rw [up1_ne c]; exact hc u (by omega) hx
    · rintro _ τ ⟨tl', rfl, hB', hl, ev', dv, hc, hF'⟩ K2
      dsimp only [wX4_measure_85]
      have e0' : τ 14 0 = (N : Int) := by rw [hF' 14 (by omega) (by omega)]; exact e0
      have b' := hB'.2.1
      refine ⟨fun _ => ?_, fun z => absurd z (by rw [e0']; omega)⟩
      rintro _ rfl
      have w1 : w32 ((hd : Int) + 1) = ((hd + 1 : Nat) : Int) := by rw [w32_id (by omega) (by omega)]; rfl
      rw [w1]
      exact hK _ _ ⟨hd + 1, tl', rfl, hB'.next hl ev' hc, hF'⟩ (by (try dsimp only); omega)
theorem s_nextT {here : Nat} {c : Int} {Q : Int → Mem → Prop} (hN : N ≤ 8) (hh : here < 8) (e0 : σ 14 0 = (N : Int)) (eS : ∀ i, i < 64 → σ 15 i = s i) (hex : ∃ v, v < N ∧ σ 18 v = c ∧ x ≤ s (8 * here + v)) (h : ∀ v : Nat, v < N → σ 18 v = c → x ≤ s (8 * here + v) → (∀ w, w < v → ¬ (σ 18 w = c ∧ x ≤ s (8 * here + w))) → Q (v : Int) σ) : wX4_nextTowards (here : Int) c x σ Q := by
  unfold wX4_nextTowards wLX4_nextTowards_3
  refine lp_for (fun k y τ => τ = σ ∧ y = ((here : Int), c, x, (k : Int)) ∧ ∀ w, w < k → ¬ (σ 18 w = c ∧ x ≤ s (8 * here + w))) N ?_ ?_ _ _ ⟨rfl, rfl, fun w hw => by omega⟩
  · rintro k hk _ τ ⟨rfl, rfl, hw⟩ K hK
    dsimp only [wX4_nextTowards_3]
    refine ⟨fun z => absurd z (by rw [e0]; omega), fun _ => ?_⟩
    rw [band7_all k (by omega)]
    refine ⟨⟨by omega, by omega⟩, ?_⟩
    rw [tn]
    refine ⟨fun z => ?_, fun z => s_at hh (by omega) ⟨rg64 hh (by omega), ?_⟩⟩
    · rintro _ rfl
      refine hK _ _ ⟨rfl, by rw [w32_id (by omega) (by omega)]; rfl, fun w h1 h2 => ?_⟩
      by_cases c1 : w = k
      · rw [c1] at h2; exact z h2.1
      · exact hw w (by omega) h2
    · rw [tn, eS _ (lt64 hh (by omega))]
      refine ⟨fun z2 => ?_, fun z2 => h k hk z (by omega) hw⟩
      rintro _ rfl
      refine hK _ _ ⟨rfl, by rw [w32_id (by omega) (by omega)]; rfl, fun w h1 h2 => ?_⟩
      by_cases c1 : w = k
      · rw [c1] at h2; omega
      · exact hw w (by omega) h2
  · rintro _ τ ⟨rfl, rfl, hw⟩ K
    obtain ⟨v, hv, hd⟩ := hex
    exact absurd hd (hw v hv)
theorem s_findWay {f t : Nat} {Q : Int → Mem → Prop} (hN : N ≤ 8) (hf : f < N) (ht : t < N) (e0 : σ 14 0 = (N : Int)) (eS : ∀ i, i < 64 → σ 15 i = s i) (h0 : ∀ σ', NoW N s x f t → (∀ i, i ≠ 18 → i ≠ 19 → σ' i = σ i) → Q 0 σ') (h1 : ∀ σ' L P, IsW N s x f t L P → σ' 14 7 = (L : Int) → (∀ i, i < L → σ' 20 i = ((P i : Nat) : Int)) → (∀ i, i ≠ 14 → i ≠ 18 → i ≠ 19 → i ≠ 20 → σ' i = σ i) → (∀ j, j ≠ 7 → σ' 14 j = σ 14 j) → Q 1 σ') : wX4_findWay (f : Int) (t : Int) x σ Q := by
  unfold wX4_findWay
  refine s_measure hN ht e0 eS (fun σ1 hD f1 => ?_)
  rw [band7_all f (by omega)]
  refine ⟨⟨by omega, by omega⟩, ?_⟩
  rintro _ rfl
  rw [tn]
  refine ⟨fun z => ?_, fun z => h0 σ1 ⟨_, hD, by omega⟩ f1⟩
  rintro m3 e3 m4 e4
  have dl := hD.lt ht hf
  obtain ⟨L, eL⟩ : ∃ L : Nat, (L : Int) = σ1 18 f + 1 := ⟨(σ1 18 f + 1).toNat, by omega⟩
  rw [w32_id (by omega) (by omega)] at e3
  have g18 : m4 18 = σ1 18 := by rw [e4, up2_ne (by omega), e3, up2_ne (by omega)]
  have g7 : m4 14 7 = (L : Int) := by rw [e4, up2_ne (by omega), e3, up2_eq]; omega
  have g20 : m4 20 0 = (f : Int) := by rw [e4, up2_eq]
  have gf : ∀ i, i ≠ 14 → i ≠ 18 → i ≠ 19 → i ≠ 20 → m4 i = σ i := fun i a1 a2 a3 a4 => by rw [e4, up2_ne a4, e3, up2_ne a1]; exact f1 i a2 a3
  have g14 : ∀ j, j ≠ 7 → m4 14 j = σ 14 j := fun j hj => by rw [e4, up2_ne (by omega), e3, up2_nj hj, f1 14 (by omega) (by omega)]
  clear e3 e4
  unfold wLX4_findWay_45
  refine lp_from (fun k y τ => ∃ here : Nat, y = (x, (here : Int), (k : Int)) ∧ τ 20 (k - 1) = (here : Int) ∧ τ 18 = σ1 18 ∧ τ 14 7 = (L : Int) ∧ τ 20 0 = (f : Int) ∧ (∀ i, i < k → ∃ p : Nat, p < N ∧ τ 20 i = (p : Int) ∧ σ1 18 p = (L : Int) - 1 - i) ∧ (∀ i, i + 1 < k → x ≤ s (8 * (τ 20 i).toNat + (τ 20 (i + 1)).toNat) ∧ ∀ w, w < (τ 20 (i + 1)).toNat → ¬ (σ1 18 w = (L : Int) - 2 - i ∧ x ≤ s (8 * (τ 20 i).toNat + w))) ∧ (∀ i, i ≠ 14 → i ≠ 18 → i ≠ 19 → i ≠ 20 → τ i = σ i) ∧ ∀ j, j ≠ 7 → τ 14 j = σ 14 j) 1 L (by omega) ?_ ?_ _ _ ⟨f, rfl, g20, g18, g7, g20, fun i hi => ⟨f, hf, by rw [show i = 0 by omega]; exact g20, by omega⟩, fun i hi => by omega, gf, g14⟩
  · rintro k hk1 hk _ τ ⟨here, rfl, eh, t18, t7, t20, hP, hS, tf, t14⟩ K hK
    dsimp only [wX4_findWay_45]
    obtain ⟨p, hp, ep, dp⟩ := hP (k - 1) (by omega)
    obtain rfl : p = here := by omega
    refine ⟨fun z => absurd z (by rw [t7]; omega), fun _ => ⟨(fun hno => absurd hno (by omega)), fun _ => ?_⟩⟩
    rw [t7, w32_id (a := (L : Int) - 1) (by omega) (by omega), w32_id (a := (L : Int) - 1 - k) (by omega) (by omega)]
    have hpt : p ≠ t := fun c => by rw [c, hD.1] at dp; omega
    obtain ⟨_, v, hv, dv, xv⟩ := hD.2.2.1 p hp hpt (by omega)
    refine s_nextT (N := N) (s := s) hN (by omega) (by rw [t14 0 (by omega)]; exact e0) (fun i hi => by rw [tf 15 (by omega) (by omega) (by omega) (by omega)]; exact eS i hi) ⟨v, hv, by rw [t18, dv]; omega, xv⟩ (fun v hv dv xv hw => ⟨⟨by omega, by omega⟩, ?_⟩)
    rintro m3 e3 _ rfl
    rw [tn] at e3
    rw [t18] at dv hw
    have n20 : ∀ i, i ≠ k → m3 20 i = τ 20 i := fun i hi => by rw [e3, up2_nj hi]
    have k20 : m3 20 k = (v : Int) := by rw [e3, up2_eq]
    refine hK _ _ ⟨v, by rw [w32_id (by omega) (by omega)]; rfl, by rw [show k + 1 - 1 = k by omega]; exact k20, by rw [e3, up2_ne (by omega)]; exact t18, by rw [e3, up2_ne (by omega)]; exact t7, by rw [n20 0 (by omega)]; exact t20, fun i hi => ?_, fun i hi => ?_, fun i a1 a2 a3 a4 => by rw [e3, up2_ne a4]; exact tf i a1 a2 a3 a4, fun j hj => by rw [e3, up2_ne (by omega)]; exact t14 j hj⟩
    · by_cases c : i = k
      · exact ⟨v, hv, by rw [c]; exact k20, by rw [dv, c]⟩
      · obtain ⟨q, q1, q2, q3⟩ := hP i (by omega)
        exact ⟨q, q1, by rw [n20 i c]; exact q2, q3⟩
    · by_cases c : i + 1 = k
      · rw [n20 i (by omega), c, k20, tn]
        rw [show k - 1 = i by omega] at ep
        rw [ep, tn]
        refine ⟨xv, fun w hw1 hw2 => hw w hw1 ⟨by rw [hw2.1]; omega, hw2.2⟩⟩
      · rw [n20 i (by omega), n20 (i + 1) (by omega)]
        exact hS i (by omega)
  · rintro _ τ ⟨here, rfl, eh, t18, t7, t20, hP, hS, tf, t14⟩ K
    dsimp only [wX4_findWay_45]
    refine ⟨fun _ => ?_, fun z => absurd z (by rw [t7]; omega)⟩
    refine h1 τ L (fun i => (τ 20 i).toNat) ⟨σ1 18, hD, z, eL, by (try dsimp only); rw [t20, tn], fun i hi => ?_, hS⟩ t7 (fun i hi => ?_) tf t14
    · obtain ⟨q, q1, q2, q3⟩ := hP i hi
      (try dsimp only)
      rw [q2, tn]
      exact ⟨q1, q3⟩
    · obtain ⟨q, q1, q2, q3⟩ := hP i hi
      (try dsimp only)
      rw [q2, tn]
theorem s_wayM {L i : Nat} {P : Nat → Nat} {Q : Int → Mem → Prop} (hL : L ≤ 8) (hP : ∀ i, i < L → σ 20 i = ((P i : Nat) : Int)) (hi : i < L) (h : Q ((P i : Nat) : Int) σ) : wX4_wayMember (i : Int) σ Q := by
  unfold wX4_wayMember
  rw [band7_all i (by omega)]
  refine ⟨⟨by omega, by omega⟩, ?_⟩
  rw [tn, hP i hi]
  exact h
theorem s_leastSpace {L : Nat} {P : Nat → Nat} {Q : Int → Mem → Prop} (hL : 1 ≤ L ∧ L ≤ 8) (e7 : σ 14 7 = (L : Int)) (hP : ∀ i, i < L → σ 20 i = ((P i : Nat) : Int)) (hPn : ∀ i, i < L → P i < 8) (eS : ∀ i, i < 64 → σ 15 i = s i) (h : Q (leastS s P 1000000 (L - 1)) σ) : wX4_leastSpace σ Q := by
  unfold wX4_leastSpace wLX4_leastSpace_5
  refine lp_from (fun k y τ => τ = σ ∧ y = (leastS s P 1000000 (k - 1), (k : Int))) 1 L hL.1 ?_ ?_ _ _ ⟨rfl, rfl⟩
  · rintro k hk1 hk _ τ ⟨rfl, rfl⟩ K hK
    dsimp only [wX4_leastSpace_5]
    refine ⟨fun z => absurd z (by rw [e7]; omega), fun _ => ?_⟩
    rw [show w32 ((k : Int) - 1) = ((k - 1 : Nat) : Int) by rw [w32_id (by omega) (by omega)]; omega]
    refine s_wayM hL.2 hP (by omega) (s_wayM hL.2 hP hk (s_at (hPn _ (by omega)) (hPn _ hk) ⟨rg64 (hPn _ (by omega)) (hPn _ hk), ?_⟩))
    rintro _ rfl _ rfl
    refine hK _ _ ⟨rfl, ?_⟩
    rw [tn, eS _ (lt64 (hPn _ (by omega)) (hPn _ hk)), w32_id (by omega) (by omega), show k + 1 - 1 = (k - 1) + 1 by omega, leastS, show k - 1 + 1 = k by omega]
    rfl
  · rintro _ τ ⟨rfl, rfl⟩ K
    dsimp only [wX4_leastSpace_5]
    exact ⟨fun _ => h, fun z => absurd z (by rw [e7]; omega)⟩
theorem s_pushAlong {L : Nat} {P : Nat → Nat} {p : Int} {Q : Mem → Prop} (hL : 1 ≤ L ∧ L ≤ 8) (e7 : σ 14 7 = (L : Int)) (hP : ∀ i, i < L → σ 20 i = ((P i : Nat) : Int)) (hPn : ∀ i, i < L → P i < 8) (hPd : ∀ i, i + 1 < L → P i ≠ P (i + 1)) (eS : ∀ i, i < 64 → σ 15 i = s i) (hp : -100000 ≤ p ∧ p ≤ 100000) (hb : ∀ k, k < L → ∀ i, i < 64 → -200000 ≤ pushS s P p k i ∧ pushS s P p k i ≤ 200000) (h : ∀ σ', (∀ i, i < 64 → σ' 15 i = pushS s P p (L - 1) i) → (∀ i, i ≠ 15 → σ' i = σ i) → Q σ') : wX4_pushAlong p σ Q := by
  unfold wX4_pushAlong wLX4_pushAlong_2
  refine lp_from (fun k y τ => y = (p, (k : Int)) ∧ (∀ i, i < 64 → τ 15 i = pushS s P p (k - 1) i) ∧ ∀ i, i ≠ 15 → τ i = σ i) 1 L hL.1 ?_ ?_ _ _ ⟨rfl, eS, fun i _ => rfl⟩
  · rintro k hk1 hk _ τ ⟨rfl, hT, hF⟩ K hK
    dsimp only [wX4_pushAlong_2]
    have e7' : τ 14 7 = (L : Int) := by rw [hF 14 (by omega)]; exact e7
    have hP' : ∀ i, i < L → τ 20 i = ((P i : Nat) : Int) := fun i hi => by rw [hF 20 (by omega)]; exact hP i hi
    have hu := hPn (k - 1) (by omega)
    have hv := hPn k hk
    have huv := hPd (k - 1) (by omega)
    rw [show k - 1 + 1 = k by omega] at huv
    have b1 := hb (k - 1) (by omega) _ (lt64 hu hv)
    have b2 := hb (k - 1) (by omega) _ (lt64 hv hu)
    refine ⟨fun z => absurd z (by rw [e7']; omega), fun _ => ?_⟩
    rw [show w32 ((k : Int) - 1) = ((k - 1 : Nat) : Int) by rw [w32_id (by omega) (by omega)]; omega]
    refine s_wayM hL.2 hP' (by omega) (s_wayM hL.2 hP' hk (s_at hu hv ⟨rg64 hu hv, rg64 hu hv, ?_⟩))
    rintro m7 e7
    rw [tn, hT _ (lt64 hu hv), w32_id (by omega) (by omega)] at e7
    refine s_at hv hu ⟨rg64 hv hu, rg64 hv hu, ?_⟩
    have e15 : m7 15 (8 * P k + P (k - 1)) = pushS s P p (k - 1) (8 * P k + P (k - 1)) := by rw [e7, up2_nj (by omega)]; exact hT _ (lt64 hv hu)
    rw [tn, e15, w32_id (a := pushS s P p (k - 1) (8 * P k + P (k - 1)) + p) (by omega) (by omega)]
    rintro m10 e10 _ rfl
    refine hK _ _ ⟨by rw [w32_id (by omega) (by omega)]; rfl, fun i hi => ?_, fun i hi => by rw [e10, up2_ne hi, e7, up2_ne hi]; exact hF i hi⟩
    have ep : pushS s P p (k + 1 - 1) i = pay (pushS s P p (k - 1)) (P k) (P (k - 1)) p i := by
      rw [show k + 1 - 1 = (k - 1) + 1 by omega, pushS, show k - 1 + 1 = k by omega]
    rw [ep, e10, up2_app]
    unfold pay
    by_cases c1 : i = 8 * P k + P (k - 1)
    · rw [if_pos ⟨rfl, c1⟩, if_pos c1, if_neg (by omega), c1]; omega
    · rw [if_neg (fun z => c1 z.2), if_neg c1, e7, up2_app]
      by_cases c2 : i = 8 * P (k - 1) + P k
      · rw [if_pos ⟨rfl, c2⟩, if_pos c2, c2]; omega
      · rw [if_neg (fun z => c2 z.2), if_neg c2, hT i hi]; omega
  · rintro _ τ ⟨rfl, hT, hF⟩ K
    dsimp only [wX4_pushAlong_2]
    have e7' : τ 14 7 = (L : Int) := by rw [hF 14 (by omega)]; exact e7
    exact ⟨fun _ => h τ hT hF, fun z => absurd z (by rw [e7']; omega)⟩
end CNET
