/-! the class's rings -/
theorem PreD.st {N : Nat} {d : Nat → Int} {st : Nat} {D : Nat → Int} (hN : N ≤ 8) (hD : PreD N (rs st d) 1 st D) {u : Nat} (hu : u < N) (h0 : 0 ≤ D u) : st ≤ u := by
  by_cases c : u = st
  · omega
  · obtain ⟨_, v, hv, _, he⟩ := hD.2.2 u hu c h0
    rw [rs_uv (by omega)] at he
    by_cases q : st < u ∧ st ≤ v
    · omega
    · rw [if_neg q] at he; omega
section CRING
variable {B : Bk} {σ : Mem} {b st : Nat}
theorem s_rmeasure {Q : Mem → Prop} (hb : 40 ≤ b) (hC : CB b B σ) (hN : nN B ≤ 8) (hst : st < nN B) (h : ∀ σ', IsD (nN B) (rs st (deb B)) 1 st (σ' 33) → (∀ i, i ≠ 33 → i ≠ 34 → σ' i = σ i) → Q σ') : wX7_measure b (st : Int) σ Q := by
  have e0 := hC.1
  have eS := hC.2.2.1
  unfold wX7_measure wLX7_measure_2
  refine lp_for (fun k y τ => y = ((st : Int), (k : Int)) ∧ (∀ u, u < k → τ 33 u = -1) ∧ ∀ i, i ≠ 33 → i ≠ 34 → τ i = σ i) 8 ?_ ?_ _ _ ⟨rfl, fun u hu => by omega, fun i _ _ => rfl⟩
  · rintro k hk _ τ ⟨rfl, hD, hF⟩ K hK
    dsimp only [wX7_measure_2]
    refine ⟨(fun hno => absurd hno (by omega)), fun _ => ⟨⟨by omega, by omega⟩, ?_⟩⟩
    rintro _ rfl _ rfl
    refine hK _ _ ⟨by rw [w32_id (by omega) (by omega)]; rfl, fun u hu => ?_, fun i h1 h2 => by rw [up2_ne h1]; exact hF i h1 h2⟩
    rw [tn, up2_app]
    split
    · rfl
    · exact hD u (by omega)
  · rintro _ τ ⟨rfl, hD, hF⟩ K
    dsimp only [wX7_measure_2]
    refine ⟨fun _ => ?_, (fun hno => absurd hno (by omega))⟩
    rw [band7_all st (by omega)]
    refine ⟨⟨by omega, by omega⟩, ?_⟩
    rintro m1 e1 m2 e2
    rw [tn] at e1
    have eD : ∀ u, u < nN B → m2 33 u = if u = st then 0 else -1 := fun u hu => by
      rw [e2, up2_ne (by omega), e1, up2_app]
      by_cases c : u = st
      · rw [if_pos ⟨rfl, c⟩, if_pos c]
      · rw [if_neg (fun z => c z.2), if_neg c]; exact hD u (by omega)
    have eq : m2 34 0 = (st : Int) := by rw [e2, up2_eq]
    have fr : ∀ i, i ≠ 33 → i ≠ 34 → m2 i = σ i := fun i h1 h2 => by rw [e2, up2_ne h2, e1, up2_ne h1]; exact hF i h1 h2
    clear e1 e2
    unfold wLX7_measure_43
    refine lp_in (I := fun y ρ => ∃ hd tl : Nat, y = ((st : Int), (tl : Int), (hd : Int)) ∧ Bfs (nN B) (rs st (deb B)) 1 st (ρ 33) (ρ 34) hd tl ∧ ∀ i, i ≠ 33 → i ≠ 34 → ρ i = σ i) (μ := fun y _ => (8 - y.2.2).toNat) ?_ _ _ ⟨0, 1, rfl, Bfs.init hst eD eq, fr⟩
    rintro y ρ ⟨hd, tl, rfl, hB, hF⟩ K hK
    dsimp only [wX7_measure_43]
    have b2 := hB.2.1
    refine ⟨fun z => h ρ (by obtain rfl : hd = tl := by omega
                             exact hB.done) hF, fun z => ⟨fun z8 => absurd z8 (by omega), fun _ => ?_⟩⟩
    obtain ⟨v, hv, ev, hv0⟩ := hB.2.2.2.1 hd (by omega)
    rw [band7_all hd (by omega)]
    refine ⟨⟨by omega, by omega⟩, ?_⟩
    rintro _ rfl
    rw [tn, ev, band7_all v (by omega)]
    refine ⟨⟨by omega, by omega⟩, ?_⟩
    rintro _ rfl
    rw [tn]
    have dl := hB.1.lt hv
    rw [w32_id (a := ρ 33 v + 1) (by omega) (by omega)]
    rintro _ rfl
    unfold wLX7_measure_87
    refine lp_from (fun k y τ => ∃ tl' : Nat, y = ((st : Int), (tl' : Int), (hd : Int), (v : Int), ρ 33 v + 1, (k : Int)) ∧ Bfs (nN B) (rs st (deb B)) 1 st (τ 33) (τ 34) hd tl' ∧ hd < tl' ∧ τ 34 hd = (v : Int) ∧ τ 33 v = ρ 33 v ∧ (∀ u, u < k → 1 ≤ rs st (deb B) (8 * u + v) → 0 ≤ τ 33 u) ∧ ∀ i, i ≠ 33 → i ≠ 34 → τ i = σ i) (st + 1) (nN B) (by omega) ?_ ?_ _ _ ⟨tl, by rw [w32_id (by omega) (by omega)]; rfl, hB, by omega, ev, rfl, fun u hu hx => by
      rw [rs_uv (by omega), if_neg (by omega)] at hx; omega, hF⟩
    · rintro k hk1 hk _ τ ⟨tl', rfl, hB', hl, ev', dv, hc, hF'⟩ K2 hK2
      dsimp only [wX7_measure_87]
      have e0' : τ b 0 = (nN B : Int) := by rw [hF' b (by omega) (by omega)]; exact e0
      have b' := hB'.2.1
      have hv0' : 0 ≤ τ 33 v := by rw [dv]; exact hv0
      have hsv := hB'.1.st hN hv hv0'
      have ers : rs st (deb B) (8 * k + v) = deb B (8 * k + v) := by rw [rs_uv (by omega), if_pos (by omega)]
      refine ⟨fun z => absurd z (by rw [e0']; omega), fun _ => ⟨fun z2 => ?_, fun z2 => ?_⟩⟩
      · rintro _ rfl
        obtain rfl : tl' = 8 := by omega
        have w1 : w32 ((hd : Int) + 1) = ((hd + 1 : Nat) : Int) := by rw [w32_id (by omega) (by omega)]; rfl
        rw [w1]
        exact hK _ _ ⟨hd + 1, 8, rfl, hB'.next hl ev' (fun u hu _ => hB'.full hN u hu), hF'⟩ (by (try dsimp only); omega)
      · rw [band7_all k (by omega)]
        refine ⟨⟨by omega, by omega⟩, ?_⟩
        rw [tn]
        refine ⟨fun z3 => ?_, fun z3 => ?_⟩
        · rintro _ rfl
          refine hK2 _ _ ⟨tl', by rw [w32_id (by omega) (by omega)]; rfl, hB', hl, ev', dv, fun u hu hx => ?_, hF'⟩
          by_cases c : u = k
          · rw [c]; exact z3
          · exact hc u (by omega) hx
        · refine s_at (by omega) (by omega) ⟨rg64 (by omega) (by omega), ?_⟩
          rw [tn, hF' (b + 2) (by omega) (by omega), eS _ (lt64 (by omega) (by omega))]
          refine ⟨fun z4 => ?_, fun z4 => ⟨⟨by omega, by omega⟩, ?_⟩⟩
          · rintro _ rfl
            refine hK2 _ _ ⟨tl', by rw [w32_id (by omega) (by omega)]; rfl, hB', hl, ev', dv, fun u hu hx => ?_, hF'⟩
            by_cases c : u = k
            · rw [c, ers] at hx; omega
            · exact hc u (by omega) hx
          · rintro m7 e7
            refine ⟨⟨by omega, by omega⟩, ?_⟩
            rintro m8 e8 _ rfl _ rfl
            rw [tn] at e8
            have r18 : m8 33 = up1 (τ 33) k (τ 33 v + 1) := by rw [e8, up2_ne (by omega), e7, up2_row, dv]
            have r19 : m8 34 = up1 (τ 34) tl' (k : Int) := by rw [e8, up2_row, e7, up2_ne (by omega)]
            have hvis := hB'.visit hl (by omega) hk (by omega) ev' (by rw [ers]; omega)
            refine hK2 _ _ ⟨tl' + 1, by rw [w32_id (by omega) (by omega), w32_id (by omega) (by omega)]; rfl, by rw [r18, r19]; exact hvis, by omega, by rw [r19, up1_ne (by omega)]; exact ev', by rw [r18, up1_ne (fun c => by rw [c] at hv0'; omega)]; exact dv, fun u hu hx => ?_, fun i h1 h2 => by rw [e8, up2_ne h2, e7, up2_ne h1]; exact hF' i h1 h2⟩
            rw [r18]
            by_cases c : u = k
            · rw [c, up1_eq]; omega
            · rw [up1_ne c]; exact hc u (by omega) hx
    · rintro _ τ ⟨tl', rfl, hB', hl, ev', dv, hc, hF'⟩ K2
      dsimp only [wX7_measure_87]
      have e0' : τ b 0 = (nN B : Int) := by rw [hF' b (by omega) (by omega)]; exact e0
      have b' := hB'.2.1
      refine ⟨fun _ => ?_, fun z => absurd z (by rw [e0']; omega)⟩
      rintro _ rfl
      have w1 : w32 ((hd : Int) + 1) = ((hd + 1 : Nat) : Int) := by rw [w32_id (by omega) (by omega)]; rfl
      rw [w1]
      exact hK _ _ ⟨hd + 1, tl', rfl, hB'.next hl ev' hc, hF'⟩ (by (try dsimp only); omega)
theorem owe_pos {u v : Nat} : (owe B u v ≤ 0 ↔ deb B (8 * u + v) ≤ 0) := by unfold owe; omega
theorem s_rnext {here : Nat} {c : Int} {Q : Int → Mem → Prop} (hC : CB b B σ) (hN : nN B ≤ 8) (hst : st < nN B) (hh : here < 8) (hex : ∃ v, st < v ∧ v < nN B ∧ σ 33 v = c ∧ 0 < deb B (8 * here + v)) (h : ∀ v : Nat, st < v → v < nN B → σ 33 v = c → 0 < deb B (8 * here + v) → (∀ w, st < w → w < v → ¬ (σ 33 w = c ∧ 0 < deb B (8 * here + w))) → Q (v : Int) σ) : wX7_nextTowards b (st : Int) (here : Int) c σ Q := by
  have e0 := hC.1
  unfold wX7_nextTowards
  rintro _ rfl
  unfold wLX7_nextTowards_5
  refine lp_from (fun k y τ => τ = σ ∧ y = ((here : Int), c, (k : Int)) ∧ ∀ w, st < w → w < k → ¬ (σ 33 w = c ∧ 0 < deb B (8 * here + w))) (st + 1) (nN B) (by omega) ?_ ?_ _ _ ⟨rfl, by rw [w32_id (by omega) (by omega)]; rfl, fun w h1 h2 => by omega⟩
  · rintro k hk1 hk _ σ ⟨rfl, rfl, hw⟩ K hK
    dsimp only [wX7_nextTowards_5]
    refine ⟨fun z => absurd z (by rw [e0]; omega), fun _ => ?_⟩
    rw [band7_all k (by omega)]
    refine ⟨⟨by omega, by omega⟩, ?_⟩
    rw [tn]
    refine ⟨fun z => ?_, fun z => s_owed hh (by omega) hC ⟨fun z2 => ?_, fun z2 => ?_⟩⟩
    · rintro _ rfl
      refine hK _ _ ⟨rfl, by rw [w32_id (by omega) (by omega)]; rfl, fun w h1 h2 h3 => ?_⟩
      by_cases c1 : w = k
      · rw [c1] at h3; exact z h3.1
      · exact hw w h1 (by omega) h3
    · rintro _ rfl
      rw [owe_pos] at z2
      refine hK _ _ ⟨rfl, by rw [w32_id (by omega) (by omega)]; rfl, fun w h1 h2 h3 => ?_⟩
      by_cases c1 : w = k
      · rw [c1] at h3; omega
      · exact hw w h1 (by omega) h3
    · rw [owe_pos] at z2
      exact h k (by omega) hk z (by omega) hw
  · rintro _ σ ⟨rfl, rfl, hw⟩ K
    obtain ⟨v, hv1, hv, hd⟩ := hex
    exact absurd hd (hw v hv1 hv)
/-- how many are on the shortest ring from st on -/
def LnOK (B : Bk) (st : Nat) (ln : Int) : Prop := (0 ≤ ln ∧ ln ≤ 8) ∧ (ln = 0 → ∀ n R, Rg (nN B) (deb B) n R → R 0 ≠ st) ∧ (ln ≠ 0 → (∃ R, Rg (nN B) (deb B) ln.toNat R ∧ R 0 = st) ∧ ∀ n R, Rg (nN B) (deb B) n R → R 0 = st → ln ≤ (n : Int))
theorem rg_1 (hN : nN B ≤ 8) (hZ : IvB B) {n : Nat} {R : Nat → Nat} {D : Nat → Int} (hD : IsD (nN B) (rs st (deb B)) 1 st D) (h : Rg (nN B) (deb B) n R) (hs : R 0 = st) : 3 ≤ n ∧ R 1 < nN B ∧ st < R 1 ∧ 1 ≤ D (R 1) ∧ D (R 1) + 1 ≤ (n : Int) ∧ 0 < deb B (8 * st + R 1) := by
  have h3 := h.ge hN hZ.1
  have f1 := rg_far hN hD h hs (n - 1) 1 (by omega) (by omega) (by omega)
  have g := h.2.2.1 1 (by omega) (by omega)
  have b1 := h.2.1 1 (by omega)
  have d := h.2.2.2.2.1 0 (by omega)
  rw [hs, show 0 + 1 = 1 from rfl] at d
  refine ⟨h3, b1, by omega, ?_, by omega, d⟩
  by_cases c : D (R 1) = 0
  · have := hD.z b1 c
    omega
  · omega
theorem s_lengthFrom {Q : Int → Mem → Prop} (hb : 40 ≤ b) (hC : CB b B σ) (hN : nN B ≤ 8) (hZ : IvB B) (hst : st < nN B) (h : ∀ σ' ln, LnOK B st ln → (∀ i, i ≠ 33 → i ≠ 34 → σ' i = σ i) → Q ln σ') : wX7_lengthFrom b (st : Int) σ Q := by
  unfold wX7_lengthFrom
  refine s_rmeasure hb hC hN hst (fun σ1 hD f1 => ?_)
  have C1 : CB b B σ1 := hC.fr (fun i a1 a2 => f1 i (by omega) (by omega))
  have e0 := C1.1
  rintro _ rfl
  unfold wLX7_lengthFrom_13
  refine lp_from (fun k y τ => τ = σ1 ∧ ∃ ln : Int, y = ((st : Int), ln, (k : Int)) ∧ (0 ≤ ln ∧ ln ≤ 8) ∧ (ln = 0 → ∀ v, st < v → v < k → ¬ (1 ≤ σ1 33 v ∧ 0 < deb B (8 * st + v))) ∧ (ln ≠ 0 → (∃ v, v < nN B ∧ 1 ≤ σ1 33 v ∧ 0 < deb B (8 * st + v) ∧ σ1 33 v + 1 = ln) ∧ ∀ v, st < v → v < k → 1 ≤ σ1 33 v → 0 < deb B (8 * st + v) → ln ≤ σ1 33 v + 1)) (st + 1) (nN B) (by omega) ?_ ?_ _ _ ⟨rfl, 0, by rw [w32_id (by omega) (by omega)]; rfl, by omega, fun _ v h1 h2 => by omega, fun q => absurd rfl q⟩
  · rintro k hk1 hk _ σ1 ⟨rfl, ln, rfl, hl, h0, h1⟩ K hK
    dsimp only [wX7_lengthFrom_13, wX7_lengthFrom_62]
    have dl := hD.lt hst hk
    have dg := hD.2.1 k hk
    have wk : w32 ((k : Int) + 1) = ((k + 1 : Nat) : Int) := by rw [w32_id (by omega) (by omega)]; rfl
    refine ⟨fun z => absurd z (by rw [e0]; omega), fun _ => ?_⟩
    rw [band7_all k (by omega), wk]
    refine ⟨⟨by omega, by omega⟩, ?_⟩
    rintro _ rfl
    rw [tn, w32_id (a := σ1 33 k + 1) (by omega) (by omega)]
    have skip : ¬ (1 ≤ σ1 33 k ∧ 0 < deb B (8 * st + k)) → ∀ x2 : Int, x2 = ((k + 1 : Nat) : Int) → K ((st : Int), ln, x2) σ1 := by
      rintro q _ rfl
      refine hK _ _ ⟨rfl, ln, rfl, hl, fun e v a1 a2 => ?_, fun e => ⟨(h1 e).1, fun v a1 a2 a3 a4 => ?_⟩⟩
      · by_cases c : v = k
        · rw [c]; exact q
        · exact h0 e v a1 (by omega)
      · by_cases c : v = k
        · rw [c] at a3 a4; exact absurd ⟨a3, a4⟩ q
        · exact (h1 e).2 v a1 (by omega) a3 a4
    refine ⟨fun z => skip (fun q => by omega), fun z => s_owed (by omega) (by omega) C1 ⟨fun z2 => ?_, fun z2 => ?_⟩⟩
    · rw [owe_pos] at z2
      exact skip (fun q => by omega)
    · rw [owe_pos] at z2
      refine ⟨fun z3 => ?_, fun z3 => ⟨fun z4 => ?_, fun z4 => ?_⟩⟩
      · rintro _ rfl
        refine hK _ _ ⟨rfl, σ1 33 k + 1, rfl, by omega, fun e => by omega, fun _ => ⟨⟨k, hk, by omega, by omega, rfl⟩, fun v a1 a2 a3 a4 => ?_⟩⟩
        by_cases c : v = k
        · rw [c]; omega
        · exact absurd ⟨a3, a4⟩ (h0 z3 v a1 (by omega))
      · rintro _ rfl
        refine hK _ _ ⟨rfl, ln, rfl, hl, fun e => absurd e z3, fun e => ⟨(h1 e).1, fun v a1 a2 a3 a4 => ?_⟩⟩
        by_cases c : v = k
        · rw [c]; exact z4
        · exact (h1 e).2 v a1 (by omega) a3 a4
      · rintro _ rfl
        refine hK _ _ ⟨rfl, σ1 33 k + 1, rfl, by omega, fun e => by omega, fun _ => ⟨⟨k, hk, by omega, by omega, rfl⟩, fun v a1 a2 a3 a4 => ?_⟩⟩
        by_cases c : v = k
        · rw [c]; omega
        · have := (h1 z3).2 v a1 (by omega) a3 a4
          omega
  · rintro _ σ1 ⟨rfl, ln, rfl, hl, h0, h1⟩ K
    dsimp only [wX7_lengthFrom_13]
    refine ⟨fun _ => h σ1 ln ⟨hl, fun e n R hR hs => ?_, fun e => ⟨?_, fun n R hR hs => ?_⟩⟩ f1, fun z => absurd z (by rw [e0]; omega)⟩
    · have r1 := rg_1 hN hZ hD hR hs
      exact h0 e (R 1) r1.2.2.1 r1.2.1 ⟨r1.2.2.2.1, r1.2.2.2.2.2⟩
    · obtain ⟨v, a1, a2, a3, a4⟩ := (h1 e).1
      obtain ⟨R, hR, r0, _⟩ := far_rg hN hst hD a1 a2 a3 (k := (σ1 33 v).toNat) (by omega)
      refine ⟨R, ?_, r0⟩
      rw [show ln.toNat = (σ1 33 v).toNat + 1 by omega]
      exact hR
    · have r1 := rg_1 hN hZ hD hR hs
      have := (h1 e).2 (R 1) r1.2.2.1 r1.2.1 r1.2.2.2.1 r1.2.2.2.2.2
      omega
end CRING
