/-! the reference's first ring -/
section MRING
variable {B : Bk} {n : Nat}
theorem m_isOnRing {σ : Mem} {R : Nat → Nat} {m k : Nat} {Q : Int → Mem → Prop} (hk : k ≤ 8) (hR : ∀ i, i < k → σ 320 i = ((R i : Nat) : Int)) (h1 : ∀ i, i < k → R i = m → Q 1 σ) (h0 : (∀ i, i < k → R i ≠ m) → Q 0 σ) : wX11_isOnRing (m : Int) (k : Int) σ Q := by
  unfold wX11_isOnRing wLX11_isOnRing_2
  refine lp_for (fun j y τ => τ = σ ∧ y = ((m : Int), (k : Int), (j : Int)) ∧ ∀ i, i < j → R i ≠ m) k ?_ ?_ _ _ ⟨rfl, rfl, fun i hi => by omega⟩
  · rintro j hj _ σ ⟨rfl, rfl, hw⟩ K hK
    dsimp only [wX11_isOnRing_2]
    rw [tn, hR j hj]
    refine ⟨fun z => absurd z (by omega), fun _ => ⟨⟨by omega, by omega⟩, fun z => ?_, fun z => h1 j hj (by omega)⟩⟩
    rintro _ rfl
    refine hK _ _ ⟨rfl, by rw [w32_id (by omega) (by omega)]; rfl, fun i hi => ?_⟩
    by_cases c : i = j
    · rw [c]; omega
    · exact hw i (by omega)
  · rintro _ σ ⟨rfl, rfl, hw⟩ K
    dsimp only [wX11_isOnRing_2]
    exact ⟨fun _ => h0 hw, fun z => absurd z (by omega)⟩
def PreR (N : Nat) (d : Nat → Int) (k : Nat) (R : Nat → Nat) : Prop := (∀ i, i < k → R i < N) ∧ (∀ i, 1 ≤ i → i < k → R 0 < R i) ∧ (∀ i, i < k → ∀ j, j < k → R i = R j → i = j) ∧ ∀ i, i + 1 < k → 0 < d (8 * R i + R (i + 1))
theorem m_isRing (hA : IvA B) (hn : n ≤ 8) : ∀ (j dep k : Nat) (R : Nat → Nat) (σ : Mem) (Q : Int → Mem → Prop), k + j = n → j < dep → 1 ≤ k → PreR (nN B) (deb B) k R → MN σ B → (∀ i, i < k → σ 320 i = ((R i : Nat) : Int)) → (∀ σ' R', (∀ i, i < k → R' i = R i) → Rg (nN B) (deb B) n R' → (∀ R2, Rg (nN B) (deb B) n R2 → (∀ i, i < k → R2 i = R i) → LexLe n R' R2) → (∀ i, i < n → σ' 320 i = ((R' i : Nat) : Int)) → (∀ i, i ≠ 320 → σ' i = σ i) → Q 1 σ') → (∀ σ', (∀ R2, Rg (nN B) (deb B) n R2 → ¬ ∀ i, i < k → R2 i = R i) → (∀ i, i < k → σ' 320 i = ((R i : Nat) : Int)) → (∀ i, i ≠ 320 → σ' i = σ i) → Q 0 σ') → wRX11_isRing dep (k : Int) (n : Int) σ Q := by
  have hN := hA.1
  intro j
  induction j with
  | zero =>
    intro dep k R σ Q ek hd hk hP hM hR h1 h0
    obtain ⟨dep, rfl⟩ : ∃ d, dep = d + 1 := ⟨dep - 1, by omega⟩
    obtain rfl : k = n := by omega
    show wBX11_isRing (wRX11_isRing dep) (k : Int) (k : Int) σ Q
    unfold wBX11_isRing
    obtain ⟨p1, p2, p3, p4⟩ := hP
    have b1 := p1 (k - 1) (by omega)
    have b0 := p1 0 (by omega)
    rw [show w32 ((k : Int) - 1) = ((k - 1 : Nat) : Int) by rw [w32_id (by omega) (by omega)]; omega, tn, hR (k - 1) (by omega), hR 0 (by omega)]
    refine ⟨fun z => absurd rfl z, fun _ => ⟨⟨by omega, by omega⟩, m_owes hM (by omega) (by omega) ⟨fun z => ?_, fun z => ?_⟩⟩⟩
    · rw [owe_pos] at z
      refine h0 σ (fun R2 h2 e => ?_) hR (fun _ _ => rfl)
      have := h2.2.2.2.2.2
      rw [e (k - 1) (by omega), e 0 (by omega)] at this
      omega
    · rw [owe_pos] at z
      exact h1 σ R (fun _ _ => rfl) ⟨hk, p1, p2, p3, p4, by omega⟩ (fun R2 h2 e q hq _ => by rw [e q hq]; exact Nat.le_refl _) hR (fun _ _ => rfl)
  | succ j ih =>
    intro dep k R σ Q ek hd hk hP hM hR h1 h0
    obtain ⟨dep, rfl⟩ : ∃ d, dep = d + 1 := ⟨dep - 1, by omega⟩
    show wBX11_isRing (wRX11_isRing dep) (k : Int) (n : Int) σ Q
    unfold wBX11_isRing
    obtain ⟨p1, p2, p3, p4⟩ := id hP
    have b1 := p1 (k - 1) (by omega)
    have b0 := p1 0 (by omega)
    refine ⟨fun _ => ?_, fun z => absurd z (by omega)⟩
    rintro _ rfl
    rw [hR 0 (by omega), show w32 (((R 0 : Nat) : Int) + 1) = ((R 0 + 1 : Nat) : Int) by rw [w32_id (by omega) (by omega)]; rfl]
    unfold wLX11_isRing_41
    refine lp_from (fun m y τ => y = ((k : Int), (n : Int), (m : Int)) ∧ (∀ i, i < k → τ 320 i = ((R i : Nat) : Int)) ∧ (∀ i, i ≠ 320 → τ i = σ i) ∧ ∀ m', R 0 < m' → m' < m → ∀ R2, Rg (nN B) (deb B) n R2 → (∀ i, i < k → R2 i = R i) → R2 k ≠ m') (R 0 + 1) (nN B) (by omega) ?_ ?_ _ _ ⟨rfl, hR, fun _ _ => rfl, fun m' a1 a2 => by omega⟩
    · rintro m hm1 hm _ τ ⟨rfl, hT, hF, hno⟩ K hK
      dsimp only [wX11_isRing_41]
      have Mt : MN τ B := by unfold MN; rw [hF 301 (by omega)]; exact hM
      have wm : w32 ((m : Int) + 1) = ((m + 1 : Nat) : Int) := by rw [w32_id (by omega) (by omega)]; rfl
      rw [show w32 ((k : Int) - 1) = ((k - 1 : Nat) : Int) by rw [w32_id (by omega) (by omega)]; omega, tn, hT (k - 1) (by omega), wm]
      have skip : ∀ τ2 : Mem, (∀ i, i < k → τ2 320 i = ((R i : Nat) : Int)) → (∀ i, i ≠ 320 → τ2 i = σ i) → (∀ R2, Rg (nN B) (deb B) n R2 → (∀ i, i < k → R2 i = R i) → R2 k ≠ m) → ∀ x3 : Int, x3 = ((m + 1 : Nat) : Int) → K ((k : Int), (n : Int), x3) τ2 := by
        rintro τ2 hT2 hF2 hq _ rfl
        refine hK _ _ ⟨rfl, hT2, hF2, fun m' a1 a2 R2 h2 e2 => ?_⟩
        by_cases c : m' = m
        · rw [c]; exact hq R2 h2 e2
        · exact hno m' a1 (by omega) R2 h2 e2
      refine ⟨fun z => absurd z (by rw [Mt.1]; omega), fun _ => ⟨⟨by omega, by omega⟩, m_owes Mt (by omega) (by omega) ⟨fun z => skip τ hT hF (fun R2 h2 e2 q => ?_), fun z => ?_⟩⟩⟩
      · have := h2.2.2.2.2.1 (k - 1) (by omega)
        rw [show k - 1 + 1 = k by omega, q, e2 (k - 1) (by omega), ← owe_eq (by
          have t := h2.2.2.2.2.1 (k - 1) (by omega)
          rw [show k - 1 + 1 = k by omega, q, e2 (k - 1) (by omega)] at t
          exact t)] at this
        omega
      · have hdm : 0 < deb B (8 * R (k - 1) + m) := by
          have := (owe_pos (B := B) (u := R (k - 1)) (v := m))
          unfold owe at z this
          omega
        refine m_isOnRing (by omega) hT (fun i hi e => ⟨fun q => absurd q (by decide), fun _ => skip τ hT hF (fun R2 h2 e2 q => ?_)⟩) (fun hnew => ⟨fun _ => ⟨⟨by omega, by omega⟩, ?_⟩, fun q => absurd rfl q⟩)
        · have := h2.2.2.2.1 k (by omega) i (by omega) (by rw [q, e2 i hi, e])
          omega
        · rintro m6 e6
          rw [tn] at e6
          rw [show w32 ((k : Int) + 1) = ((k + 1 : Nat) : Int) by rw [w32_id (by omega) (by omega)]; rfl]
          have rk : ∀ i, i < k → (fun i => if i = k then m else R i) i = R i := fun i hi => by (try dsimp only); rw [if_neg (by omega)]
          have rkk : (fun i => if i = k then m else R i) k = m := by (try dsimp only); rw [if_pos rfl]
          have F6 : ∀ i, i ≠ 320 → m6 i = σ i := fun i hi => by rw [e6, up2_ne hi]; exact hF i hi
          refine ih dep (k + 1) (fun i => if i = k then m else R i) m6 _ (by omega) (by omega) (by omega) ⟨fun i hi => ?_, fun i a1 hi => ?_, fun i hi i2 hi2 e => ?_, fun i hi => ?_⟩ (by unfold MN; rw [F6 301 (by omega)]; exact hM) (fun i hi => ?_) (fun σ' R' e1 hR' hlex hT' hF' => ⟨fun q => absurd q (by decide), fun _ => ?_⟩) (fun σ' hn' hT' hF' => ⟨fun _ => ?_, fun q => absurd rfl q⟩)
          · (try dsimp only)
            by_cases c : i = k
            · rw [if_pos c]; exact hm
            · rw [if_neg c]; exact p1 i (by omega)
          · (try dsimp only)
            rw [if_neg (show ¬ 0 = k by omega)]
            by_cases c : i = k
            · rw [if_pos c]; omega
            · rw [if_neg c]; exact p2 i a1 (by omega)
          · (try dsimp only at e)
            by_cases c : i = k
            · by_cases c2 : i2 = k
              · omega
              · rw [if_pos c, if_neg c2] at e
                exact absurd e.symm (hnew i2 (by omega))
            · by_cases c2 : i2 = k
              · rw [if_neg c, if_pos c2] at e
                exact absurd e (hnew i (by omega))
              · rw [if_neg c, if_neg c2] at e
                exact p3 i (by omega) i2 (by omega) e
          · (try dsimp only)
            rw [if_neg (show ¬ i = k by omega)]
            by_cases c : i + 1 = k
            · rw [if_pos c]
              rw [show k - 1 = i by omega] at hdm
              exact hdm
            · rw [if_neg c]; exact p4 i (by omega)
          · (try dsimp only)
            rw [e6, up2_app]
            by_cases c : i = k
            · rw [if_pos c, if_pos ⟨rfl, c⟩]
            · rw [if_neg c, if_neg (fun z => c z.2)]; exact hT i (by omega)
          · refine h1 σ' R' (fun i hi => by rw [e1 i (by omega)]; exact rk i hi) hR' (fun R2 h2 e2 q hq ha => ?_) hT' (fun i hi => by rw [hF' i hi]; exact F6 i hi)
            have ek' : R' k = m := by rw [e1 k (by omega)]; exact rkk
            rcases Nat.lt_trichotomy q k with c | c | c
            · rw [e1 q (by omega), if_neg (show ¬ q = k by omega), e2 q c]; exact Nat.le_refl _
            · rw [c, ek']
              have hk0 := h2.2.2.1 k hk (by omega)
              rw [e2 0 (by omega)] at hk0
              by_cases c3 : R2 k < m
              · exact absurd rfl (hno (R2 k) hk0 c3 R2 h2 e2)
              · omega
            · refine hlex R2 h2 (fun i hi => ?_) q hq ha
              (try dsimp only)
              by_cases c4 : i = k
              · rw [if_pos c4, c4, ← ek']; exact (ha k (by omega)).symm
              · rw [if_neg c4]; exact e2 i (by omega)
          · refine skip σ' (fun i hi => by rw [hT' i (by omega), if_neg (show ¬ i = k by omega)]) (fun i hi => by rw [hF' i hi]; exact F6 i hi) (fun R2 h2 e2 q => ?_)
            refine hn' R2 h2 (fun i hi => ?_)
            (try dsimp only)
            by_cases c4 : i = k
            · rw [if_pos c4, c4, q]
            · rw [if_neg c4]; exact e2 i (by omega)
    · rintro _ τ ⟨rfl, hT, hF, hno⟩ K
      dsimp only [wX11_isRing_41]
      have Mt : MN τ B := by unfold MN; rw [hF 301 (by omega)]; exact hM
      refine ⟨fun _ => h0 τ (fun R2 h2 e2 => ?_) hT hF, fun z => absurd z (by rw [Mt.1]; omega)⟩
      have hk0 := h2.2.2.1 k hk (by omega)
      rw [e2 0 (by omega)] at hk0
      exact hno (R2 k) hk0 (h2.2.1 k (by omega)) R2 h2 e2 rfl
theorem m_findRing {σ : Mem} {Q : Int → Mem → Prop} (hA : IvA B) (hZ : IvB B) (hM : MN σ B) (h0 : ∀ σ', NoRg (nN B) (deb B) → (∀ i, i ≠ 320 → σ' i = σ i) → Q 0 σ') (h1 : ∀ σ' n R, IsRg (nN B) (deb B) n R → (∀ i, i < n → σ' 320 i = ((R i : Nat) : Int)) → (∀ i, i ≠ 320 → σ' i = σ i) → Q ((n : Nat) : Int) σ') : wX11_findRing σ Q := by
  have hN := hA.1
  unfold wX11_findRing wLX11_findRing_2
  -- behind n = N + 1, or at 3 where there are two members
  refine lp_in (I := fun y τ => ∃ n : Nat, y = (n : Int) ∧ 3 ≤ n ∧ (∀ n' R, Rg (nN B) (deb B) n' R → n ≤ n') ∧ ∀ i, i ≠ 320 → τ i = σ i) (μ := fun y _ => (10 - y).toNat) ?_ _ _ ⟨3, rfl, by omega, fun n' R hR => hR.ge (by omega) hZ.1, fun _ _ => rfl⟩
  rintro y τ ⟨n, rfl, hn3, hmin, hF⟩ K hK
  dsimp only [wX11_findRing_2]
  have Mt : MN τ B := by unfold MN; rw [hF 301 (by omega)]; exact hM
  rw [Mt.1]
  refine ⟨fun z => h0 τ (fun n' R hR => by have := hmin n' R hR; have := hR.le; omega) hF, fun z => ?_⟩
  unfold wLX11_findRing_14
  refine lp_for (fun m y ρ => y = ((n : Int), (m : Int)) ∧ (∀ R, Rg (nN B) (deb B) n R → m ≤ R 0) ∧ ∀ i, i ≠ 320 → ρ i = σ i) (nN B) ?_ ?_ _ _ ⟨rfl, fun R _ => by omega, hF⟩
  · rintro m hm _ ρ ⟨rfl, hs, hF1⟩ K2 hK2
    dsimp only [wX11_findRing_14]
    have Mr : MN ρ B := by unfold MN; rw [hF1 301 (by omega)]; exact hM
    refine ⟨fun q => absurd q (by rw [Mr.1]; omega), fun _ => ?_⟩
    rintro m2 e2
    have F2 : ∀ i, i ≠ 320 → m2 i = σ i := fun i hi => by rw [e2, up2_ne hi]; exact hF1 i hi
    unfold wX11_isRing
    refine m_isRing (n := n) hA (by omega) (n - 1) 10 1 (fun _ => m) m2 _ (by omega) (by omega) (by omega) ⟨fun i hi => hm, fun i a1 a2 => by omega, fun i hi j hj _ => by omega, fun i hi => by omega⟩ (by unfold MN; rw [F2 301 (by omega)]; exact hM) (fun i hi => by rw [show i = 0 by omega, e2, up2_eq]) (fun σ' R' e1 hR' hlex hT' hF' => ⟨fun q => absurd q (by omega), fun _ => ?_⟩) (fun σ' hn' hT' hF' => ⟨fun _ => ?_, fun q => absurd rfl q⟩)
    · refine h1 σ' n R' ⟨hR', hmin, fun R2 h2 k hk ha => ?_⟩ hT' (fun i hi => by rw [hF' i hi]; exact F2 i hi)
      by_cases c : k = 0
      · rw [c, e1 0 (by omega)]; exact hs R2 h2
      · exact hlex R2 h2 (fun i hi => by rw [show i = 0 by omega, ← ha 0 (by omega)]; exact e1 0 (by omega)) k hk ha
    · rintro _ rfl
      refine hK2 _ _ ⟨by rw [w32_id (by omega) (by omega)]; rfl, fun R hR => ?_, fun i hi => by rw [hF' i hi]; exact F2 i hi⟩
      have a1 := hs R hR
      by_cases c : R 0 = m
      · exact absurd (fun i hi => by rw [show i = 0 by omega]; exact c) (hn' R hR)
      · omega
  · rintro _ ρ ⟨rfl, hs, hF1⟩ K2
    dsimp only [wX11_findRing_14]
    have Mr : MN ρ B := by unfold MN; rw [hF1 301 (by omega)]; exact hM
    refine ⟨fun _ => ?_, fun q => absurd q (by rw [Mr.1]; omega)⟩
    rintro _ rfl
    refine hK _ _ ⟨n + 1, by rw [w32_id (by omega) (by omega)]; rfl, by omega, fun n' R hR => ?_, hF1⟩ (by rw [w32_id (by omega) (by omega)]; omega)
    have a1 := hmin n' R hR
    by_cases c : n' = n
    · subst c
      have := hs R hR
      have := hR.2.1 0 (by omega)
      omega
    · omega
end MRING
