/-! the class's first ring -/
def nx (n : Nat) (R : Nat → Nat) (i : Nat) : Nat := if i + 1 < n then R (i + 1) else R 0
def rgL (d : Nat → Int) (n : Nat) (R : Nat → Nat) (c : Int) : Int := min (leastS d R c (n - 1)) (d (8 * R (n - 1) + R 0))
section CFIND
variable {B : Bk} {σ : Mem} {b n : Nat} {R : Nat → Nat}
theorem s_memAt {i : Nat} {Q : Int → Mem → Prop} (hn : n ≤ 8) (hR : ∀ i, i < n → σ 35 i = ((R i : Nat) : Int)) (hi : i < n) (h : Q ((R i : Nat) : Int) σ) : wX7_memberAt (i : Int) σ Q := by
  unfold wX7_memberAt
  rw [band7_all i (by omega)]
  refine ⟨⟨by omega, by omega⟩, ?_⟩
  rw [tn, hR i hi]
  exact h
theorem s_nextOn {i : Nat} {Q : Int → Mem → Prop} (hn : 1 ≤ n ∧ n ≤ 8) (e3 : σ 32 3 = (n : Int)) (hR : ∀ i, i < n → σ 35 i = ((R i : Nat) : Int)) (hi : i < n) (h : Q ((nx n R i : Nat) : Int) σ) : wX7_nextOnRing (i : Int) σ Q := by
  unfold wX7_nextOnRing
  rw [show w32 ((i : Int) + 1) = ((i + 1 : Nat) : Int) by rw [w32_id (by omega) (by omega)]; rfl, e3]
  unfold nx at h
  refine ⟨fun z => ?_, fun z => ?_⟩
  · rw [if_neg (by omega)] at h
    exact s_memAt (i := 0) hn.2 hR (by omega) h
  · rw [if_pos (by omega)] at h
    exact s_memAt hn.2 hR (by omega) h
/-- the least of a ring's debts, as far as k -/
def rgM (d : Nat → Int) (n : Nat) (R : Nat → Nat) (c : Int) (k : Nat) : Int := if k < n then leastS d R c k else rgL d n R c
theorem rgM_s {d : Nat → Int} {c : Int} {k : Nat} (hk : k < n) : rgM d n R c (k + 1) = min (rgM d n R c k) (d (8 * R k + nx n R k)) := by
  unfold rgM nx
  rw [if_pos hk]
  by_cases q : k + 1 < n
  · rw [if_pos q, if_pos q, leastS]
  · rw [if_neg q, if_neg q]
    unfold rgL
    rw [show n - 1 = k by omega]
theorem rg_nx (h : Rg (nN B) (deb B) n R) {i : Nat} (hi : i < n) : nx n R i < nN B ∧ R i < nN B ∧ 0 < deb B (8 * R i + nx n R i) := by
  obtain ⟨h1, h2, h3, h4, h5, h6⟩ := h
  unfold nx
  by_cases c : i + 1 < n
  · rw [if_pos c]; exact ⟨h2 _ c, h2 _ hi, h5 i c⟩
  · rw [if_neg c, show i = n - 1 by omega]; exact ⟨h2 0 (by omega), h2 _ (by omega), h6⟩
theorem rgL_cap {d : Nat → Int} {c c' : Int} (hn : 2 ≤ n) (h : ∀ i, i < 64 → d i ≤ c ∧ d i ≤ c') (hR : ∀ i, i < n → R i < 8) : rgL d n R c = rgL d n R c' := by
  unfold rgL
  have := (leastS_cap (s := d) (P := R) (c := c) (c' := c') (n - 1) (by omega) (fun j hj => h _ (lt64 (hR j (by omega)) (hR (j + 1) (by omega))))).1
  rw [this]
theorem owe_eq {u v : Nat} (h : 0 < deb B (8 * u + v)) : owe B u v = deb B (8 * u + v) := by unfold owe; omega
theorem s_leastOwed {Q : Int → Mem → Prop} (hC : CB b B σ) (hN : nN B ≤ 8) (hRg : Rg (nN B) (deb B) n R) (e3 : σ 32 3 = (n : Int)) (hR : ∀ i, i < n → σ 35 i = ((R i : Nat) : Int)) (h : Q (rgL (deb B) n R 1000000) σ) : wX7_leastOwed b σ Q := by
  have hle := hRg.le
  have h1 := hRg.1
  unfold wX7_leastOwed wLX7_leastOwed_5
  refine lp_for (fun k y τ => τ = σ ∧ y = (rgM (deb B) n R 1000000 k, (k : Int))) n ?_ ?_ _ _ ⟨rfl, ?_⟩
  · rintro k hk _ σ ⟨rfl, rfl⟩ K hK
    dsimp only [wX7_leastOwed_5]
    have q := rg_nx hRg hk
    refine ⟨fun z => absurd z (by rw [e3]; omega), fun _ => s_memAt (by omega) hR hk (s_nextOn ⟨h1, by omega⟩ e3 hR hk (s_owed (by omega) (by omega) hC ?_))⟩
    rintro _ rfl _ rfl
    refine hK _ _ ⟨rfl, ?_⟩
    rw [rgM_s hk, owe_eq q.2.2, w32_id (by omega) (by omega)]; rfl
  · rintro _ σ ⟨rfl, rfl⟩ K
    dsimp only [wX7_leastOwed_5]
    refine ⟨fun _ => ?_, fun z => absurd z (by rw [e3]; omega)⟩
    unfold rgM
    rw [if_neg (by omega)]; exact h
  · unfold rgM
    rw [if_pos (by omega)]; rfl
theorem s_find {Q : Int → Mem → Prop} (hb : 40 ≤ b) (hC : CB b B σ) (hI : IvA B) (hZ : IvB B) (h0 : ∀ σ', NoRg (nN B) (deb B) → (∀ i, ¬ (32 ≤ i ∧ i ≤ 35) → σ' i = σ i) → Q 0 σ') (h1 : ∀ σ' n R, IsRg (nN B) (deb B) n R → σ' 32 3 = (n : Int) → (∀ i, i < n → σ' 35 i = ((R i : Nat) : Int)) → σ' 32 4 = rgL (deb B) n R 9999 → (∀ i, ¬ (32 ≤ i ∧ i ≤ 35) → σ' i = σ i) → Q 1 σ') : wX7_find b σ Q := by
  have hN := hI.1
  unfold wX7_find
  rintro m1 e1
  have g3 : m1 32 3 = 9 := by rw [e1, up2_eq]
  have gf : ∀ i, ¬ (32 ≤ i ∧ i ≤ 35) → m1 i = σ i := fun i hi => by rw [e1, up2_ne (by omega)]
  clear e1
  unfold wLX7_find_10
  refine lp_for (fun k y τ => (∃ st : Int, y = (st, (k : Int)) ∧ ((st = -1 ∧ τ 32 3 = 9 ∧ ∀ n R, Rg (nN B) (deb B) n R → k ≤ R 0) ∨ ∃ u mn : Nat, st = (u : Int) ∧ u < k ∧ τ 32 3 = (mn : Int) ∧ (∃ R, Rg (nN B) (deb B) mn R ∧ R 0 = u) ∧ ∀ n R, Rg (nN B) (deb B) n R → R 0 < k → mn ≤ n ∧ (n = mn → u ≤ R 0))) ∧ ∀ i, ¬ (32 ≤ i ∧ i ≤ 35) → τ i = σ i) (nN B) ?_ ?_ _ _ ⟨⟨-1, rfl, Or.inl ⟨rfl, g3, fun n R _ => by omega⟩⟩, gf⟩
  · rintro k hk _ τ ⟨⟨st, rfl, hc⟩, hF⟩ K hK
    dsimp only [wX7_find_10]
    have Ct : CB b B τ := hC.fr (fun i a1 a2 => hF i (by omega))
    have wk : w32 ((k : Int) + 1) = ((k + 1 : Nat) : Int) := by rw [w32_id (by omega) (by omega)]; rfl
    rw [wk]
    refine ⟨fun z => absurd z (by rw [Ct.1]; omega), fun _ => s_lengthFrom hb Ct (by omega) hZ hk (fun σ2 ln hl f2 => ?_)⟩
    have f2' : ∀ i, ¬ (32 ≤ i ∧ i ≤ 35) → σ2 i = σ i := fun i hi => by rw [f2 i (by omega) (by omega)]; exact hF i hi
    have e32 : σ2 32 = τ 32 := f2 32 (by omega) (by omega)
    obtain ⟨lb, l0, l1⟩ := hl
    refine ⟨fun z => ?_, fun z => ⟨fun z2 => ?_, fun z2 => ?_⟩⟩
    · rintro _ rfl
      have nr := l0 (by omega)
      refine hK _ _ ⟨⟨st, rfl, ?_⟩, f2'⟩
      rcases hc with ⟨a1, a2, a3⟩ | ⟨u, mn, a1, a2, a3, a4, a5⟩
      · exact Or.inl ⟨a1, by rw [e32]; exact a2, fun n R hR => by have := a3 n R hR; have := nr n R hR; omega⟩
      · exact Or.inr ⟨u, mn, a1, by omega, by rw [e32]; exact a3, a4, fun n R hR h0 => a5 n R hR (by have := nr n R hR; omega)⟩
    · rintro _ rfl
      obtain ⟨⟨R1, hR1, r1⟩, lm⟩ := l1 (by omega)
      refine hK _ _ ⟨⟨st, rfl, ?_⟩, f2'⟩
      rw [e32] at z2
      rcases hc with ⟨a1, a2, a3⟩ | ⟨u, mn, a1, a2, a3, a4, a5⟩
      · omega
      · refine Or.inr ⟨u, mn, a1, by omega, by rw [e32]; exact a3, a4, fun n R hR h0 => ?_⟩
        by_cases c : R 0 = k
        · have := lm n R hR c
          exact ⟨by omega, fun _ => by omega⟩
        · exact a5 n R hR (by omega)
    · rintro m8 e8 _ rfl
      obtain ⟨⟨R1, hR1, r1⟩, lm⟩ := l1 (by omega)
      refine hK _ _ ⟨⟨(k : Int), rfl, Or.inr ⟨k, ln.toNat, rfl, by omega, by rw [e8, up2_eq]; omega, ⟨R1, hR1, r1⟩, fun n R hR h0 => ?_⟩⟩, fun i hi => by rw [e8, up2_ne (by omega)]; exact f2' i hi⟩
      rw [e32] at z2
      by_cases c : R 0 = k
      · have := lm n R hR c
        exact ⟨by omega, fun _ => by omega⟩
      · rcases hc with ⟨a1, a2, a3⟩ | ⟨u, mn, a1, a2, a3, a4, a5⟩
        · have := a3 n R hR
          omega
        · have := (a5 n R hR (by omega)).1
          exact ⟨by omega, fun q => by omega⟩
  · rintro _ τ ⟨⟨st, rfl, hc⟩, hF⟩ K
    dsimp only [wX7_find_10]
    have Ct : CB b B τ := hC.fr (fun i a1 a2 => hF i (by omega))
    refine ⟨fun _ => ?_, fun z => absurd z (by rw [Ct.1]; omega)⟩
    rcases hc with ⟨a1, a2, a3⟩ | ⟨u, mn, a1, a2, a3, a4, a5⟩
    · subst a1
      refine ⟨fun z => absurd z (by decide), fun _ => ?_⟩
      rintro m3 e3
      refine h0 m3 (fun n R hR => ?_) (fun i hi => by rw [e3, up2_ne (by omega)]; exact hF i hi)
      have := a3 n R hR
      have := hR.2.1 0 (by have := hR.1; omega)
      omega
    · subst a1
      refine ⟨fun _ => ?_, fun z => absurd (by omega) z⟩
      obtain ⟨R1, hR1, r1⟩ := a4
      have a5' : ∀ n R, Rg (nN B) (deb B) n R → mn ≤ n ∧ (n = mn → u ≤ R 0) := fun n R hR => a5 n R hR (hR.2.1 0 (by have := hR.1; omega))
      have h3 := hR1.ge (by omega) hZ.1
      have hle := hR1.le
      refine s_rmeasure hb Ct (by omega) a2 (fun σ2 hD f2 => ?_)
      -- how far they are on a ring that is least
      have far : ∀ R, Rg (nN B) (deb B) mn R → R 0 = u → ∀ i, 1 ≤ i → i < mn → σ2 33 (R i) = (mn : Int) - i := by
        intro R hR hs
        have q1 := rg_1 (by omega) hZ hD hR hs
        obtain ⟨R2, hR2, r2, _⟩ := far_rg (by omega) a2 hD q1.2.1 q1.2.2.2.1 q1.2.2.2.2.2 (k := (σ2 33 (R 1)).toNat) (by omega)
        have q2 := (a5' _ _ hR2).1
        intro i
        induction i with
        | zero => intro h; omega
        | succ i ih =>
          intro _ hi
          have up := rg_far (by omega) hD hR hs (mn - (i + 1)) (i + 1) (by omega) (by omega) hi
          by_cases c : i = 0
          · subst c
            rw [show 0 + 1 = 1 from rfl] at up ⊢
            omega
          · have ihh := ih (by omega) (by omega)
            have b1 := hR.2.1 i (by omega)
            have b2 := hR.2.1 (i + 1) hi
            have g1 := hR.2.2.1 i (by omega) (by omega)
            have g2 := hR.2.2.1 (i + 1) (by omega) hi
            have dd := hR.2.2.2.2.1 i hi
            have := hD.2.2.2 (R i) b1 (R (i + 1)) b2 up.1 (by rw [rs_uv (by omega), if_pos (by omega)]; omega)
            omega
      have e32 : σ2 32 = τ 32 := f2 32 (by omega) (by omega)
      rintro m3 e3
      have n3 : m3 32 3 = (mn : Int) := by rw [e3, up2_ne (by omega), e32]; exact a3
      have n35 : m3 35 0 = (u : Int) := by rw [e3, up2_eq]
      have n33 : m3 33 = σ2 33 := by rw [e3, up2_ne (by omega)]
      have nf : ∀ i, ¬ (32 ≤ i ∧ i ≤ 35) → m3 i = σ i := fun i hi => by rw [e3, up2_ne (by omega), f2 i (by omega) (by omega)]; exact hF i hi
      clear e3
      unfold wLX7_find_83
      refine lp_from (fun k y ρ => ∃ P : Nat → Nat, y = ((u : Int), ((P (k - 1) : Nat) : Int), (k : Int)) ∧ P 0 = u ∧ (∀ i, i < k → P i < nN B ∧ ρ 35 i = ((P i : Nat) : Int)) ∧ (∀ i, 1 ≤ i → i < k → σ2 33 (P i) = (mn : Int) - i ∧ u < P i) ∧ (∀ i, i + 1 < k → 0 < deb B (8 * P i + P (i + 1)) ∧ ∀ w, u < w → w < P (i + 1) → ¬ (σ2 33 w = (mn : Int) - (i + 1) ∧ 0 < deb B (8 * P i + w))) ∧ ρ 32 3 = (mn : Int) ∧ ρ 33 = σ2 33 ∧ ∀ i, ¬ (32 ≤ i ∧ i ≤ 35) → ρ i = σ i) 1 mn (by omega) ?_ ?_ _ _ ⟨fun _ => u, rfl, rfl, fun i hi => ⟨a2, by rw [show i = 0 by omega]; exact n35⟩, fun i h1 h2 => by omega, fun i hi => by omega, n3, n33, nf⟩
      · rintro k hk1 hk _ ρ ⟨P, rfl, p0, p1, p2, p3, r3, r33, rf⟩ K2 hK2
        dsimp only [wX7_find_83]
        have Cr : CB b B ρ := hC.fr (fun i a1 a2 => rf i (by omega))
        have pk := (p1 (k - 1) (by omega)).1
        refine ⟨fun z => absurd z (by rw [r3]; omega), fun _ => ⟨(fun hno => absurd hno (by omega)), fun _ => ?_⟩⟩
        rw [r3, w32_id (a := (mn : Int) - k) (by omega) (by omega)]
        have hex : ∃ v, u < v ∧ v < nN B ∧ ρ 33 v = (mn : Int) - k ∧ 0 < deb B (8 * P (k - 1) + v) := by
          rw [r33]
          by_cases c : k = 1
          · subst c
            have q1 := rg_1 (by omega) hZ hD hR1 r1
            refine ⟨R1 1, q1.2.2.1, q1.2.1, far R1 hR1 r1 1 (by omega) (by omega), ?_⟩
            rw [show 1 - 1 = 0 from rfl, p0]; exact q1.2.2.2.2.2
          · have q2 := p2 (k - 1) (by omega) (by omega)
            obtain ⟨_, v, hv, dv, xv⟩ := hD.2.2.1 (P (k - 1)) pk (by omega) (by rw [q2.1]; omega)
            have dv' : σ2 33 v = (mn : Int) - k := by rw [dv, q2.1]; omega
            have hv2 := hD.st (by omega) hv (by omega)
            refine ⟨v, hv2, hv, dv', ?_⟩
            rw [rs_uv (by omega)] at xv
            by_cases c2 : u < P (k - 1) ∧ u ≤ v
            · rw [if_pos c2] at xv; omega
            · rw [if_neg c2] at xv; omega
        refine s_rnext Cr (by omega) a2 (by omega) hex (fun v hv1 hv dv xv hw => ⟨⟨by omega, by omega⟩, ?_⟩)
        rw [r33] at dv hw
        rintro m4 e4 _ rfl
        rw [tn] at e4
        refine hK2 _ _ ⟨fun i => if i = k then v else P i, ?_, by (try dsimp only); rw [if_neg (by omega)]; exact p0, fun i hi => ?_, fun i h1 hi => ?_, fun i hi => ?_, by rw [e4, up2_ne (by omega)]; exact r3, by rw [e4, up2_ne (by omega)]; exact r33, fun i hi => by rw [e4, up2_ne (by omega)]; exact rf i hi⟩
        · (try dsimp only)
          rw [if_pos (by omega), w32_id (by omega) (by omega)]; rfl
        · (try dsimp only)
          rw [e4, up2_app]
          by_cases c : i = k
          · rw [if_pos c, if_pos ⟨rfl, c⟩]; exact ⟨hv, rfl⟩
          · rw [if_neg c, if_neg (fun z => c z.2)]; exact p1 i (by omega)
        · (try dsimp only)
          by_cases c : i = k
          · rw [if_pos c, c]; exact ⟨dv, hv1⟩
          · rw [if_neg c]; exact p2 i h1 (by omega)
        · (try dsimp only)
          rw [if_neg (show ¬ i = k by omega)]
          by_cases c : i + 1 = k
          · rw [if_pos c]
            rw [show k - 1 = i by omega] at xv hw
            refine ⟨xv, fun w b1 b2 b3 => hw w b1 b2 ⟨by rw [b3.1]; omega, b3.2⟩⟩
          · rw [if_neg c]; exact p3 i (by omega)
      · rintro _ ρ ⟨P, rfl, p0, p1, p2, p3, r3, r33, rf⟩ K2
        dsimp only [wX7_find_83]
        have Cr : CB b B ρ := hC.fr (fun i a1 a2 => rf i (by omega))
        refine ⟨fun _ => ?_, fun z => absurd z (by rw [r3]; omega)⟩
        have ql := p2 (mn - 1) (by omega) (by omega)
        have hcl : 0 < deb B (8 * P (mn - 1) + P 0) := by
          obtain ⟨_, v, hv, dv, xv⟩ := hD.2.2.1 (P (mn - 1)) (p1 (mn - 1) (by omega)).1 (by omega) (by rw [ql.1]; omega)
          have ez : v = u := hD.z hv (by rw [dv, ql.1]; omega)
          rw [ez, rs_uv (by omega)] at xv
          rw [p0]
          by_cases c2 : u < P (mn - 1) ∧ u ≤ u
          · rw [if_pos c2] at xv; omega
          · rw [if_neg c2] at xv; omega
        have hRg : Rg (nN B) (deb B) mn P := by
          refine ⟨by omega, fun i hi => (p1 i hi).1, fun i h1 hi => by rw [p0]; exact (p2 i h1 hi).2, fun i hi j hj e => ?_, fun i hi => (p3 i hi).1, hcl⟩
          by_cases c1 : i = 0
          · by_cases c2 : j = 0
            · omega
            · have := (p2 j (by omega) hj).2
              rw [← e, c1, p0] at this; omega
          · by_cases c2 : j = 0
            · have := (p2 i (by omega) hi).2
              rw [e, c2, p0] at this; omega
            · have b1 := (p2 i (by omega) hi).1
              have b2 := (p2 j (by omega) hj).1
              rw [e] at b1; omega
        have hfirst : IsRg (nN B) (deb B) mn P := by
          refine ⟨hRg, fun n' R' h' => (a5' n' R' h').1, fun R' h' k hk ha => ?_⟩
          by_cases c : k = 0
          · rw [c, p0]; exact (a5' mn R' h').2 rfl
          · have s0 : R' 0 = u := by rw [← ha 0 (by omega), p0]
            have d1 := far R' h' s0 k (by omega) hk
            have g1 := h'.2.2.1 k (by omega) hk
            have dd := h'.2.2.2.2.1 (k - 1) (by omega)
            rw [show k - 1 + 1 = k by omega, ← ha (k - 1) (by omega)] at dd
            have := (p3 (k - 1) (by omega)).2 (R' k) (by omega)
            rw [show k - 1 + 1 = k by omega] at this
            by_cases c2 : P k ≤ R' k
            · exact c2
            · exfalso
              exact this (by omega) ⟨by rw [d1]; omega, dd⟩
        unfold wX7_find_128
        refine s_leastOwed Cr (by omega) hRg r3 (fun i hi => (p1 i hi).2) ?_
        rintro m5 e5
        refine h1 m5 mn P hfirst (by rw [e5, up2_nj (by omega)]; exact r3) (fun i hi => by rw [e5, up2_ne (by omega)]; exact (p1 i hi).2) ?_ (fun i hi => by rw [e5, up2_ne (by omega)]; exact rf i hi)
        rw [e5, up2_eq]
        exact rgL_cap (by omega) (fun i hi => by have := hI.2.2.1 i hi; omega) (fun i hi => by have := (p1 i hi).1; omega)
end CFIND
