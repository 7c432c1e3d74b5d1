/-! the reference reads a club -/
theorem MSt.rd {X : St} {σ σ' : Mem} (h : MSt X σ) (hi : ∀ i, i ≠ 300 → i ≠ 310 → i ≠ 311 → σ' i = σ i) (hj : ∀ j, j ≠ 7 → j ≠ 8 → σ' 300 j = σ 300 j) : MSt X σ' := h.fr (fun j q => hj j (by omega) (by omega)) (fun i q => hi i (by omega) (by omega) (by omega))
theorem m_readClub {X : St} {σ : Mem} {Q : Int → Mem → Prop} {T : List Int} (hT : TB T) (hX : X.2.2.1.length ≤ 8) (hM : MSt X σ) (hP : PS T 0 (-1) σ) (h0 : ¬ (2 ≤ dg T 0 ∧ dg T 0 ≤ 8) → ∀ σ', MSt X σ' → (∀ i, i < 300 ∨ i = 340 → σ' i = σ i) → Q (-1) σ') (h1 : ∀ (n e : Nat) σ', (n : Int) = dg T 0 → 2 ≤ n → n ≤ 8 → (clubR T n).1 = some e → MSt X σ' → (∀ i, i < 300 ∨ i = 340 → σ' i = σ i) → Q (-1 - (e : Int)) σ') (h2 : ∀ (n : Nat) σ', (n : Int) = dg T 0 → 2 ≤ n → n ≤ 8 → (clubR T n).1 = none → MSt (wBP X (clubB n (clubR T n).2.1) (pushP X.2.2.1 X.1)) σ' → (∀ i, i < 300 ∨ i = 340 → σ' i = σ i) → Q ((clubR T n).2.2 : Int) σ') : wLX11_club_11 Q 0 σ := by
  have tl := hT.2
  unfold wLX11_club_11
  refine lp_for (fun k y τ => y = (k : Int) ∧ (∀ i, i < k → τ 311 i = -1) ∧ ∀ i, i ≠ 311 → τ i = σ i) 64 ?_ ?_ _ _ ⟨rfl, fun i hi => by omega, fun _ _ => rfl⟩
  · rintro k hk _ τ ⟨rfl, hZ, hF⟩ K hK
    dsimp only [wX11_club_11]
    refine ⟨(fun hno => absurd hno (by omega)), fun _ => ⟨⟨by omega, by omega⟩, ?_⟩⟩
    rintro m4 e4 _ rfl
    rw [tn] at e4
    refine hK _ _ ⟨by rw [w32_id (by omega) (by omega)]; rfl, fun i hi => ?_, fun i hi => by rw [e4, up2_ne hi]; exact hF i hi⟩
    rw [e4, up2_app]
    split
    · rfl
    · exact hZ i (by omega)
  · rintro _ τ ⟨rfl, hZ, hF⟩ K
    dsimp only [wX11_club_11]
    refine ⟨fun _ => ?_, (fun hno => absurd hno (by omega))⟩
    have Mt : MSt X τ := hM.rd (fun i _ _ a => hF i a) (fun j _ _ => by rw [hF 300 (by omega)])
    have Pt : PS T 0 (-1) τ := hP.fr (fun j _ => by rw [hF 300 (by omega)]) (hF 302 (by omega))
    have Ft : ∀ i, i < 300 ∨ i = 340 → τ i = σ i := fun i hi => hF i (by omega)
    -- the end of a text that is wrong
    have bad : ∀ (n l : Int) (a e : Nat) (ρ : Mem), MSt X ρ → PS T a (e : Int) ρ → (∀ i, i < 300 ∨ i = 340 → ρ i = σ i) → (∀ σ', MSt X σ' → (∀ i, i < 300 ∨ i = 340 → σ' i = σ i) → Q (w32 (-1 - (e : Int))) σ') → wX11_club_155 Q n l ρ := by
      intro n l a e ρ Mr Pr Fr hq
      unfold wX11_club_155
      refine m_wasRight Pr (fun q => absurd q (by omega)) (fun _ σ' P' F' => ⟨fun q => absurd rfl q, fun _ => ?_⟩)
      rw [if_neg (by omega)] at P'
      rw [P'.2.2.2]
      exact hq σ' (Mr.rd (fun i a1 _ _ => F'.1 i a1) F'.2) (fun i hi => by rw [F'.1 i (by omega)]; exact Fr i hi)
    have sd : (dg T 0 : Int) = if 48 ≤ sgn T 0 ∧ sgn T 0 ≤ 57 then sgn T 0 - 48 else -1 := rfl
    refine m_oneOf (f := 50) (m := 7) (by omega) (by omega) hT Pt (fun q => absurd rfl q) (fun _ z1 z2 σ1 P1 F1 => ?_) (fun _ z σ1 P1 F1 => ?_)
    · rw [if_pos (by omega)] at sd
      obtain ⟨n, en⟩ : ∃ n : Nat, dg T 0 = (n : Int) := ⟨(dg T 0).toNat, by omega⟩
      have hn : 2 ≤ n ∧ n ≤ 8 := by omega
      rintro _ rfl
      rw [show w32 (sgn T 0 - ((50 : Nat) : Int) + 2) = (n : Int) by rw [w32_id (by omega) (by omega)]; omega]
      have M1 : MSt X σ1 := Mt.rd (fun i a1 _ _ => F1.1 i a1) F1.2
      have t1 : ∀ i, i < 64 → σ1 311 i = (fun _ : Nat => (-1 : Int)) i := fun i hi => by rw [F1.1 311 (by omega)]; exact hZ i hi
      have f1 : ∀ i, i < 300 ∨ i = 340 → σ1 i = σ i := fun i hi => by rw [F1.1 i (by omega)]; exact Ft i hi
      unfold wLX11_club_46
      refine lp_in (I := fun y ρ => ∃ (f p : Nat) (told : Nat → Int) (l : Nat), y = ((n : Int), (l : Int)) ∧ MSt X ρ ∧ (∀ i, i < 300 ∨ i = 340 → ρ i = σ i) ∧ ((PS T p (-1) ρ ∧ (p = 1 + 5 * l ∧ p ≤ 85 ∧ 80 ≤ p + 5 * f) ∧ clubF T n f p told l = clubR T n ∧ ToldOK n told ∧ ∀ i, i < 64 → ρ 311 i = told i) ∨ ∃ e : Nat, PS T p (e : Int) ρ ∧ (clubR T n).1 = some e ∧ e ≤ 1000)) (μ := fun _ ρ => if ρ 300 8 = -1 then (200 - ρ 300 7).toNat + 1 else 0) ?_ _ _ ⟨20, 1, fun _ => -1, 0, rfl, M1, f1, Or.inl ⟨P1, by omega, rfl, fun i _ => ⟨by (try dsimp only); omega, fun _ => rfl⟩, t1⟩⟩
      rintro y ρ ⟨f, p, told, l, rfl, Mr, Fr, hc⟩ K2 hK2
      dsimp only [wX11_club_46]
      rcases hc with ⟨Pr, hp, hfin, hO, hto⟩ | ⟨e, Pr, he, heb⟩
      · refine m_fine Pr (fun _ => ⟨fun q => absurd q (by decide), fun _ => ?_⟩) (fun q => absurd rfl q)
        rw [Pr.1, Pr.2.2.1]
        have b1 := ltr_b (T := T) p n
        have b2 := ltr_b (T := T) (p + 1) n
        refine ⟨fun z => ?_, fun z => ?_⟩
        · -- all is read
          rw [clubF_end (by omega)] at hfin
          unfold wX11_club_155
          refine m_wasRight Pr (fun _ _ => ⟨fun _ => ?_, fun q => absurd q (by decide)⟩) (fun q => absurd ⟨rfl, by omega⟩ q)
          refine mo_change2 Mr hX (fun σ3 M3 f3 j3 => ?_)
          unfold wLX11_club_175
          refine lp_for (fun k y τ => y = ((n : Int), (l : Int), (k : Int)) ∧ (∀ i, i < k → τ 301 i = 0) ∧ ∀ i, i ≠ 301 → τ i = σ3 i) 405 ?_ ?_ _ _ ⟨rfl, fun i hi => by omega, fun _ _ => rfl⟩
          · rintro k hk _ τ2 ⟨rfl, hz, hF2⟩ K3 hK3
            dsimp only [wX11_club_175]
            refine ⟨(fun hno => absurd hno (by omega)), fun _ => ⟨⟨by omega, by omega⟩, ?_⟩⟩
            rintro m2 e2 _ rfl
            rw [tn] at e2
            refine hK3 _ _ ⟨by rw [w32_id (by omega) (by omega)]; rfl, fun i hi => ?_, fun i hi => by rw [e2, up2_ne hi]; exact hF2 i hi⟩
            rw [e2, up2_app]
            split
            · rfl
            · exact hz i (by omega)
          · rintro _ τ2 ⟨rfl, hz, hF2⟩ K3
            dsimp only [wX11_club_175]
            refine ⟨fun _ => ?_, (fun hno => absurd hno (by omega))⟩
            rintro m1 e1
            unfold wLX11_club_204
            refine lp_for (fun k y τ => y = ((l : Int), (k : Int)) ∧ (∀ j, j < 405 → τ 301 j = if j = 0 then (n : Int) else if j < 1 + k then max 0 (told (j - 1)) else 0) ∧ ∀ i, i ≠ 301 → τ i = σ3 i) 64 ?_ ?_ _ _ ⟨rfl, fun j hj => ?_, fun i hi => by rw [e1, up2_ne hi]; exact hF2 i hi⟩
            · rintro k hk _ τ3 ⟨rfl, hz3, hF3⟩ K4 hK4
              dsimp only [wX11_club_204]
              rw [w32n (1 + k) (by omega) (by omega), tn, tn]
              have e311 : τ3 311 k = told k := by rw [hF3 311 (by omega), f3 311 (by omega) (by omega) (by omega)]; exact hto k hk
              rw [e311]
              refine ⟨(fun hno => absurd hno (by omega)), fun _ => ⟨⟨by omega, by omega⟩, ⟨by omega, by omega⟩, ?_⟩⟩
              rintro m2 e2 _ rfl
              refine hK4 _ _ ⟨by rw [w32_id (by omega) (by omega)]; rfl, fun j hj => ?_, fun i hi => by rw [e2, up2_ne hi]; exact hF3 i hi⟩
              rw [e2, up2_app]
              by_cases c : j = 1 + k
              · rw [if_pos ⟨rfl, c⟩, if_neg (by omega), if_pos (by omega), show j - 1 = k by omega]
              · rw [if_neg (fun q => c q.2), hz3 j hj]
                by_cases c2 : j = 0
                · rw [if_pos c2, if_pos c2]
                · rw [if_neg c2, if_neg c2]
                  by_cases c3 : j < 1 + k
                  · rw [if_pos c3, if_pos (by omega)]
                  · rw [if_neg c3, if_neg (by omega)]
            · rintro _ τ3 ⟨rfl, hz3, hF3⟩ K4
              dsimp only [wX11_club_204]
              refine ⟨fun _ => ?_, (fun hno => absurd hno (by omega))⟩
              have MN3 : MN τ3 (clubB n told) := by
                refine ⟨?_, fun i hi => ?_, fun i hi => ?_, fun i hi => ?_, fun p hp => ⟨fun k hk => ?_, fun i hi => ?_⟩⟩
                · rw [hz3 0 (by omega), if_pos rfl]; rfl
                · rw [hz3 _ (by omega), if_neg (by omega), if_pos (by omega), show 0 + 1 + i - 1 = i by omega]; rfl
                · rw [hz3 _ (by omega), if_neg (by omega), if_neg (by omega)]; rfl
                · rw [hz3 _ (by omega), if_neg (by omega), if_neg (by omega)]; rfl
                · rw [hz3 _ (by omega), if_neg (by omega), if_neg (by omega)]; rfl
                · rw [hz3 _ (by omega), if_neg (by omega), if_neg (by omega)]; rfl
              have MS3 := M3.now MN3 hF3
              have q := h2 n τ3 en.symm hn.1 hn.2 (by rw [← hfin]) (by rw [← hfin]; exact MS3) (fun i hi => by rw [hF3 i (by omega), f3 i (by omega) (by omega) (by omega)]; exact Fr i hi)
              rw [← hfin] at q
              exact q
            · by_cases c : j = 0
              · rw [if_pos c, c, e1, up2_eq]
              · rw [if_neg c, if_neg (by omega), e1, up2_nj c]; exact hz j hj
        · -- one line more
          have hpl : ¬ T.length ≤ p := by omega
          have hf1 : 1 ≤ f := by omega
          have fail : ∀ (a e : Nat) (τ2 : Mem), cstep T n told p = some e → e ≤ 1000 → PS T a (e : Int) τ2 → MSt X τ2 → (∀ i, i < 300 ∨ i = 340 → τ2 i = σ i) → K2 ((n : Int), (l : Int)) τ2 := fun a e τ2 he hb P2 M2 F2 => by
            refine hK2 _ _ ⟨f, a, told, l, rfl, M2, F2, Or.inr ⟨e, P2, by rw [← hfin, clubF_err hpl hf1 he], hb⟩⟩ ?_
            (try dsimp only)
            rw [if_neg (by rw [P2.2.2.2]; omega), if_pos (by rw [Pr.2.2.2])]
            omega
          have bad119 : ∀ (l3 l4 : Int) (a e : Nat) (τ2 : Mem), cstep T n told p = some e → e ≤ 1000 → PS T a (e : Int) τ2 → MSt X τ2 → (∀ i, i < 300 ∨ i = 340 → τ2 i = σ i) → wX11_club_119 K2 Q (n : Int) (l : Int) l3 l4 τ2 := fun l3 l4 a e τ2 he hb P2 M2 F2 => by
            unfold wX11_club_119
            exact m_digits (k := 3) (by omega) hT P2 (fun q => m_fine P2 (fun q => absurd q (by omega)) (fun _ => ⟨fun q => absurd rfl q, fun _ => fail a e τ2 he hb P2 M2 F2⟩)) (fun q => absurd q (by omega)) (fun q => absurd q (by omega))
          have e97 : ∀ q : Nat, ((97 : Nat) : Int) ≤ sgn T q → sgn T q < ((97 : Nat) : Int) + (n : Int) → ltr T q n = sgn T q - 97 := fun q a1 a2 => by unfold ltr; rw [if_pos (by omega)]
          have n97 : ∀ q : Nat, ¬ (((97 : Nat) : Int) ≤ sgn T q ∧ sgn T q < ((97 : Nat) : Int) + (n : Int)) → ltr T q n = -1 := fun q a1 => by unfold ltr; rw [if_neg (by omega)]
          refine m_oneOf (f := 97) (m := n) (by omega) (by omega) hT Pr (fun q => absurd rfl q) (fun _ x1 x2 σ3 P3 F3 => ?_) (fun _ x1 σ3 P3 F3 => ?_)
          · have M3 : MSt X σ3 := Mr.rd (fun i a1 _ _ => F3.1 i a1) F3.2
            have f3 : ∀ i, i < 300 ∨ i = 340 → σ3 i = σ i := fun i hi => by rw [F3.1 i (by omega)]; exact Fr i hi
            have ea := e97 p x1 x2
            obtain ⟨u, eu⟩ : ∃ u : Nat, sgn T p - ((97 : Nat) : Int) = (u : Int) := ⟨(sgn T p - 97).toNat, by omega⟩
            rw [eu]
            refine m_oneOf (f := 97) (m := n) (by omega) (by omega) hT P3 (fun q => absurd rfl q) (fun _ x3 x4 σ4 P4 F4 => ?_) (fun _ x3 σ4 P4 F4 => ?_)
            · have M4 : MSt X σ4 := M3.rd (fun i a1 _ _ => F4.1 i a1) F4.2
              have f4 : ∀ i, i < 300 ∨ i = 340 → σ4 i = σ i := fun i hi => by rw [F4.1 i (by omega)]; exact f3 i hi
              have eb := e97 (p + 1) x3 x4
              obtain ⟨v, ev⟩ : ∃ v : Nat, sgn T (p + 1) - ((97 : Nat) : Int) = (v : Int) := ⟨(sgn T (p + 1) - 97).toNat, by omega⟩
              rw [ev]
              have hu : u < 8 := by omega
              have hv : v < 8 := by omega
              have eI : cIdx T n p = 8 * u + v := by unfold cIdx; rw [show (ltr T p n).toNat = u by omega, show (ltr T (p + 1) n).toNat = v by omega]
              have e311 : ∀ i, i < 64 → σ4 311 i = told i := fun i hi => by rw [F4.1 311 (by omega), F3.1 311 (by omega)]; exact hto i hi
              have w109 : (u = v ∨ told (8 * u + v) ≠ -1) → wX11_club_109 K2 Q (n : Int) (l : Int) (u : Int) (v : Int) σ4 := fun q => by
                unfold wX11_club_109
                rw [P4.2.2.1, show w32 (((p + 1 + 1 : Nat) : Int) - 1) = ((p + 1 : Nat) : Int) by rw [w32_id (by omega) (by omega)]; omega]
                refine m_fault P4 (fun σ5 P5 F5 => ?_)
                rw [if_pos rfl] at P5
                refine bad119 _ _ _ (p + 1) σ5 ?_ (by omega) P5 (M4.rd (fun i a1 _ _ => F5.1 i a1) F5.2) (fun i hi => by rw [F5.1 i (by omega)]; exact f4 i hi)
                unfold cstep
                rw [if_neg (by omega), if_pos]
                rcases q with q | q
                · exact Or.inr (Or.inl (by omega))
                · exact Or.inr (Or.inr (by rw [eI]; exact q))
              refine m_fine P4 (fun _ => ⟨fun q => absurd q (by decide), fun _ => ⟨fun y3 => w109 (Or.inl (by omega)), fun y3 => m_pair hu hv ⟨rg64 hu hv, ?_⟩⟩⟩) (fun q => absurd rfl q)
              rw [tn, e311 _ (lt64 hu hv)]
              refine ⟨fun y4 => ?_, fun y4 => w109 (Or.inr y4)⟩
              have cs : cstep T n told p = numE T (p + 2) 3 := by unfold cstep; rw [if_neg (by omega), if_neg (fun q => by rcases q with q | q | q <;> first | omega | (rw [eI] at q; exact q y4))]
              unfold wX11_club_119
              refine m_digits (k := 3) (by omega) hT P4 (fun q => absurd rfl q) (fun _ hE σ5 P5 F5 => ?_) (fun _ e hE v0 σ5 P5 F5 => ?_)
              · rw [show p + 1 + 1 = p + 2 by omega] at hE P5 ⊢
                have nb := numA_b (T := T) (p := p + 2) 3 (by omega) (numE_none hE)
                rw [hE] at cs
                refine m_fine P5 (fun _ => ⟨fun _ => m_pair hu hv ⟨rg64 hu hv, ?_⟩, fun q => absurd q (by decide)⟩) (fun q => absurd rfl q)
                rw [tn]
                rintro m7 e7 _ rfl
                rw [clubF_go hpl hf1 cs] at hfin
                have ts := told_set hn.2 hO cs
                have M7 : MSt X m7 := M4.rd (fun i a1 a2 a3 => by rw [e7, up2_ne a3]; exact F5.1 i a1) (fun j a1 a2 => by rw [e7, up2_ne (by omega)]; exact F5.2 j a1 a2)
                have P7 : PS T (p + 5) (-1) m7 := P5.fr (fun j _ => by rw [e7, up2_ne (by omega)]) (by rw [e7, up2_ne (by omega)])
                refine hK2 _ _ ⟨f - 1, p + 5, up1 told (cIdx T n p) (numA T (p + 2) 3), l + 1, by rw [w32_id (by omega) (by omega)]; rfl, M7, fun i hi => by rw [e7, up2_ne (by omega), F5.1 i (by omega)]; exact f4 i hi, Or.inl ⟨P7, by omega, hfin, ts.1, fun i hi => ?_⟩⟩ ?_
                · rw [e7, up2_app, eI]
                  by_cases c : i = 8 * u + v
                  · rw [if_pos ⟨rfl, c⟩, c, up1_eq]
                  · rw [if_neg (fun q => c q.2), up1_ne c, F5.1 311 (by omega)]; exact e311 i hi
                · (try dsimp only)
                  rw [if_pos P7.2.2.2, if_pos Pr.2.2.2, P7.2.2.1, Pr.2.2.1]; omega
              · rw [show p + 1 + 1 = p + 2 by omega] at hE
                rw [hE] at cs
                have el := numE_lt hE
                exact m_fine P5 (fun q => absurd q (by omega)) (fun _ => ⟨fun q => absurd rfl q, fun _ => fail e e σ5 cs (by omega) P5 (M4.rd (fun i a1 _ _ => F5.1 i a1) F5.2) (fun i hi => by rw [F5.1 i (by omega)]; exact f4 i hi)⟩)
            · have eb := n97 (p + 1) x3
              refine m_fine P4 (fun q => absurd q (by omega)) (fun _ => ⟨fun _ => bad119 _ _ _ (p + 1) σ4 ?_ (by omega) P4 (M3.rd (fun i a1 _ _ => F4.1 i a1) F4.2) (fun i hi => by rw [F4.1 i (by omega)]; exact f3 i hi), fun q => absurd rfl q⟩)
              unfold cstep
              rw [if_neg (by omega), if_pos (Or.inl (by omega))]
          · have ea := n97 p x1
            refine m_oneOf (f := 97) (m := n) (by omega) (by omega) hT P3 (fun _ => ?_) (fun q => absurd q (by omega)) (fun q => absurd q (by omega))
            refine m_fine P3 (fun q => absurd q (by omega)) (fun _ => ⟨fun _ => bad119 _ _ _ p σ3 ?_ (by omega) P3 (Mr.rd (fun i a1 _ _ => F3.1 i a1) F3.2) (fun i hi => by rw [F3.1 i (by omega)]; exact Fr i hi), fun q => absurd rfl q⟩)
            unfold cstep
            rw [if_pos (by omega)]
      · refine m_fine Pr (fun q => absurd q (by omega)) (fun _ => ⟨fun _ => bad _ _ p e ρ Mr Pr Fr (fun σ' M' F' => ?_), fun q => absurd rfl q⟩)
        rw [w32_id (by omega) (by omega)]
        exact h1 n e σ' en.symm hn.1 hn.2 he M' F'
    · have hd : ¬ (2 ≤ dg T 0 ∧ dg T 0 ≤ 8) := by rw [sd]; split <;> omega
      rintro _ rfl
      have M1 : MSt X σ1 := Mt.rd (fun i a1 _ _ => F1.1 i a1) F1.2
      have f1 : ∀ i, i < 300 ∨ i = 340 → σ1 i = σ i := fun i hi => by rw [F1.1 i (by omega)]; exact Ft i hi
      unfold wLX11_club_46
      refine ⟨1, ?_⟩
      show wX11_club_46 _ Q _ _ σ1
      unfold wX11_club_46
      refine m_fine P1 (fun q => absurd q (by omega)) (fun _ => ⟨fun _ => bad _ _ 0 0 σ1 M1 P1 f1 (fun σ' M' F' => ?_), fun q => absurd rfl q⟩)
      rw [show w32 (-1 - ((0 : Nat) : Int)) = -1 by decide +kernel]
      exact h0 hd σ' M' F'
theorem op_club : OpOK wX10_club wX11_club := by
  refine OpOK.of (fun X hI => ?_)
  have hN := hI.1.1.1
  have hT : TB X.2.2.2.1 := hI.2.2.2.1
  -- both let the text go
  have empt : ∀ {σ m : Mem}, CSt X σ → (∀ i, ¬ (72 ≤ i ∧ i < 85) → m i = σ i) → CSt (X.1, X.2.1, X.2.2.1, [], X.2.2.2.2) (up2 m 5 1 0) := fun {σ m} hC hF => by
    have h1 : CSt X m := hC.fr (fun i _ _ a _ => hF i (by omega))
    exact ⟨h1.1.fr (fun i a1 a2 => up2_ne (by omega)), h1.2.1.fr (up2_ne (by omega)) (fun i a1 a2 => up2_ne (by omega)), h1.2.2.1.fr (by rw [up2_ne (by omega)]) (up2_ne (by omega)) (fun i a1 a2 => up2_ne (by omega)), ⟨by rw [up2_eq]; rfl, fun j v hj => by simp at hj⟩, h1.2.2.2.2.fr (up2_ne (by omega)) (up2_ne (by omega))⟩
  have xi : ∀ {Y : St}, Y = (X.1, X.2.1, X.2.2.1, [], X.2.2.2.2) → XInv Y := fun {Y} e => by
    subst e
    exact ⟨hI.1, hI.2.1, hI.2.2.1, ⟨fun v hv => by simp at hv, by simp⟩, hI.2.2.2.2⟩
  by_cases hd : 2 ≤ dg X.2.2.2.1 0 ∧ dg X.2.2.2.1 0 ≤ 8
  · obtain ⟨n, en⟩ : ∃ n : Nat, (n : Int) = dg X.2.2.2.1 0 := ⟨(dg X.2.2.2.1 0).toNat, by omega⟩
    have hn : 2 ≤ n ∧ n ≤ 8 := by omega
    cases hr : (clubR X.2.2.2.1 n).1 with
    | some e =>
      refine ⟨-1 - (e : Int), (X.1, X.2.1, X.2.2.1, [], X.2.2.2.2), fun σ Q hC h => ?_, fun σ Q hM h => ?_, xi rfl⟩
      · unfold wX10_club
        refine s_readClub hT hC.2.2.2.1 (fun q => absurd hd q) (fun n2 e2 σ1 en2 _ _ hr2 f1 => ?_) (fun n2 σ1 en2 _ _ hr2 _ _ => ?_)
        · obtain rfl : n2 = n := by omega
          rw [hr] at hr2
          cases hr2
          unfold wX9_empty
          rintro m3 e3
          refine ⟨fun q => absurd q (by omega), fun _ => h m3 (by rw [e3]; exact empt hC f1) (fun i hi => by rw [e3, up2_ne (by omega)]; exact f1 i (by omega))⟩
        · obtain rfl : n2 = n := by omega
          rw [hr] at hr2
          cases hr2
      · unfold wX11_club
        rintro m1 rfl
        have hM1 := hM.thr (v := 0)
        refine m_begin hM1 (fun σ2 M2 P2 f2 => ?_)
        refine m_readClub (X := (X.1, X.2.1, X.2.2.1, [], X.2.2.2.2)) hT hI.2.2.1.2 M2 P2 (fun q => absurd hd q) (fun n2 e2 σ3 en2 _ _ hr2 M3 f3 => ?_) (fun n2 σ3 en2 _ _ hr2 _ _ => ?_)
        · obtain rfl : n2 = n := by omega
          rw [hr] at hr2
          cases hr2
          exact h σ3 M3 (fun i hi => by rw [f3 i hi, f2 i (by omega), fr2 hi])
        · obtain rfl : n2 = n := by omega
          rw [hr] at hr2
          cases hr2
    | none =>
      have ok := clubF_ok (T := X.2.2.2.1) hn.2 20 1 (fun _ => -1) 0 (fun i _ => ⟨by (try dsimp only); omega, fun _ => rfl⟩)
      refine ⟨((clubR X.2.2.2.1 n).2.2 : Int), (clubB n (clubR X.2.2.2.1 n).2.1, X.2.1, pushP X.2.2.1 X.1, [], X.2.2.2.2), fun σ Q hC h => ?_, fun σ Q hM h => ?_, ?_⟩
      · unfold wX10_club
        refine s_readClub hT hC.2.2.2.1 (fun q => absurd hd q) (fun n2 e2 σ1 en2 _ _ hr2 f1 => ?_) (fun n2 σ1 en2 _ _ hr2 C1 f1 => ?_)
        · obtain rfl : n2 = n := by omega
          rw [hr] at hr2
          cases hr2
        · obtain rfl : n2 = n := by omega
          unfold wX9_empty
          rintro m3 e3
          have S3 := empt hC f1
          rw [← e3] at S3
          refine ⟨fun _ => ?_, fun q => absurd (by omega) q⟩
          have C3 : CB 72 (clubB n2 (clubR X.2.2.2.1 n2).2.1) m3 := C1.fr (fun i a1 a2 => by rw [e3, up2_ne (by omega)])
          refine c_add (b1 := 40) (B := X.1) (by omega) (by omega) S3.2.2.1 S3.1 (fun σ4 p4 f4 => ?_)
          refine s_copyFrom (b := 40) (by omega) (C3.fr (fun i a1 a2 => f4 i (by omega) (by omega) (by omega))) (fun σ5 C5 f5 => ?_)
          have F5 : ∀ i, i ≠ 3 → i ≠ 4 → ¬ (120 ≤ i ∧ i < 248) → ¬ (40 ≤ i ∧ i < 53) → σ5 i = m3 i := fun i a1 a2 a3 a4 => by rw [f5 i (by omega), f4 i a1 a2 a3]
          refine h σ5 ⟨C5, S3.2.1.fr (F5 2 (by omega) (by omega) (by omega) (by omega)) (fun i a1 a2 => F5 i (by omega) (by omega) (by omega) (by omega)), p4.fr (by rw [f5 3 (by omega)]) (f5 4 (by omega)) (fun i a1 a2 => f5 i (by omega)), S3.2.2.2.1.fr (F5 5 (by omega) (by omega) (by omega) (by omega)) (F5 6 (by omega) (by omega) (by omega) (by omega)), S3.2.2.2.2.fr (F5 12 (by omega) (by omega) (by omega) (by omega)) (F5 13 (by omega) (by omega) (by omega) (by omega))⟩ (fun i hi => by rw [F5 i (by omega) (by omega) (by omega) (by omega), e3, up2_ne (by omega)]; exact f1 i (by omega))
      · unfold wX11_club
        rintro m1 rfl
        have hM1 := hM.thr (v := 0)
        refine m_begin hM1 (fun σ2 M2 P2 f2 => ?_)
        refine m_readClub (X := (X.1, X.2.1, X.2.2.1, [], X.2.2.2.2)) hT hI.2.2.1.2 M2 P2 (fun q => absurd hd q) (fun n2 e2 σ3 en2 _ _ hr2 M3 f3 => ?_) (fun n2 σ3 en2 _ _ hr2 M3 f3 => ?_)
        · obtain rfl : n2 = n := by omega
          rw [hr] at hr2
          cases hr2
        · obtain rfl : n2 = n := by omega
          exact h σ3 M3 (fun i hi => by rw [f3 i hi, f2 i (by omega), fr2 hi])
      · exact ⟨inv_club hn ok.1, hI.2.1, xi_push hI, ⟨fun v hv => by simp at hv, by simp⟩, hI.2.2.2.2⟩
  · refine ⟨-1, (X.1, X.2.1, X.2.2.1, [], X.2.2.2.2), fun σ Q hC h => ?_, fun σ Q hM h => ?_, xi rfl⟩
    · unfold wX10_club
      refine s_readClub hT hC.2.2.2.1 (fun _ => ?_) (fun n2 e2 σ1 en2 b1 b2 hr2 f1 => absurd ⟨by omega, by omega⟩ hd) (fun n2 σ1 en2 b1 b2 hr2 _ _ => absurd ⟨by omega, by omega⟩ hd)
      unfold wX9_empty
      rintro m3 e3
      exact ⟨fun q => absurd q (by decide), fun _ => h m3 (by rw [e3]; exact empt hC (fun _ _ => rfl)) (fun i hi => by rw [e3, up2_ne (by omega)])⟩
    · unfold wX11_club
      rintro m1 rfl
      have hM1 := hM.thr (v := 0)
      refine m_begin hM1 (fun σ2 M2 P2 f2 => ?_)
      refine m_readClub (X := (X.1, X.2.1, X.2.2.1, [], X.2.2.2.2)) hT hI.2.2.1.2 M2 P2 (fun _ σ3 M3 f3 => ?_) (fun n2 e2 σ1 en2 b1 b2 hr2 _ _ => absurd ⟨by omega, by omega⟩ hd) (fun n2 σ1 en2 b1 b2 hr2 _ _ => absurd ⟨by omega, by omega⟩ hd)
      exact h σ3 M3 (fun i hi => by rw [f3 i hi, f2 i (by omega), fr2 hi])
