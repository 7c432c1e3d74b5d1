/-! the call day -/
def DR : List A4 → Bk → Nat → Bk → Prop
  | [], B, k, B' => k = 0 ∧ B' = B
  | z :: Z, B, k, B' => ∃ r B1, (∀ L, ∃ L1, CAct B L (wAct z) (r, B1, L1)) ∧ MActOK z B r B1 ∧ ((r < 0 ∧ k = 0 ∧ B' = B ∧ B1 = B) ∨ (¬ r < 0 ∧ ∃ k', k = k' + 1 ∧ DR Z B1 k' B'))
theorem ex_DR : ∀ (Z : List A4) (B : Bk), Inv B → (∀ z ∈ Z, ZOK z) → ∃ k B', DR Z B k B' ∧ Inv B' ∧ k ≤ Z.length
  | [], B, hI, _ => ⟨0, B, ⟨rfl, rfl⟩, hI, Nat.le_refl _⟩
  | z :: Z, B, hI, hZ => by
    obtain ⟨r, B1, h1, h2, h3, h4⟩ := act_ok (hZ z List.mem_cons_self) hI
    by_cases c : r < 0
    · exact ⟨0, B, ⟨r, B1, h1, h2, Or.inl ⟨c, rfl, rfl, h4 c⟩⟩, hI, by omega⟩
    · obtain ⟨k, B', q1, q2, q3⟩ := ex_DR Z B1 h3 (fun y hy => hZ y (List.mem_cons_of_mem _ hy))
      exact ⟨k + 1, B', ⟨r, B1, h1, h2, Or.inr ⟨c, k, rfl, q1⟩⟩, q2, by rw [List.length_cons]; omega⟩
theorem s_day38 {Q : Int → Mem → Prop} {n : Nat} (hn : n ≤ 80) : ∀ (Z : List A4) (j : Nat) (B : Bk) (L : List Int) (σ : Mem) (k : Nat) (B' : Bk), j + Z.length = n → (∀ z ∈ Z, ZOK z) → (∀ (i : Nat) (z : A4), Z[i]? = some z → σ 8 (j + i) = ((z.1 : Nat) : Int) ∧ σ 9 (j + i) = ((z.2.1 : Nat) : Int) ∧ σ 10 (j + i) = ((z.2.2.1 : Nat) : Int) ∧ σ 11 (j + i) = z.2.2.2) → CB 40 B σ → CR L σ → DR Z B k B' → (∀ σ' L', CB 40 B' σ' → CR L' σ' → (∀ i, ¬ (40 ≤ i ∧ i < 53) → ¬ (12 ≤ i ∧ i ≤ 36) → σ' i = σ i) → wX10_day_57 Q (n : Int) ((j + k : Nat) : Int) σ') → lp (fun (K38 : (Int × Int) → Mem → Prop) (x : Int × Int) (σ : Mem) => wX10_day_38 K38 Q x.1 x.2 σ) (Z.length + 1) ((n : Int), (j : Int)) σ := by
  intro Z
  induction Z with
  | nil =>
    intro j B L σ k B' hj hZ hA hC hR hD h
    obtain ⟨rfl, rfl⟩ := hD
    simp only [List.length_nil, Nat.add_zero] at hj
    show wX10_day_38 _ Q (n : Int) (j : Int) σ
    unfold wX10_day_38
    exact ⟨fun _ => h σ L hC hR (fun _ _ _ => rfl), fun z => absurd (by omega) z⟩
  | cons z Z ih =>
    intro j B L σ k B' hj hZ hA hC hR hD h
    obtain ⟨r, B1, h1, h2, hc⟩ := hD
    obtain ⟨L1, hact⟩ := h1 L
    have hz := hZ z List.mem_cons_self
    have a0 := hA 0 z rfl
    rw [Nat.add_zero] at a0
    rw [List.length_cons] at hj
    show wX10_day_38 (lp _ (Z.length + 1)) Q (n : Int) (j : Int) σ
    unfold wX10_day_38
    refine ⟨fun q => absurd q (by omega), fun _ => s_perform hz (by omega) a0.1 a0.2.1 a0.2.2.1 a0.2.2.2 (hact σ _ hC hR (fun σ2 C2 R2 f2 => ?_))⟩
    rcases hc with ⟨c, rfl, rfl, rfl⟩ | ⟨c, k', rfl, hD'⟩
    · exact ⟨fun _ => h σ2 L1 C2 R2 f2, fun q => absurd c q⟩
    · refine ⟨fun q => absurd q c, fun _ => ?_⟩
      rintro _ rfl
      rw [show w32 ((j : Int) + 1) = ((j + 1 : Nat) : Int) by rw [w32_id (by omega) (by omega)]; rfl]
      refine ih (j + 1) B1 L1 σ2 k' B' (by omega) (fun y hy => hZ y (List.mem_cons_of_mem _ hy)) (fun i y hy => ?_) C2 R2 hD' (fun σ' L' b1 b2 b3 => ?_)
      · rw [f2 8 (by omega) (by omega), f2 9 (by omega) (by omega), f2 10 (by omega) (by omega), f2 11 (by omega) (by omega), show j + 1 + i = j + (i + 1) by omega]
        exact hA (i + 1) y hy
      · rw [show j + 1 + k' = j + (k' + 1) by omega]
        exact h σ' L' b1 b2 (fun i a1 a2 => by rw [b3 i a1 a2]; exact f2 i a1 a2)
theorem m_day62 {Q : Int → Mem → Prop} {n : Nat} {R : List Int} (hn : n ≤ 80) : ∀ (Z : List A4) (j : Nat) (B : Bk) (σ : Mem) (k : Nat) (B' : Bk), j + Z.length = n → (∀ (i : Nat) (z : A4), Z[i]? = some z → MZ z (j + i) σ) → MN σ B → σ 300 14 = -1 → MR R σ → DR Z B k B' → (∀ σ', MN σ' B' → MR R σ' → (∀ i, i ≠ 300 → i ≠ 301 → i ≠ 304 → i ≠ 312 → i ≠ 313 → i ≠ 316 → i ≠ 320 → i ≠ 325 → σ' i = σ i) → (∀ j, j ≠ 4 → j ≠ 13 → j ≠ 16 → j ≠ 17 → j ≠ 18 → σ' 300 j = σ 300 j) → wX11_day_83 Q (n : Int) ((j + k : Nat) : Int) σ') → lp (fun (K62 : (Int × Int) → Mem → Prop) (x : Int × Int) (σ : Mem) => wX11_day_62 K62 Q x.1 x.2 σ) (Z.length + 1) ((n : Int), (j : Int)) σ := by
  intro Z
  induction Z with
  | nil =>
    intro j B σ k B' hj hA hM hb hR hD h
    obtain ⟨rfl, rfl⟩ := hD
    simp only [List.length_nil, Nat.add_zero] at hj
    show wX11_day_62 _ Q (n : Int) (j : Int) σ
    unfold wX11_day_62
    exact ⟨fun _ => h σ hM hR (fun _ _ _ _ _ _ _ _ _ => rfl) (fun _ _ _ _ _ _ => rfl), fun z => absurd (by omega) z⟩
  | cons z Z ih =>
    intro j B σ k B' hj hA hM hb hR hD h
    obtain ⟨r, B1, h1, h2, hc⟩ := hD
    have a0 := hA 0 z rfl
    rw [Nat.add_zero] at a0
    rw [List.length_cons] at hj
    show wX11_day_62 (lp _ (Z.length + 1)) Q (n : Int) (j : Int) σ
    unfold wX11_day_62
    rw [w32n (x := 4 * (j : Int)) (4 * j) (by omega) (by omega)]
    refine ⟨fun q => absurd q (by omega), fun _ => h2 σ _ R j (by omega) a0 hM hb hR (fun σ2 M2 R2 f2 j2 => ?_)⟩
    rcases hc with ⟨c, rfl, rfl, rfl⟩ | ⟨c, k', rfl, hD'⟩
    · rw [if_pos c]
      exact ⟨fun _ => h σ2 M2 R2 f2 j2, fun q => absurd rfl q⟩
    · rw [if_neg c]
      refine ⟨fun q => absurd q (by decide), fun _ => ?_⟩
      rintro _ rfl
      rw [show w32 ((j : Int) + 1) = ((j + 1 : Nat) : Int) by rw [w32_id (by omega) (by omega)]; rfl]
      refine ih (j + 1) B1 σ2 k' B' (by omega) (fun i y hy => ?_) M2 (by rw [j2 14 (by omega) (by omega) (by omega) (by omega) (by omega)]; exact hb) R2 hD' (fun σ' b1 b2 b3 b4 => ?_)
      · have q := hA (i + 1) y hy
        rw [show j + 1 + i = j + (i + 1) by omega]
        unfold MZ at q ⊢
        rw [f2 310 (by omega) (by omega) (by omega) (by omega) (by omega) (by omega) (by omega) (by omega)]
        exact q
      · rw [show j + 1 + k' = j + (k' + 1) by omega]
        exact h σ' b1 b2 (fun i c1 c2 c3 c4 c5 c6 c7 c8 => by rw [b3 i c1 c2 c3 c4 c5 c6 c7 c8]; exact f2 i c1 c2 c3 c4 c5 c6 c7 c8) (fun j c1 c2 c3 c4 c5 => by rw [b4 j c1 c2 c3 c4 c5]; exact j2 j c1 c2 c3 c4 c5)
theorem m_readDay {T : List Int} {X : St} {σ : Mem} {Q : Int → Mem → Prop} (hT : TB T) (hM : MSt X σ) (hP : PS T 0 (-1) σ) (h1 : ∀ (e : Nat) σ', (dayR T).1 = some e → MSt X σ' → (∀ i, i < 300 ∨ i = 340 → σ' i = σ i) → Q (-1 - (e : Int)) σ') (h2 : ∀ σ', (dayR T).1 = none → (∀ (j : Nat) (z : A4), (dayR T).2[j]? = some z → MZ z j σ') → MSt X σ' → (∀ i, i < 300 ∨ i = 340 → σ' i = σ i) → wX11_lay σ' (fun m3 => wLX11_day_62 Q ((dayR T).2.length : Int) 0 m3)) : wLX11_day_11 Q 0 σ := by
  have tl := hT.2
  unfold wLX11_day_11
  refine lp_in (I := fun y ρ => ∃ (f p : Nat) (Z : List A4) (l : Nat), y = (l : Int) ∧ MSt X ρ ∧ (∀ i, i < 300 ∨ i = 340 → ρ i = σ i) ∧ ((PS T p (-1) ρ ∧ l = Z.length ∧ (Z.length ≤ p ∧ p ≤ T.length ∧ 80 ≤ p + f) ∧ dayF T f p Z = dayR T ∧ ∀ (j : Nat) (z : A4), Z[j]? = some z → MZ z j ρ) ∨ ∃ e : Nat, PS T p (e : Int) ρ ∧ (dayR T).1 = some e ∧ e ≤ 1000)) (μ := fun _ ρ => if ρ 300 8 = -1 then (200 - ρ 300 7).toNat + 1 else 0) ?_ _ _ ⟨80, 0, [], 0, rfl, hM, fun _ _ => rfl, Or.inl ⟨hP, rfl, ⟨by simp, by omega, by omega⟩, rfl, fun j z hj => by simp at hj⟩⟩
  rintro y ρ ⟨f, p, Z, l, rfl, Mr, Fr, hc⟩ K2 hK2
  dsimp only [wX11_day_11]
  rcases hc with ⟨Pr, hlZ, hp, hfin, hA⟩ | ⟨e, Pr, he, heb⟩
  · refine m_fine Pr (fun _ => ⟨fun q => absurd q (by decide), fun _ => ?_⟩) (fun q => absurd rfl q)
    rw [Pr.1, Pr.2.2.1]
    refine ⟨fun z => ?_, fun z => ?_⟩
    · rw [dayF_end (by omega)] at hfin
      unfold wX11_day_42
      refine m_wasRight Pr (fun _ _ => ⟨fun _ => ?_, fun q => absurd q (by decide)⟩) (fun q => absurd ⟨rfl, by omega⟩ q)
      have q := h2 ρ (by rw [← hfin]) (by rw [← hfin]; exact hA) Mr Fr
      rw [← hfin] at q
      rw [hlZ]
      exact q
    · have hpl : ¬ T.length ≤ p := by omega
      have hf1 : 1 ≤ f := by omega
      rw [w32n (x := 4 * (l : Int)) (4 * l) (by omega) (by omega)]
      have md : ∀ {τ : Mem}, DF l ρ τ → MSt X τ ∧ ∀ i, i < 300 ∨ i = 340 → τ i = σ i := fun {τ} D => ⟨Mr.rd (fun i a1 a2 _ => D.1 i a1 a2) D.2.1, fun i hi => by rw [D.1 i (by omega) (by omega)]; exact Fr i hi⟩
      have wl : w32 ((l : Int) + 1) = ((l + 1 : Nat) : Int) := by rw [w32_id (by omega) (by omega)]; rfl
      refine m_readAct hT (by omega) (by omega) Pr (fun cs σ3 P3 D3 Z3 => ?_) (fun e cs hb a σ3 P3 D3 => ?_)
      · rintro _ rfl
        rw [wl]
        rw [dayF_go hpl hf1 cs] at hfin
        have dn := dnext_le (by omega) cs
        have dg1 : p + 1 ≤ dnext T p := by unfold dnext; omega
        refine hK2 _ _ ⟨f - 1, dnext T p, Z ++ [dZ T p], l + 1, rfl, (md D3).1, (md D3).2, Or.inl ⟨P3, by rw [List.length_append]; simp; omega, ⟨by rw [List.length_append]; simp; omega, dn, by omega⟩, hfin, fun j z hj => ?_⟩⟩ ?_
        · rcases getE_app hj with q | ⟨q1, q2⟩
          · have hl := (List.getElem?_eq_some_iff.mp q).1
            have m := hA j z q
            unfold MZ at m ⊢
            rw [D3.2.2 _ (by omega), D3.2.2 _ (by omega), D3.2.2 _ (by omega), D3.2.2 _ (by omega)]
            exact m
          · rw [q1, q2, ← hlZ]; exact Z3
        · (try dsimp only)
          rw [if_pos P3.2.2.2, if_pos Pr.2.2.2, P3.2.2.1, Pr.2.2.1]; omega
      · rintro _ rfl
        rw [wl]
        refine hK2 _ _ ⟨f, a, Z, l + 1, rfl, (md D3).1, (md D3).2, Or.inr ⟨e, P3, by rw [← hfin, dayF_err hpl hf1 cs], hb⟩⟩ ?_
        (try dsimp only)
        rw [if_neg (by rw [P3.2.2.2]; omega), if_pos (by rw [Pr.2.2.2])]
        omega
  · refine m_fine Pr (fun q => absurd q (by omega)) (fun _ => ⟨fun _ => ?_, fun q => absurd rfl q⟩)
    unfold wX11_day_42
    refine m_wasRight Pr (fun q => absurd q (by omega)) (fun _ σ' P' F' => ⟨fun q => absurd rfl q, fun _ => ?_⟩)
    rw [if_neg (by omega)] at P'
    rw [P'.2.2.2, w32_id (by omega) (by omega)]
    exact h1 e σ' he (Mr.rd (fun i a1 _ _ => F'.1 i a1) F'.2) (fun i hi => by rw [F'.1 i (by omega)]; exact Fr i hi)
theorem op_day : OpOK wX10_day wX11_day := by
  refine OpOK.of (fun X hI => ?_)
  have hN := hI.1.1.1
  have hT : TB X.2.2.2.1 := hI.2.2.2.1
  have hA := hI.1.1
  have hZ := hI.1.2.1
  cases hr : (dayR X.2.2.2.1).1 with
  | some e =>
    refine ⟨-1 - (e : Int), wT X, fun σ Q hC h => ?_, fun σ Q hM h => ?_, xi_empt hI⟩
    · unfold wX10_day
      refine s_readDay hT hC.2.2.2.1 (fun e2 σ1 hr2 f1 => ?_) (fun σ1 hr2 _ _ => by rw [hr] at hr2; cases hr2)
      rw [hr] at hr2
      cases hr2
      unfold wX9_empty
      rintro m3 e3
      exact ⟨fun q => absurd q (by omega), fun _ => h m3 (by rw [e3]; exact hC.empt f1) (fun i hi => by rw [e3, up2_ne (by omega)]; exact f1 i (by omega))⟩
    · unfold wX11_day
      rintro m1 rfl
      have hM1 := hM.thr (v := 0)
      refine m_begin hM1 (fun σ2 M2 P2 f2 => ?_)
      refine m_readDay (X := wT X) hT M2 P2 (fun e2 σ3 hr2 M3 f3 => ?_) (fun σ3 hr2 _ _ _ => by rw [hr] at hr2; cases hr2)
      rw [hr] at hr2
      cases hr2
      exact h σ3 M3 (fun i hi => by rw [f3 i hi, f2 i (by omega), fr2 hi])
  | none =>
    have ok := dayF_ok hT 80 0 [] (fun z hz => by simp at hz) (by simp) (by omega)
    obtain ⟨Z, eZ⟩ : ∃ Z, Z = (dayR X.2.2.2.1).2 := ⟨_, rfl⟩
    have hZk : ∀ z ∈ Z, ZOK z := by rw [eZ]; exact ok.1
    have zl : Z.length ≤ 80 := by have := hT.2; rw [eZ]; exact Nat.le_trans ok.2 this
    obtain ⟨k, B', hD, hI', hk⟩ := ex_DR Z X.1 hI.1 hZk
    have ob := oweAll_b hI'.1
    refine ⟨(k : Int), (B', X.2.1, if k = 0 then X.2.2.1 else pushP X.2.2.1 X.1, [], [if Z.length ≤ k then 0 else 1, oweAll B']), fun σ Q hC h => ?_, fun σ Q hM h => ?_, ?_⟩
    · unfold wX10_day
      refine s_readDay hT hC.2.2.2.1 (fun e2 σ1 hr2 f1 => by rw [hr] at hr2; cases hr2) (fun σ1 _ A1 f1 => ?_)
      rw [← eZ] at A1 ⊢
      unfold wX9_empty
      rintro m3 e3
      have S3 := hC.empt f1
      rw [← e3] at S3
      have F3 : ∀ i, 300 ≤ i → m3 i = σ i := fun i hi => by rw [e3, up2_ne (by omega)]; exact f1 i (by omega)
      refine ⟨fun _ => ?_, fun q => absurd (by omega) q⟩
      refine s_copyFrom (b := 56) (by omega) S3.1 (fun σ4 C4 f4 => ?_)
      have g4 : ∀ i, ¬ (56 ≤ i ∧ i < 69) → σ4 i = m3 i := fun i hi => f4 i (by omega)
      unfold wLX10_day_38
      have go := s_day38 (Q := Q) zl Z 0 X.1 X.2.2.2.2 σ4 k B' (by omega) hZk (fun i z hz => by
        rw [Nat.zero_add, g4 8 (by omega), g4 9 (by omega), g4 10 (by omega), g4 11 (by omega), e3, up2_ne (by omega), up2_ne (by omega), up2_ne (by omega), up2_ne (by omega)]
        exact A1.2 i z hz) (S3.1.fr (fun i a1 a2 => g4 i (by omega))) (S3.2.2.2.2.fr (g4 12 (by omega)) (g4 13 (by omega))) hD
      refine ⟨Z.length + 1, go (fun σ5 L5 C5 R5 f5 => ?_)⟩
      rw [Nat.zero_add]
      have F5 : ∀ i, ¬ (40 ≤ i ∧ i < 53) → ¬ (12 ≤ i ∧ i ≤ 36) → ¬ (56 ≤ i ∧ i < 69) → σ5 i = m3 i := fun i a1 a2 a3 => by rw [f5 i a1 a2]; exact g4 i a3
      have K5 : CK X.2.1 σ5 := S3.2.1.fr (F5 2 (by omega) (by omega) (by omega)) (fun i a1 a2 => F5 i (by omega) (by omega) (by omega))
      have Pp5 : CP X.2.2.1 σ5 := S3.2.2.1.fr (by rw [F5 3 (by omega) (by omega) (by omega)]) (F5 4 (by omega) (by omega) (by omega)) (fun i a1 a2 => F5 i (by omega) (by omega) (by omega))
      have T5 : CT [] σ5 := S3.2.2.2.1.fr (F5 5 (by omega) (by omega) (by omega)) (F5 6 (by omega) (by omega) (by omega))
      have last : ∀ (τ : Mem) (P : List Bk), CB 40 B' τ → CK X.2.1 τ → CP P τ → CT [] τ → (∀ i, 300 ≤ i → τ i = σ i) → P = (if k = 0 then X.2.2.1 else pushP X.2.2.1 X.1) → wX10_day_72 Q (Z.length : Int) (k : Int) τ := by
        intro τ P tC tK tP tT tf eP
        subst eP
        have go2 : ∀ s0 : Int, s0 = (if Z.length ≤ k then 0 else 1) → wX10_day_86 Q (k : Int) s0 τ := by
          rintro s0 rfl
          unfold wX10_day_86
          refine s_owedInAll tC hI'.1 (c_tell2 (fun σ6 r6 f6 => h σ6 ⟨tC.fr (fun i a1 a2 => f6 i (by omega) (by omega)), tK.fr (f6 2 (by omega) (by omega)) (fun i a1 a2 => f6 i (by omega) (by omega)), tP.fr (by rw [f6 3 (by omega) (by omega)]) (f6 4 (by omega) (by omega)) (fun i a1 a2 => f6 i (by omega) (by omega)), tT.fr (f6 5 (by omega) (by omega)) (f6 6 (by omega) (by omega)), r6⟩ (fun i hi => by rw [f6 i (by omega) (by omega)]; exact tf i hi)))
        unfold wX10_day_72
        exact ⟨fun q => go2 0 (by rw [if_pos (by omega)]), fun q => go2 1 (by rw [if_neg (by omega)])⟩
      unfold wX10_day_57
      refine ⟨fun q => last σ5 _ C5 K5 Pp5 T5 (fun i hi => by rw [F5 i (by omega) (by omega) (by omega)]; exact F3 i hi) (by rw [if_pos (by omega)]), fun q => ?_⟩
      refine c_add (b1 := 56) (B := X.1) (by omega) (by omega) Pp5 (C4.fr (fun i a1 a2 => f5 i (by omega) (by omega))) (fun σ6 p6 f6 => ?_)
      exact last σ6 _ (C5.fr (fun i a1 a2 => f6 i (by omega) (by omega) (by omega))) (K5.fr (f6 2 (by omega) (by omega) (by omega)) (fun i a1 a2 => f6 i (by omega) (by omega) (by omega))) p6 (T5.fr (f6 5 (by omega) (by omega) (by omega)) (f6 6 (by omega) (by omega) (by omega))) (fun i hi => by rw [f6 i (by omega) (by omega) (by omega), F5 i (by omega) (by omega) (by omega)]; exact F3 i hi) (by rw [if_neg (by omega)])
    · unfold wX11_day
      rintro m1 rfl
      have hM1 := hM.thr (v := 0)
      refine m_begin hM1 (fun σ2 M2 P2 f2 => ?_)
      refine m_readDay (X := wT X) hT M2 P2 (fun e2 σ3 hr2 M3 f3 => by rw [hr] at hr2; cases hr2) (fun σ3 _ A3 M3 f3 => ?_)
      rw [← eZ] at A3 ⊢
      have F3 : ∀ i, i < 300 ∨ i = 340 → σ3 i = σ i := fun i hi => by rw [f3 i hi, f2 i (by omega), fr2 hi]
      refine m_lay M3.1 (fun σ4 W4 f4 => ?_)
      have M4 : MSt (wT X) σ4 := M3.fr (fun j _ => by rw [f4 300 (by omega)]) (fun i hi => f4 i (by omega))
      have F4 : ∀ i, i < 300 ∨ i = 340 → σ4 i = σ i := fun i hi => by rw [f4 i (by omega)]; exact F3 i hi
      unfold wLX11_day_62
      have go := m_day62 (Q := Q) (R := X.2.2.2.2) zl Z 0 X.1 σ4 k B' (by omega) (fun i z hz => by
        have q := A3 i z hz
        rw [Nat.zero_add]
        unfold MZ at q ⊢
        rw [f4 310 (by omega)]
        exact q) M4.1 M4.2.2.2.2.2 M4.2.2.2.2.1 hD
      refine ⟨Z.length + 1, go (fun σ5 M5 R5 f5 j5 => ?_)⟩
      rw [Nat.zero_add]
      have F5 : ∀ i, i < 300 ∨ i = 340 → σ5 i = σ i := fun i hi => by rw [f5 i (by omega) (by omega) (by omega) (by omega) (by omega) (by omega) (by omega) (by omega)]; exact F4 i hi
      have MS5 : MSt (wB (wT X) B') σ5 := M4.bk M5 R5 (fun i hi => f5 i (by omega) (by omega) (by omega) (by omega) (by omega) (by omega) (by omega) (by omega)) (fun j hj => j5 j (by omega) (by omega) (by omega) (by omega) (by omega))
      have last : ∀ (τ : Mem) (P : List Bk), MSt (B', X.2.1, P, [], X.2.2.2.2) τ → (∀ i, i < 300 ∨ i = 340 → τ i = σ i) → P = (if k = 0 then X.2.2.1 else pushP X.2.2.1 X.1) → wX11_day_91 Q (Z.length : Int) (k : Int) τ := by
        intro τ P tM tf eP
        subst eP
        unfold wX11_day_91
        rintro m6 e6
        have M6 := mo_row0 tM
        rw [← e6] at M6
        have go2 : ∀ s0 : Int, s0 = (if Z.length ≤ k then 0 else 1) → wX11_day_107 Q (k : Int) s0 m6 := by
          rintro s0 rfl
          unfold wX11_day_107
          refine mo_tell M6 (by simp) (fun σ7 M7 f7 j7 => m_allDebts (B := B') M7.1 hI'.1 hI'.2.1 (mo_tell M7 (by simp) (fun σ8 M8 f8 j8 => ?_)))
          exact h σ8 M8 (fun i hi => by rw [f8 i (by omega) (by omega), f7 i (by omega) (by omega), e6, up2_ne (by omega)]; exact tf i hi)
        exact ⟨fun q => go2 0 (by rw [if_pos (by omega)]), fun q => go2 1 (by rw [if_neg (by omega)])⟩
      unfold wX11_day_83
      refine ⟨fun q => last σ5 X.2.2.1 MS5 F5 (by rw [if_pos (by omega)]), fun q => ?_⟩
      refine m_note (B := X.1) (P := X.2.2.1) (by rw [f5 328 (by omega) (by omega) (by omega) (by omega) (by omega) (by omega) (by omega) (by omega)]; exact W4) MS5.2.2.1 hI.2.2.1.2 (fun σ6 P6 f6 j6 => ?_)
      exact last σ6 (pushP X.2.2.1 X.1) ⟨by unfold MN; rw [f6 301 (by omega) (by omega)]; exact M5, MS5.2.1.fr (f6 332 (by omega) (by omega)) (f6 331 (by omega) (by omega)), P6, MS5.2.2.2.1.fr (j6 2 (by omega)) (f6 302 (by omega) (by omega)), MS5.2.2.2.2.1.fr (j6 4 (by omega)) (f6 304 (by omega) (by omega)), by rw [j6 14 (by omega)]; exact MS5.2.2.2.2.2⟩ (fun i hi => by rw [f6 i (by omega) (by omega)]; exact F5 i hi) (by rw [if_neg (by omega)])
    · refine ⟨hI', hI.2.1, ?_, ⟨fun v hv => by simp at hv, by simp⟩, ⟨fun y hy => ?_, by simp⟩⟩
      · show ((∀ B ∈ (if k = 0 then X.2.2.1 else pushP X.2.2.1 X.1), Inv B) ∧ (if k = 0 then X.2.2.1 else pushP X.2.2.1 X.1).length ≤ 8)
        split
        · exact hI.2.2.1
        · exact xi_push hI
      · simp at hy
        rcases hy with q | q
        · rw [q]; split <;> omega
        · omega
