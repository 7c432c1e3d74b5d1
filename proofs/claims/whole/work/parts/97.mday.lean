/-! the reference reads a day; the call -/
theorem u16_all : ∀ g, g < 256 → u16 ((g : Nat) : Int) = (g : Int) := by decide +kernel
theorem sx_in : ∀ g, g < 256 → ∀ j, j < 9 → sxI j = i8 ((g : Nat) : Int) → 0 ≤ lg ((g : Nat) : Int) := by decide +kernel
theorem sx_out : ∀ g, g < 256 → (∀ j, j < 9 → sxI j ≠ i8 ((g : Nat) : Int)) → lg ((g : Nat) : Int) < 0 := by decide +kernel
theorem m_index {g : Nat} {σ : Mem} {Q : Int → Mem → Prop} (hg : g < 256) (h1 : 0 ≤ lg (g : Int) → ∀ k : Int, 0 ≤ k → Q k σ) (h0 : lg (g : Int) < 0 → Q (-1) σ) : wJ0_indexOf_0f7a4 (u16 (g : Int)) σ Q := by
  rw [u16_all g hg]
  unfold wJ0_indexOf_0f7a4 wJ0_indexOf_7cf53 wJ0_isLatin1_aae02
  refine ⟨fun q => absurd q (by decide), fun _ => ⟨fun q => absurd rfl q, fun _ => ⟨fun q => absurd q (by decide), fun _ => ?_⟩⟩⟩
  unfold wJ0_length_8abf5 wJ0_coder_7d493
  refine ⟨fun q => absurd q (by decide), fun _ => ?_⟩
  dsimp only
  rw [show bshr 9 0 = 9 by decide +kernel]
  unfold wJ1_indexOf_4cfef wJ1_canEncode_9a6ad
  refine ⟨fun q => absurd q (by omega), fun _ => ⟨fun q => absurd q (by omega), fun _ => ⟨fun _ => ?_, fun q => absurd q (by decide)⟩⟩⟩
  rintro _ rfl _ rfl
  rw [show max (0 : Int) 0 = 0 from rfl, show min (9 : Int) 9 = 9 from rfl]
  refine ⟨fun _ => ?_, fun q => absurd (by decide) q⟩
  unfold wJ1_indexOfChar_4cfef
  rintro _ rfl
  unfold wLJ1_indexOfChar_4cfef_7
  refine lp_for (fun j y τ => τ = σ ∧ y = ((9 : Int), i8 (g : Int), (j : Int)) ∧ ∀ i, i < j → sxI i ≠ i8 (g : Int)) 9 ?_ ?_ _ _ ⟨rfl, rfl, fun i hi => by omega⟩
  · rintro j hj _ σ ⟨rfl, rfl, hw⟩ K hK
    dsimp only [wJ1_indexOfChar_4cfef_7]
    rw [tn]
    refine ⟨(fun hno => absurd hno (by omega)), fun _ => ⟨⟨by omega, by omega⟩, fun q => ?_, fun q => h1 (sx_in g hg j hj q) _ (by omega)⟩⟩
    rintro _ rfl
    refine hK _ _ ⟨rfl, by rw [w32_id (by omega) (by omega)]; rfl, fun i hi => ?_⟩
    by_cases c : i = j
    · rw [c]; exact q
    · exact hw i (by omega)
  · rintro _ σ ⟨rfl, rfl, hw⟩ K
    dsimp only [wJ1_indexOfChar_4cfef_7]
    exact ⟨fun _ => h0 (sx_out g hg hw), (fun hno => absurd hno (by omega))⟩
def DF (n : Nat) (σ σ' : Mem) : Prop := (∀ i, i ≠ 300 → i ≠ 310 → σ' i = σ i) ∧ (∀ j, j ≠ 7 → j ≠ 8 → σ' 300 j = σ 300 j) ∧ ∀ c, c < 4 * n → σ' 310 c = σ 310 c
theorem DF.tr {n : Nat} {σ1 σ2 σ3 : Mem} (h : DF n σ1 σ2) (h' : DF n σ2 σ3) : DF n σ1 σ3 := ⟨fun i a1 a2 => by rw [h'.1 i a1 a2, h.1 i a1 a2], fun j a1 a2 => by rw [h'.2.1 j a1 a2, h.2.1 j a1 a2], fun c hc => by rw [h'.2.2 c hc, h.2.2 c hc]⟩
theorem PF.df {n : Nat} {σ σ' : Mem} (h : PF σ σ') : DF n σ σ' := ⟨fun i a1 _ => h.1 i a1, h.2, fun c _ => by rw [h.1 310 (by omega)]⟩
theorem DF.st {n c : Nat} {σ σ' : Mem} {v : Int} (e : σ' = up2 σ 310 c v) (hc : 4 * n ≤ c) : DF n σ σ' := ⟨fun i _ a2 => by rw [e, up2_ne a2], fun j _ _ => by rw [e, up2_ne (by omega)], fun d hd => by rw [e, up2_nj (by omega)]⟩
theorem PS.st {T : List Int} {a c : Nat} {w v : Int} {σ σ' : Mem} (h : PS T a w σ) (e : σ' = up2 σ 310 c v) : PS T a w σ' := h.fr (fun j _ => by rw [e, up2_ne (by omega)]) (by rw [e, up2_ne (by omega)])
section MRDAY
variable {T : List Int} {n : Nat}
/-- the number of an act, and its end -/
theorem m_145 {σ : Mem} {Q : Mem → Prop} {a k : Nat} {w : Int} (hT : TB T) (hk : k ≤ 4) (hn : n < 80) (hP : PS T a w σ) (hb : w ≠ -1 → ∀ σ', PS T a w σ' → DF n σ σ' → Q σ') (h1 : w = -1 → numE T a k = none → ∀ σ', PS T (a + k) (-1) σ' → DF n σ σ' → σ' 310 (4 * n + 3) = numA T a k → (∀ c, c ≠ 4 * n + 3 → σ' 310 c = σ 310 c) → Q σ') (h0 : w = -1 → ∀ e : Nat, numE T a k = some e → ∀ σ', PS T e (e : Int) σ' → DF n σ σ' → Q σ') : wX11_readAct_145 Q (k : Int) ((4 * n + 3 : Nat) : Int) σ := by
  unfold wX11_readAct_145
  rw [tn]
  refine m_digits hk hT hP (fun q => ⟨by omega, ?_⟩) (fun q hE σ1 P1 F1 => ⟨by omega, ?_⟩) (fun q e hE v σ1 P1 F1 => ⟨by omega, ?_⟩)
  · rintro m3 e3
    exact hb q m3 (hP.st e3) (DF.st e3 (by omega))
  · rintro m3 e3
    exact h1 q hE m3 (P1.st e3) (F1.df.tr (DF.st e3 (by omega))) (by rw [e3, up2_eq]) (fun c hc => by rw [e3, up2_nj hc, F1.1 310 (by omega)])
  · rintro m3 e3
    exact h0 q e hE m3 (P1.st e3) (F1.df.tr (DF.st e3 (by omega)))
theorem m_readAct {σ : Mem} {Q : Mem → Prop} {p : Nat} (hT : TB T) (hn : n < 80) (hp : p < T.length) (hP : PS T p (-1) σ) (h1 : dstep T p = none → ∀ σ', PS T (dnext T p) (-1) σ' → DF n σ σ' → MZ (dZ T p) n σ' → Q σ') (h0 : ∀ e : Nat, dstep T p = some e → e ≤ 1000 → ∀ a σ', PS T a (e : Int) σ' → DF n σ σ' → Q σ') : wX11_readAct ((4 * n : Nat) : Int) σ Q := by
  have tl := hT.2
  have sb := sgn_b hT p
  obtain ⟨g, eg⟩ : ∃ g : Nat, sgn T p = (g : Int) := ⟨(sgn T p).toNat, by have := sb.2.2 hp; omega⟩
  have hg : g < 256 := by omega
  have egt : (sgn T p).toNat = g := by omega
  unfold wX11_readAct
  refine m_here hT hP ?_
  rw [eg]
  refine m_index hg (fun hl k hk => ⟨fun _ => ?_, fun q => absurd hk q⟩) (fun hl => ⟨fun q => absurd q (by decide), fun _ => ?_⟩)
  · rw [hP.2.2.1, show w32 ((p : Int) + 1) = ((p + 1 : Nat) : Int) by rw [w32_id (by omega) (by omega)]; rfl]
    rintro m5 e5
    refine ⟨by omega, ?_⟩
    rw [tn]
    rintro m6 e6
    have P5 : PS T (p + 1) (-1) m5 := ⟨by rw [e5, up2_nj (by omega)]; exact hP.1, by rw [e5, up2_ne (by omega)]; exact hP.2.1, by rw [e5, up2_eq], by rw [e5, up2_nj (by omega)]; exact hP.2.2.2⟩
    have P6 : PS T (p + 1) (-1) m6 := P5.st e6
    have D6 : DF n σ m6 := DF.tr ⟨fun i a1 _ => by rw [e5, up2_ne a1], fun j a1 _ => by rw [e5, up2_nj a1], fun c _ => by rw [e5, up2_ne (by omega)]⟩ (DF.st e6 (by omega))
    have g6 : m6 310 (4 * n) = (g : Int) := by rw [e6, up2_eq]
    clear e5 e6 P5
    have w1 : w32 (((4 * n : Nat) : Int) + 1) = ((4 * n + 1 : Nat) : Int) := by rw [w32_id (by omega) (by omega)]; omega
    have w2 : w32 (((4 * n : Nat) : Int) + 2) = ((4 * n + 2 : Nat) : Int) := by rw [w32_id (by omega) (by omega)]; omega
    have w3 : w32 (((4 * n : Nat) : Int) + 3) = ((4 * n + 3 : Nat) : Int) := by rw [w32_id (by omega) (by omega)]; omega
    have e97 : ∀ q : Nat, ((97 : Nat) : Int) ≤ sgn T q → sgn T q < ((97 : Nat) : Int) + ((8 : Nat) : Int) → ltr T q 8 = sgn T q - 97 := fun q a1 a2 => by unfold ltr; rw [if_pos (by omega)]
    have n97 : ∀ q : Nat, ¬ (((97 : Nat) : Int) ≤ sgn T q ∧ sgn T q < ((97 : Nat) : Int) + ((8 : Nat) : Int)) → ltr T q 8 = -1 := fun q a1 => by unfold ltr; rw [if_neg (by omega)]
    rw [w1]
    -- held ones: one digit
    have one : (g = 103 ∨ g = 109) → wX11_readAct_68 Q ((4 * n : Nat) : Int) (g : Int) ((4 * n + 1 : Nat) : Int) m6 := fun hg2 => by
      have l0 : lg (sgn T p) = 0 := by rw [eg]; rcases hg2 with q | q <;> subst q <;> rfl
      have d1 : dgs (sgn T p) = 1 := by rw [eg]; rcases hg2 with q | q <;> subst q <;> rfl
      have cs : dstep T p = numE T (p + 1) 1 := by
        unfold dstep
        rw [l0, d1, if_neg (by omega), if_neg (by omega), if_neg (by omega)]
        rfl
      unfold wX11_readAct_68
      refine m_digits (k := 1) (by omega) hT P6 (fun q => absurd rfl q) (fun _ hE σ2 P2 F2 => ?_) (fun _ e hE v σ2 P2 F2 => ?_)
      · unfold wX11_readAct_84
        rw [tn]
        refine ⟨by omega, ?_⟩
        rintro m7 e7
        rw [hE] at cs
        have z : Q m7 := by
          refine h1 cs m7 ?_ (D6.tr (F2.df.tr (DF.st e7 (by omega)))) ⟨?_, fun _ => ?_, fun q => ?_, fun q => ?_⟩
          · have e : dnext T p = p + 1 + 1 := by unfold dnext; rw [l0, d1]; rfl
            rw [e]; exact P2.st e7
          · show m7 310 (4 * n) = ((sgn T p).toNat : Int)
            rw [egt, e7, up2_nj (by omega), F2.1 310 (by omega)]; exact g6
          · show m7 310 (4 * n + 1) = numA T (p + 1 + (lg (sgn T p)).toNat) (dgs (sgn T p))
            rw [l0, d1, e7, up2_eq]; rfl
          · have q' : (sgn T p).toNat = 107 := q
            omega
          · have q' : (sgn T p).toNat = 102 ∨ (sgn T p).toNat = 104 ∨ (sgn T p).toNat = 108 ∨ (sgn T p).toNat = 112 ∨ (sgn T p).toNat = 119 := q
            omega
        exact ⟨fun _ => z, fun q => ⟨fun q2 => absurd (by omega) q2, fun _ => z⟩⟩
      · unfold wX11_readAct_84
        rw [tn]
        refine ⟨by omega, ?_⟩
        rintro m7 e7
        rw [hE] at cs
        have el := numE_lt hE
        have z : Q m7 := h0 e cs (by omega) e m7 (P2.st e7) (D6.tr (F2.df.tr (DF.st e7 (by omega))))
        exact ⟨fun _ => z, fun q => ⟨fun q2 => absurd (by omega) q2, fun _ => z⟩⟩
    have gc := lg_cases hl
    refine ⟨fun y1 => ⟨fun y2 => one (Or.inr (by omega)), fun y2 => ⟨fun y3 => ?_, fun y3 => one (Or.inl (by omega))⟩⟩, fun y1 => ?_⟩
    · -- one letter, or two
      have lge : 1 ≤ lg (sgn T p) := by rw [eg]; rcases gc with q | q | q | q | q | q | q | q | q <;> first | (subst q; decide) | omega
      -- behind the letters: the number
      have tail : ∀ (a : Nat) (w : Int) (τ : Mem), PS T a w τ → DF n σ τ → (w ≠ -1 → ∃ e : Nat, w = (e : Int) ∧ dstep T p = some e ∧ e ≤ 1000) → (w = -1 → a = p + 1 + (lg (sgn T p)).toNat ∧ dstep T p = numE T a (dgs (sgn T p)) ∧ τ 310 (4 * n) = (g : Int) ∧ τ 310 (4 * n + 1) = ltr T (p + 1) 8 ∧ 0 ≤ ltr T (p + 1) 8 ∧ (g ≠ 107 → τ 310 (4 * n + 2) = ltr T (p + 2) 8 ∧ 0 ≤ ltr T (p + 2) 8)) → wX11_readAct_120 Q ((4 * n : Nat) : Int) (g : Int) τ := by
        intro a w τ Pt Dt hbad hok
        have go : ∀ k : Nat, k = dgs (sgn T p) → wX11_readAct_145 Q (k : Int) ((4 * n + 3 : Nat) : Int) τ := fun k ek => by
          have db := dgs_b (sgn T p)
          refine m_145 hT (by omega) hn Pt (fun q σ' P' D' => ?_) (fun q hE σ' P' D' v3 v4 => ?_) (fun q e hE σ' P' D' => ?_)
          · obtain ⟨e, rfl, he, hb⟩ := hbad q
            exact h0 e he hb a σ' P' (Dt.tr D')
          · obtain ⟨ea, cs, t0, t1, t1', t2⟩ := hok q
            clear hbad hok
            subst ek
            rw [hE] at cs
            refine h1 cs σ' (by unfold dnext; rw [← ea]; exact P') (Dt.tr D') ⟨?_, fun q => ?_, fun q => ?_, fun q => ?_⟩
            · show σ' 310 (4 * n) = ((sgn T p).toNat : Int)
              rw [egt, v4 _ (by omega)]; exact t0
            · have q' : (sgn T p).toNat = 103 ∨ (sgn T p).toNat = 109 := q
              omega
            · have q' : (sgn T p).toNat = 107 := q
              refine ⟨?_, ?_⟩
              · show σ' 310 (4 * n + 1) = (((if 1 ≤ lg (sgn T p) then (ltr T (p + 1) 8).toNat else 0) : Nat) : Int)
                rw [if_pos lge, v4 _ (by omega), t1]; omega
              · show σ' 310 (4 * n + 3) = numA T (p + 1 + (lg (sgn T p)).toNat) (dgs (sgn T p))
                rw [v3, ea]
            · have q' : (sgn T p).toNat = 102 ∨ (sgn T p).toNat = 104 ∨ (sgn T p).toNat = 108 ∨ (sgn T p).toNat = 112 ∨ (sgn T p).toNat = 119 := q
              have t2' := t2 (by omega)
              have l2 : 2 ≤ lg (sgn T p) := by rw [eg]; rcases gc with q | q | q | q | q | q | q | q | q <;> first | (subst q; decide) | omega
              refine ⟨?_, ?_, ?_⟩
              · show σ' 310 (4 * n + 1) = (((if 1 ≤ lg (sgn T p) then (ltr T (p + 1) 8).toNat else 0) : Nat) : Int)
                rw [if_pos lge, v4 _ (by omega), t1]; omega
              · show σ' 310 (4 * n + 2) = (((if 2 ≤ lg (sgn T p) then (ltr T (p + 2) 8).toNat else 0) : Nat) : Int)
                rw [if_pos l2, v4 _ (by omega), t2'.1]; omega
              · show σ' 310 (4 * n + 3) = numA T (p + 1 + (lg (sgn T p)).toNat) (dgs (sgn T p))
                rw [v3, ea]
          · obtain ⟨ea, cs, _⟩ := hok q
            subst ek
            rw [hE] at cs
            have el := numE_lt hE
            have lb := lg_b (sgn T p)
            exact h0 e cs (by omega) e σ' P' (Dt.tr D')
        clear hbad hok
        unfold wX11_readAct_120
        rw [w3]
        refine ⟨fun q => go 3 ?_, fun q => ⟨fun q2 => go 4 ?_, fun q2 => go 3 ?_⟩⟩
        · rw [eg, q]; rfl
        · rw [eg]
          rcases gc with q | q | q | q | q | q | q | q | q <;> first | (subst q; rfl) | omega
        · rw [eg, q2]; rfl
      refine m_oneOf (f := 97) (m := 8) (by omega) (by omega) hT P6 (fun q => absurd rfl q) (fun _ x1 x2 σ3 P3 F3 => ?_) (fun _ x1 σ3 P3 F3 => ?_)
      · have ea := e97 (p + 1) x1 x2
        unfold wX11_readAct_84
        rw [tn]
        refine ⟨by omega, ?_⟩
        rintro m7 e7
        have P7 := P3.st e7
        have D7 := D6.tr (F3.df.tr (DF.st e7 (by omega)))
        have z0 : m7 310 (4 * n) = (g : Int) := by rw [e7, up2_nj (by omega), F3.1 310 (by omega)]; exact g6
        have z1 : m7 310 (4 * n + 1) = ltr T (p + 1) 8 := by rw [e7, up2_eq, ea]; rfl
        refine ⟨fun q => absurd (by omega) y2, fun q => ⟨fun q2 => ⟨fun q3 => ?_, fun q3 => ?_⟩, fun q2 => absurd q2 y3⟩⟩
        · have g107 : g = 107 := by omega
          have l1 : lg (sgn T p) = 1 := by rw [eg, g107]; rfl
          refine tail (p + 1 + 1) (-1) m7 P7 D7 (fun q => absurd rfl q) (fun _ => ⟨by rw [l1]; rfl, ?_, z0, z1, by omega, fun q => absurd g107 q⟩)
          unfold dstep
          rw [l1, if_neg (by omega), if_neg (by omega), if_neg (by omega)]
          rfl
        · have l2 : lg (sgn T p) = 2 := by rw [eg]; rcases gc with q | q | q | q | q | q | q | q | q <;> first | (subst q; rfl) | omega
          refine m_oneOf (f := 97) (m := 8) (by omega) (by omega) hT P7 (fun q => absurd rfl q) (fun _ x3 x4 σ8 P8 F8 => ?_) (fun _ x3 σ8 P8 F8 => ?_)
          · have eb := e97 (p + 1 + 1) x3 x4
            rw [w2, tn]
            refine ⟨by omega, ?_⟩
            rintro m9 e9
            have D9 := D7.tr (F8.df.tr (DF.st e9 (by omega)))
            refine tail (p + 1 + 1 + 1) (-1) m9 (P8.st e9) D9 (fun q => absurd rfl q) (fun _ => ⟨by rw [l2]; rfl, ?_, by rw [e9, up2_nj (by omega), F8.1 310 (by omega)]; exact z0, by rw [e9, up2_nj (by omega), F8.1 310 (by omega)]; exact z1, by omega, fun _ => ⟨by rw [e9, up2_eq, eb]; rfl, by rw [show p + 2 = p + 1 + 1 from rfl]; omega⟩⟩)
            unfold dstep
            rw [l2, if_neg (by omega), if_neg (by omega), if_neg (by rw [show p + 2 = p + 1 + 1 from rfl]; omega)]
            rfl
          · have eb := n97 (p + 1 + 1) x3
            rw [w2, tn]
            refine ⟨by omega, ?_⟩
            rintro m9 e9
            have D9 := D7.tr (F8.df.tr (DF.st e9 (by omega)))
            refine tail (p + 1 + 1) _ m9 (P8.st e9) D9 (fun q => ⟨p + 2, rfl, ?_, by omega⟩) (fun q => absurd q (by omega))
            unfold dstep
            rw [l2, if_neg (by omega), if_neg (by omega), if_pos ⟨by omega, by rw [show p + 2 = p + 1 + 1 from rfl]; omega⟩]
      · have ea := n97 (p + 1) x1
        have cs : dstep T p = some (p + 1) := by
          unfold dstep
          rw [if_neg (by omega), if_pos ⟨lge, by omega⟩]
        unfold wX11_readAct_84
        rw [tn]
        refine ⟨by omega, ?_⟩
        rintro m7 e7
        have P7 := P3.st e7
        have D7 := D6.tr (F3.df.tr (DF.st e7 (by omega)))
        refine ⟨fun q => absurd (by omega) y2, fun q => ⟨fun q2 => ⟨fun q3 => ?_, fun q3 => ?_⟩, fun q2 => absurd q2 y3⟩⟩
        · exact tail _ _ m7 P7 D7 (fun _ => ⟨p + 1, rfl, cs, by omega⟩) (fun q => absurd q (by omega))
        · refine m_oneOf (f := 97) (m := 8) (by omega) (by omega) hT P7 (fun _ => ?_) (fun q => absurd q (by omega)) (fun q => absurd q (by omega))
          rw [w2, tn]
          refine ⟨by omega, ?_⟩
          rintro m9 e9
          exact tail _ _ m9 (P7.st e9) (D7.tr (DF.st e9 (by omega))) (fun _ => ⟨p + 1, rfl, cs, by omega⟩) (fun q => absurd q (by omega))
    · have g115 : g = 115 := by omega
      have l0 : lg (sgn T p) = 0 := by rw [eg, g115]; rfl
      have d0 : dgs (sgn T p) = 0 := by rw [eg, g115]; rfl
      have cs : dstep T p = none := by
        unfold dstep
        rw [l0, d0, if_neg (by omega), if_neg (by omega), if_neg (by omega)]
        rfl
      refine h1 cs m6 ?_ D6 ⟨?_, fun q => ?_, fun q => ?_, fun q => ?_⟩
      · have e : dnext T p = p + 1 := by unfold dnext; rw [l0, d0]; rfl
        rw [e]; exact P6
      · show m6 310 (4 * n) = ((sgn T p).toNat : Int)
        rw [egt]; exact g6
      · have q' : (sgn T p).toNat = 103 ∨ (sgn T p).toNat = 109 := q
        omega
      · have q' : (sgn T p).toNat = 107 := q
        omega
      · have q' : (sgn T p).toNat = 102 ∨ (sgn T p).toNat = 104 ∨ (sgn T p).toNat = 108 ∨ (sgn T p).toNat = 112 ∨ (sgn T p).toNat = 119 := q
        omega
  · rw [hP.2.2.1]
    refine m_fault hP (fun σ' P' F' => ?_)
    rw [if_pos rfl] at P'
    exact h0 p (by unfold dstep; rw [eg, if_pos hl]) (by omega) p σ' P' F'.df
end MRDAY
