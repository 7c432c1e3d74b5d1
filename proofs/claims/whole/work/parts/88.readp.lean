/-! payments that are told -/
abbrev Py : Type := Nat × Nat × Int
def pOf (T : List Int) (m p : Nat) : Py := ((ltr T p m).toNat, (ltr T (p + 1) m).toNat, numA T (p + 2) 4)
def pstep (T : List Int) (m lm k p : Nat) : Option Nat := if lm ≤ k then some p else if ltr T p m < 0 then some p else if ltr T (p + 1) m < 0 ∨ ltr T (p + 1) m = ltr T p m then some (p + 1) else match numE T (p + 2) 4 with
  | some e => some e
  | none => if numA T (p + 2) 4 = 0 then some (p + 5) else none
def payF (T : List Int) (m lm : Nat) : Nat → Nat → List Py → Option Nat × List Py
  | 0, _, Y => (none, Y)
  | f + 1, p, Y => if T.length ≤ p then (none, Y) else match pstep T m lm Y.length p with
    | some e => (some e, Y)
    | none => payF T m lm f (p + 6) (Y ++ [pOf T m p])
def payR (T : List Int) (m lm : Nat) : Option Nat × List Py := payF T m lm 20 0 []
theorem payF_end {T : List Int} {m lm f p : Nat} {Y : List Py} (h : T.length ≤ p) : payF T m lm f p Y = (none, Y) := by
  cases f with
  | zero => rfl
  | succ f => rw [payF, if_pos h]
theorem payF_err {T : List Int} {m lm f p e : Nat} {Y : List Py} (hp : ¬ T.length ≤ p) (hf : 1 ≤ f) (h : pstep T m lm Y.length p = some e) : payF T m lm f p Y = (some e, Y) := by
  obtain ⟨f, rfl⟩ : ∃ g, f = g + 1 := ⟨f - 1, by omega⟩
  rw [payF, if_neg hp, h]
theorem payF_go {T : List Int} {m lm f p : Nat} {Y : List Py} (hp : ¬ T.length ≤ p) (hf : 1 ≤ f) (h : pstep T m lm Y.length p = none) : payF T m lm f p Y = payF T m lm (f - 1) (p + 6) (Y ++ [pOf T m p]) := by
  obtain ⟨f, rfl⟩ : ∃ g, f = g + 1 := ⟨f - 1, by omega⟩
  rw [payF, if_neg hp, h]
  rfl
/-- payments of m members -/
def YOK (m lm : Nat) (Y : List Py) : Prop := Y.length ≤ lm ∧ ∀ z ∈ Y, z.1 < m ∧ z.2.1 < m ∧ z.1 ≠ z.2.1 ∧ 1 ≤ z.2.2 ∧ z.2.2 ≤ 9999
section READP
variable {T : List Int} {m lm : Nat}
theorem pstep_none {k p : Nat} (h : pstep T m lm k p = none) : k < lm ∧ 0 ≤ ltr T p m ∧ 0 ≤ ltr T (p + 1) m ∧ ltr T (p + 1) m ≠ ltr T p m ∧ numE T (p + 2) 4 = none ∧ numA T (p + 2) 4 ≠ 0 := by
  unfold pstep at h
  by_cases c0 : lm ≤ k
  · rw [if_pos c0] at h; cases h
  rw [if_neg c0] at h
  by_cases c : ltr T p m < 0
  · rw [if_pos c] at h; cases h
  rw [if_neg c] at h
  by_cases c2 : ltr T (p + 1) m < 0 ∨ ltr T (p + 1) m = ltr T p m
  · rw [if_pos c2] at h; cases h
  rw [if_neg c2] at h
  cases e : numE T (p + 2) 4 with
  | some q => rw [e] at h; cases h
  | none =>
    rw [e] at h
    dsimp only at h
    by_cases c3 : numA T (p + 2) 4 = 0
    · rw [if_pos c3] at h; cases h
    · exact ⟨by omega, by omega, by omega, fun q => c2 (Or.inr q), rfl, c3⟩
theorem yok_set {Y : List Py} {p : Nat} (hY : YOK m lm Y) (h : pstep T m lm Y.length p = none) : YOK m lm (Y ++ [pOf T m p]) := by
  obtain ⟨h0, h1, h2, h3, h4, h5⟩ := pstep_none h
  have b1 := ltr_b (T := T) p m
  have b2 := ltr_b (T := T) (p + 1) m
  have nb := numA_b (T := T) (p := p + 2) 4 (by omega) (numE_none h4)
  refine ⟨by rw [List.length_append]; simp; omega, fun z hz => ?_⟩
  rcases List.mem_append.mp hz with q | q
  · exact hY.2 z q
  · simp at q
    rw [q]
    show (ltr T p m).toNat < m ∧ (ltr T (p + 1) m).toNat < m ∧ (ltr T p m).toNat ≠ (ltr T (p + 1) m).toNat ∧ 1 ≤ numA T (p + 2) 4 ∧ numA T (p + 2) 4 ≤ 9999
    omega
theorem payF_ok : ∀ (f p : Nat) (Y : List Py), YOK m lm Y → YOK m lm (payF T m lm f p Y).2
  | 0, p, Y, h => h
  | f + 1, p, Y, h => by
    unfold payF
    by_cases c : T.length ≤ p
    · rw [if_pos c]; exact h
    · rw [if_neg c]
      cases e : pstep T m lm Y.length p with
      | some q => exact h
      | none => exact payF_ok f (p + 6) _ (yok_set h e)
/-- the payments lie in the class's rows -/
def CA (Y : List Py) (σ : Mem) : Prop := σ 7 4 = (Y.length : Int) ∧ ∀ (j : Nat) (z : Py), Y[j]? = some z → σ 9 j = ((z.1 : Nat) : Int) ∧ σ 10 j = ((z.2.1 : Nat) : Int) ∧ σ 11 j = z.2.2
def MA (Y : List Py) (σ : Mem) : Prop := ∀ (j : Nat) (z : Py), Y[j]? = some z → σ 310 (3 * j) = ((z.1 : Nat) : Int) ∧ σ 310 (3 * j + 1) = ((z.2.1 : Nat) : Int) ∧ σ 310 (3 * j + 2) = z.2.2
theorem s_addAct {σ : Mem} {k : Nat} {l1 l2 l3 l4 : Int} {Q : Mem → Prop} (hk : k < 80) (e4 : σ 7 4 = (k : Int)) (h : ∀ σ', σ' 7 4 = ((k + 1 : Nat) : Int) → σ' 8 = up1 (σ 8) k l1 → σ' 9 = up1 (σ 9) k l2 → σ' 10 = up1 (σ 10) k l3 → σ' 11 = up1 (σ 11) k l4 → (∀ i, ¬ (7 ≤ i ∧ i ≤ 11) → σ' i = σ i) → Q σ') : wX0_add l1 l2 l3 l4 σ Q := by
  unfold wX0_add
  rw [e4, tn]
  refine ⟨(fun hno => absurd hno (by omega)), fun _ => ⟨⟨by omega, by omega⟩, ?_⟩⟩
  rintro m1 e1
  have q1 : m1 7 4 = (k : Int) := by rw [e1, up2_ne (by omega)]; exact e4
  rw [q1, tn]
  refine ⟨⟨by omega, by omega⟩, ?_⟩
  rintro m2 e2
  have q2 : m2 7 4 = (k : Int) := by rw [e2, up2_ne (by omega)]; exact q1
  rw [q2, tn]
  refine ⟨⟨by omega, by omega⟩, ?_⟩
  rintro m3 e3
  have q3 : m3 7 4 = (k : Int) := by rw [e3, up2_ne (by omega)]; exact q2
  rw [q3, tn]
  refine ⟨⟨by omega, by omega⟩, ?_⟩
  rintro m4 e4'
  have q4 : m4 7 4 = (k : Int) := by rw [e4', up2_ne (by omega)]; exact q3
  rw [q4]
  rintro m5 e5
  refine h m5 (by rw [e5, up2_eq, w32_id (by omega) (by omega)]; rfl) ?_ ?_ ?_ ?_ (fun i hi => ?_)
  · rw [e5, up2_ne (by omega), e4', up2_ne (by omega), e3, up2_ne (by omega), e2, up2_ne (by omega), e1, up2_row]
  · rw [e5, up2_ne (by omega), e4', up2_ne (by omega), e3, up2_ne (by omega), e2, up2_row, e1, up2_ne (by omega)]
  · rw [e5, up2_ne (by omega), e4', up2_ne (by omega), e3, up2_row, e2, up2_ne (by omega), e1, up2_ne (by omega)]
  · rw [e5, up2_ne (by omega), e4', up2_row, e3, up2_ne (by omega), e2, up2_ne (by omega), e1, up2_ne (by omega)]
  · rw [e5, up2_ne (by omega), e4', up2_ne (by omega), e3, up2_ne (by omega), e2, up2_ne (by omega), e1, up2_ne (by omega)]
theorem CA.add {Y : List Py} {σ σ' : Mem} {z : Py} (h : CA Y σ) (e4 : σ' 7 4 = ((Y.length + 1 : Nat) : Int)) (e9 : σ' 9 = up1 (σ 9) Y.length ((z.1 : Nat) : Int)) (e10 : σ' 10 = up1 (σ 10) Y.length ((z.2.1 : Nat) : Int)) (e11 : σ' 11 = up1 (σ 11) Y.length z.2.2) : CA (Y ++ [z]) σ' := by
  refine ⟨by rw [e4, List.length_append]; simp, fun j x hj => ?_⟩
  rw [e9, e10, e11]
  rcases getE_app hj with q | ⟨q1, q2⟩
  · have hl := (List.getElem?_eq_some_iff.mp q).1
    rw [up1_ne (by omega), up1_ne (by omega), up1_ne (by omega)]
    exact h.2 j x q
  · rw [q1, q2, up1_eq, up1_eq, up1_eq]
    exact ⟨rfl, rfl, rfl⟩
theorem s_readPay {σ : Mem} {Q : Int → Mem → Prop} (hT : TB T) (hm : m ≤ 8) (hlm : lm ≤ 8) (hC : CT T σ) (h1 : ∀ (e : Nat) σ', (payR T m lm).1 = some e → (∀ i, ¬ (7 ≤ i ∧ i ≤ 11) → σ' i = σ i) → Q (-1 - (e : Int)) σ') (h2 : ∀ σ', (payR T m lm).1 = none → CA (payR T m lm).2 σ' → (∀ i, ¬ (7 ≤ i ∧ i ≤ 11) → σ' i = σ i) → Q ((payR T m lm).2.length : Int) σ') : wX0_readPayments (m : Int) (lm : Int) σ Q := by
  have tl := hT.2
  unfold wX0_readPayments
  rintro m1 e1
  unfold wLX0_readPayments_8
  refine lp_in (I := fun y τ => ∃ (f p : Nat) (Y : List Py), y = ((m : Int), (lm : Int), (p : Int)) ∧ (p = 6 * Y.length ∧ p ≤ 86 ∧ 80 ≤ p + 6 * f) ∧ payF T m lm f p Y = payR T m lm ∧ CA Y τ ∧ YOK m lm Y ∧ ∀ i, ¬ (7 ≤ i ∧ i ≤ 11) → τ i = σ i) (μ := fun y _ => (100 - y.2.2).toNat) ?_ _ _ ⟨20, 0, [], rfl, ⟨rfl, by omega, by omega⟩, rfl, ⟨by rw [e1, up2_eq]; rfl, fun j z hj => by simp at hj⟩, ⟨by simp, fun z hz => by simp at hz⟩, fun i hi => by rw [e1, up2_ne (by omega)]⟩
  rintro y τ ⟨f, p, Y, rfl, hp, hfin, hA, hO, hF⟩ K hK
  dsimp only [wX0_readPayments_8]
  have Ct : CT T τ := hC.fr (hF 5 (by omega)) (hF 6 (by omega))
  have b1 := ltr_b (T := T) p m
  have b2 := ltr_b (T := T) (p + 1) m
  have yl := hO.1
  have p1 : w32 ((p : Int) + 1) = ((p + 1 : Nat) : Int) := by rw [w32_id (by omega) (by omega)]; rfl
  have p2 : w32 ((p : Int) + 2) = ((p + 2 : Nat) : Int) := by rw [w32_id (by omega) (by omega)]; rfl
  rw [Ct.1, hA.1]
  refine ⟨fun z => ?_, fun z => ?_⟩
  · rw [payF_end (by omega)] at hfin
    have q := h2 τ (by rw [← hfin]) (by rw [← hfin]; exact hA) hF
    rw [← hfin] at q
    exact q
  · have hpl : ¬ T.length ≤ p := by omega
    have hf1 : 1 ≤ f := by omega
    have err : ∀ e : Nat, pstep T m lm Y.length p = some e → Q (-1 - (e : Int)) τ := fun e he => h1 e τ (by rw [← hfin, payF_err hpl hf1 he]) hF
    refine ⟨fun z0 => ?_, fun z0 => ?_⟩
    · have cs0 : ∀ q, (if lm ≤ Y.length then some p else q) = q := fun q => if_neg (by omega)
      refine s_letterAt hm hT Ct ⟨fun y1 => ?_, fun y1 => ?_⟩
      · rw [p1]
        have err2 : (ltr T (p + 1) m < 0 ∨ ltr T (p + 1) m = ltr T p m) → wX0_readPayments_72 Q (p : Int) τ := fun q => by
          unfold wX0_readPayments_72
          rw [p1, w32_id (by omega) (by omega)]
          exact err (p + 1) (by unfold pstep; rw [cs0, if_neg (by omega), if_pos q])
        refine s_letterAt hm hT Ct ⟨fun y2 => err2 (Or.inl y2), fun y2 => ⟨fun y3 => ?_, fun y3 => err2 (Or.inr y3)⟩⟩
        have cs : pstep T m lm Y.length p = match numE T (p + 2) 4 with | some e => some e | none => if numA T (p + 2) 4 = 0 then some (p + 5) else none := by unfold pstep; rw [cs0, if_neg (by omega), if_neg (by omega)]
        rw [p2]
        refine s_numberAt (k := 4) (by omega) (by omega) hT Ct (fun hE => ?_) (fun e hE => ?_)
        · have nb := numA_b (T := T) (p := p + 2) 4 (by omega) (numE_none hE)
          rw [hE] at cs
          dsimp only at cs
          refine ⟨fun _ => ⟨fun y4 => ?_, fun y4 => ?_⟩, fun q => absurd nb.1 q⟩
          · rw [if_neg y4] at cs
            refine s_addAct (k := Y.length) (by omega) hA.1 (fun σ2 a4 a8 a9 a10 a11 f2 => ?_)
            rintro _ rfl
            rw [payF_go hpl hf1 cs] at hfin
            refine hK _ _ ⟨f - 1, p + 6, Y ++ [pOf T m p], by rw [w32_id (by omega) (by omega)]; rfl, ⟨by rw [List.length_append]; simp; omega, by omega, by omega⟩, hfin, hA.add a4 ?_ ?_ a11, yok_set hO cs, fun i hi => by rw [f2 i hi]; exact hF i hi⟩ ?_
            · rw [a9, show ((pOf T m p).1 : Int) = ltr T p m from Int.toNat_of_nonneg y1]
            · rw [a10, show ((pOf T m p).2.1 : Int) = ltr T (p + 1) m from Int.toNat_of_nonneg (by omega)]
            · (try dsimp only)
              rw [w32_id (by omega) (by omega)]; omega
          · rw [if_pos y4] at cs
            rw [show w32 ((p : Int) + 5) = ((p + 5 : Nat) : Int) by rw [w32_id (by omega) (by omega)]; rfl, w32_id (by omega) (by omega)]
            exact err (p + 5) cs
        · rw [hE] at cs
          exact ⟨fun q => absurd q (by omega), fun _ => err e cs⟩
      · rw [w32_id (by omega) (by omega)]
        exact err p (by unfold pstep; rw [cs0, if_pos (by omega)])
    · rw [w32_id (by omega) (by omega)]
      exact err p (by unfold pstep; rw [if_pos (by omega)])
theorem m_readPay {X : St} {σ : Mem} {Q : Int → Mem → Prop} (hT : TB T) (hm : m ≤ 8) (hlm : lm ≤ 8) (hM : MSt X σ) (hnm : nN X.1 = m) (hP : PS T 0 (-1) σ) (h1 : ∀ (e : Nat) σ', (payR T m lm).1 = some e → σ' 300 8 = (e : Int) → e ≤ 1000 → MSt X σ' → (∀ i, i < 300 ∨ i = 340 → σ' i = σ i) → Q (-1) σ') (h2 : ∀ σ', (payR T m lm).1 = none → MA (payR T m lm).2 σ' → MSt X σ' → (∀ i, i < 300 ∨ i = 340 → σ' i = σ i) → Q ((payR T m lm).2.length : Int) σ') : wLX11_readPayments_6 Q (lm : Int) 0 σ := by
  have tl := hT.2
  unfold wLX11_readPayments_6
  refine lp_in (I := fun y ρ => ∃ (f p : Nat) (Y : List Py) (l : Nat), y = ((lm : Int), (l : Int)) ∧ MSt X ρ ∧ (∀ i, i < 300 ∨ i = 340 → ρ i = σ i) ∧ ((PS T p (-1) ρ ∧ l = Y.length ∧ (p = 6 * Y.length ∧ p ≤ 86 ∧ 80 ≤ p + 6 * f) ∧ payF T m lm f p Y = payR T m lm ∧ YOK m lm Y ∧ MA Y ρ) ∨ ∃ e : Nat, PS T p (e : Int) ρ ∧ (payR T m lm).1 = some e ∧ e ≤ 1000)) (μ := fun _ ρ => if ρ 300 8 = -1 then (200 - ρ 300 7).toNat + 1 else 0) ?_ _ _ ⟨20, 0, [], 0, rfl, hM, fun _ _ => rfl, Or.inl ⟨hP, rfl, ⟨rfl, by omega, by omega⟩, rfl, ⟨by simp, fun z hz => by simp at hz⟩, fun j z hj => by simp at hj⟩⟩
  rintro y ρ ⟨f, p, Y, l, rfl, Mr, Fr, hc⟩ K2 hK2
  dsimp only [wX11_readPayments_6]
  rcases hc with ⟨Pr, hlY, hp, hfin, hO, hA⟩ | ⟨e, Pr, he, heb⟩
  · refine m_fine Pr (fun _ => ⟨fun q => absurd q (by decide), fun _ => ?_⟩) (fun q => absurd rfl q)
    rw [Pr.1, Pr.2.2.1, Mr.1.1]
    have b1 := ltr_b (T := T) p m
    have b2 := ltr_b (T := T) (p + 1) m
    have yl := hO.1
    refine ⟨fun z => ?_, fun z => ?_⟩
    · rw [payF_end (by omega)] at hfin
      unfold wX11_readPayments_158
      refine m_wasRight Pr (fun _ _ => ⟨fun q => absurd q (by decide), fun _ => ?_⟩) (fun q => absurd ⟨rfl, by omega⟩ q)
      have q := h2 ρ (by rw [← hfin]) (by rw [← hfin]; exact hA) Mr Fr
      rw [← hfin] at q
      rw [hlY]
      exact q
    · have hpl : ¬ T.length ≤ p := by omega
      have hf1 : 1 ≤ f := by omega
      have fail : ∀ (l' : Int) (a e : Nat) (τ2 : Mem), (∃ l2 : Nat, l' = (l2 : Int)) → pstep T m lm Y.length p = some e → e ≤ 1000 → PS T a (e : Int) τ2 → MSt X τ2 → (∀ i, i < 300 ∨ i = 340 → τ2 i = σ i) → K2 ((lm : Int), l') τ2 := fun l' a e τ2 hl he hb P2 M2 F2 => by
        obtain ⟨l2, rfl⟩ := hl
        refine hK2 _ _ ⟨f, a, Y, l2, rfl, M2, F2, Or.inr ⟨e, P2, by rw [← hfin, payF_err hpl hf1 he], hb⟩⟩ ?_
        (try dsimp only)
        rw [if_neg (by rw [P2.2.2.2]; omega), if_pos (by rw [Pr.2.2.2])]
        omega
      refine ⟨fun z0 => ?_, fun z0 => ?_⟩
      · have cs0 : ∀ q, (if lm ≤ Y.length then some p else q) = q := fun q => if_neg (by omega)
        -- the three numbers are laid down
        have lay : ∀ (x3 x4 x5 : Int) (τ2 : Mem), (∀ τ3, (∀ i, i ≠ 310 → τ3 i = τ2 i) → (∀ j, j ≠ 3 * l → j ≠ 3 * l + 1 → j ≠ 3 * l + 2 → τ3 310 j = τ2 310 j) → τ3 310 (3 * l) = x3 → τ3 310 (3 * l + 1) = x4 → τ3 310 (3 * l + 2) = x5 → K2 ((lm : Int), ((l + 1 : Nat) : Int)) τ3) → wX11_readPayments_119 K2 Q (lm : Int) (l : Int) x3 x4 x5 τ2 := fun x3 x4 x5 τ2 hq => by
          unfold wX11_readPayments_119
          rw [w32n (x := 3 * (l : Int)) (3 * l) (by omega) (by omega), w32n (x := ((3 * l : Nat) : Int) + 1) (3 * l + 1) (by omega) (by omega), w32n (x := ((3 * l : Nat) : Int) + 2) (3 * l + 2) (by omega) (by omega), tn, tn, tn]
          refine ⟨by omega, ?_⟩
          rintro n1 d1
          refine ⟨by omega, ?_⟩
          rintro n2 d2
          refine ⟨by omega, ?_⟩
          rintro n3 d3 _ rfl
          rw [show w32 ((l : Int) + 1) = ((l + 1 : Nat) : Int) by rw [w32_id (by omega) (by omega)]; rfl]
          refine hq n3 (fun i hi => by rw [d3, up2_ne hi, d2, up2_ne hi, d1, up2_ne hi]) (fun j a1 a2 a3 => by rw [d3, up2_nj a3, d2, up2_nj a2, d1, up2_nj a1]) ?_ ?_ ?_
          · rw [d3, up2_nj (by omega), d2, up2_nj (by omega), d1, up2_eq]
          · rw [d3, up2_nj (by omega), d2, up2_eq]
          · rw [d3, up2_eq]
        have bad119 : ∀ (x3 x4 x5 : Int) (a e : Nat) (τ2 : Mem), pstep T m lm Y.length p = some e → e ≤ 1000 → PS T a (e : Int) τ2 → MSt X τ2 → (∀ i, i < 300 ∨ i = 340 → τ2 i = σ i) → wX11_readPayments_119 K2 Q (lm : Int) (l : Int) x3 x4 x5 τ2 := fun x3 x4 x5 a e τ2 he hb P2 M2 F2 => lay x3 x4 x5 τ2 (fun τ3 g1 _ _ _ _ => fail _ a e τ3 ⟨l + 1, rfl⟩ he hb (P2.fr (fun j _ => by rw [g1 300 (by omega)]) (g1 302 (by omega))) (M2.rd (fun i _ a2 _ => g1 i a2) (fun j _ _ => by rw [g1 300 (by omega)])) (fun i hi => by rw [g1 i (by omega)]; exact F2 i hi))
        have bad90 : ∀ (l3 l4 : Int) (a e : Nat) (τ2 : Mem), pstep T m lm Y.length p = some e → e ≤ 1000 → PS T a (e : Int) τ2 → MSt X τ2 → (∀ i, i < 300 ∨ i = 340 → τ2 i = σ i) → wX11_readPayments_90 K2 Q (lm : Int) (l : Int) l3 l4 τ2 := fun l3 l4 a e τ2 he hb P2 M2 F2 => by
          unfold wX11_readPayments_90
          exact m_digits (k := 4) (by omega) hT P2 (fun q => m_fine P2 (fun q => absurd q (by omega)) (fun _ => ⟨fun _ => bad119 _ _ _ a e τ2 he hb P2 M2 F2, fun q => absurd rfl q⟩)) (fun q => absurd q (by omega)) (fun q => absurd q (by omega))
        have e97 : ∀ q : Nat, ((97 : Nat) : Int) ≤ sgn T q → sgn T q < ((97 : Nat) : Int) + (m : Int) → ltr T q m = sgn T q - 97 := fun q a1 a2 => by unfold ltr; rw [if_pos (by omega)]
        have n97 : ∀ q : Nat, ¬ (((97 : Nat) : Int) ≤ sgn T q ∧ sgn T q < ((97 : Nat) : Int) + (m : Int)) → ltr T q m = -1 := fun q a1 => by unfold ltr; rw [if_neg (by omega)]
        rw [hnm]
        refine m_oneOf (f := 97) (m := m) (by omega) (by omega) hT Pr (fun q => absurd rfl q) (fun _ x1 x2 σ3 P3 F3 => ?_) (fun _ x1 σ3 P3 F3 => ?_)
        · have M3 : MSt X σ3 := Mr.rd (fun i a1 _ _ => F3.1 i a1) F3.2
          have f3 : ∀ i, i < 300 ∨ i = 340 → σ3 i = σ i := fun i hi => by rw [F3.1 i (by omega)]; exact Fr i hi
          have ea := e97 p x1 x2
          obtain ⟨u, eu⟩ : ∃ u : Nat, sgn T p - ((97 : Nat) : Int) = (u : Int) := ⟨(sgn T p - 97).toNat, by omega⟩
          rw [eu, M3.1.1, hnm]
          refine m_oneOf (f := 97) (m := m) (by omega) (by omega) hT P3 (fun q => absurd rfl q) (fun _ x3 x4 σ4 P4 F4 => ?_) (fun _ x3 σ4 P4 F4 => ?_)
          · have M4 : MSt X σ4 := M3.rd (fun i a1 _ _ => F4.1 i a1) F4.2
            have f4 : ∀ i, i < 300 ∨ i = 340 → σ4 i = σ i := fun i hi => by rw [F4.1 i (by omega)]; exact f3 i hi
            have eb := e97 (p + 1) x3 x4
            obtain ⟨v, ev⟩ : ∃ v : Nat, sgn T (p + 1) - ((97 : Nat) : Int) = (v : Int) := ⟨(sgn T (p + 1) - 97).toNat, by omega⟩
            rw [ev]
            refine m_fine P4 (fun _ => ⟨fun q => absurd q (by decide), fun _ => ⟨fun y3 => ?_, fun y3 => ?_⟩⟩) (fun q => absurd rfl q)
            · have cs : pstep T m lm Y.length p = match numE T (p + 2) 4 with | some e => some e | none => if numA T (p + 2) 4 = 0 then some (p + 5) else none := by unfold pstep; rw [cs0, if_neg (by omega), if_neg (by omega)]
              unfold wX11_readPayments_90
              refine m_digits (k := 4) (by omega) hT P4 (fun q => absurd rfl q) (fun _ hE σ5 P5 F5 => ?_) (fun _ e hE v0 σ5 P5 F5 => ?_)
              · rw [show p + 1 + 1 = p + 2 by omega] at hE P5 ⊢
                have M5 : MSt X σ5 := M4.rd (fun i a1 _ _ => F5.1 i a1) F5.2
                have f5 : ∀ i, i < 300 ∨ i = 340 → σ5 i = σ i := fun i hi => by rw [F5.1 i (by omega)]; exact f4 i hi
                have nb := numA_b (T := T) (p := p + 2) 4 (by omega) (numE_none hE)
                rw [hE] at cs
                dsimp only at cs
                refine m_fine P5 (fun _ => ⟨fun q => absurd q (by decide), fun _ => ⟨fun y4 => ?_, fun y4 => ?_⟩⟩) (fun q => absurd rfl q)
                · rw [if_neg y4] at cs
                  refine lay _ _ _ σ5 (fun τ3 g1 g2 g3 g4 g5 => ?_)
                  rw [payF_go hpl hf1 cs] at hfin
                  have P7 : PS T (p + 6) (-1) τ3 := P5.fr (fun j _ => by rw [g1 300 (by omega)]) (g1 302 (by omega))
                  refine hK2 _ _ ⟨f - 1, p + 6, Y ++ [pOf T m p], l + 1, rfl, M5.rd (fun i _ a2 _ => g1 i a2) (fun j _ _ => by rw [g1 300 (by omega)]), fun i hi => by rw [g1 i (by omega)]; exact f5 i hi, Or.inl ⟨P7, by rw [List.length_append]; simp; omega, ⟨by rw [List.length_append]; simp; omega, by omega, by omega⟩, hfin, yok_set hO cs, fun j z hj => ?_⟩⟩ ?_
                  · rcases getE_app hj with q | ⟨q1, q2⟩
                    · have hl := (List.getElem?_eq_some_iff.mp q).1
                      have := hA j z q
                      rw [g2 _ (by omega) (by omega) (by omega), g2 _ (by omega) (by omega) (by omega), g2 _ (by omega) (by omega) (by omega), F5.1 310 (by omega), F4.1 310 (by omega), F3.1 310 (by omega)]
                      exact this
                    · rw [q1, q2, ← hlY, g3, g4, g5]
                      refine ⟨?_, ?_, rfl⟩
                      · show (u : Int) = ((ltr T p m).toNat : Int); omega
                      · show (v : Int) = ((ltr T (p + 1) m).toNat : Int); omega
                  · (try dsimp only)
                    rw [if_pos P7.2.2.2, if_pos Pr.2.2.2, P7.2.2.1, Pr.2.2.1]; omega
                · rw [if_pos y4] at cs
                  rw [P5.2.2.1, show w32 (((p + 2 + 4 : Nat) : Int) - 1) = ((p + 5 : Nat) : Int) by rw [w32_id (by omega) (by omega)]; omega]
                  refine m_fault P5 (fun σ6 P6 F6 => ?_)
                  rw [if_pos rfl] at P6
                  exact bad119 _ _ _ _ (p + 5) σ6 cs (by omega) P6 (M5.rd (fun i a1 _ _ => F6.1 i a1) F6.2) (fun i hi => by rw [F6.1 i (by omega)]; exact f5 i hi)
              · rw [show p + 1 + 1 = p + 2 by omega] at hE
                rw [hE] at cs
                have el := numE_lt hE
                exact m_fine P5 (fun q => absurd q (by omega)) (fun _ => ⟨fun _ => bad119 _ _ _ e e σ5 cs (by omega) P5 (M4.rd (fun i a1 _ _ => F5.1 i a1) F5.2) (fun i hi => by rw [F5.1 i (by omega)]; exact f4 i hi), fun q => absurd rfl q⟩)
            · rw [P4.2.2.1, show w32 (((p + 1 + 1 : Nat) : Int) - 1) = ((p + 1 : Nat) : Int) by rw [w32_id (by omega) (by omega)]; omega]
              refine m_fault P4 (fun σ5 P5 F5 => ?_)
              rw [if_pos rfl] at P5
              refine bad90 _ _ _ (p + 1) σ5 ?_ (by omega) P5 (M4.rd (fun i a1 _ _ => F5.1 i a1) F5.2) (fun i hi => by rw [F5.1 i (by omega)]; exact f4 i hi)
              unfold pstep
              rw [cs0, if_neg (by omega), if_pos (Or.inr (by omega))]
          · have eb := n97 (p + 1) x3
            refine m_fine P4 (fun q => absurd q (by omega)) (fun _ => ⟨fun _ => bad90 _ _ _ (p + 1) σ4 ?_ (by omega) P4 (M3.rd (fun i a1 _ _ => F4.1 i a1) F4.2) (fun i hi => by rw [F4.1 i (by omega)]; exact f3 i hi), fun q => absurd rfl q⟩)
            unfold pstep
            rw [cs0, if_neg (by omega), if_pos (Or.inl (by omega))]
        · have ea := n97 p x1
          have M3 : MSt X σ3 := Mr.rd (fun i a1 _ _ => F3.1 i a1) F3.2
          rw [M3.1.1, hnm]
          refine m_oneOf (f := 97) (m := m) (by omega) (by omega) hT P3 (fun _ => ?_) (fun q => absurd q (by omega)) (fun q => absurd q (by omega))
          refine m_fine P3 (fun q => absurd q (by omega)) (fun _ => ⟨fun _ => bad90 _ _ _ p σ3 ?_ (by omega) P3 M3 (fun i hi => by rw [F3.1 i (by omega)]; exact Fr i hi), fun q => absurd rfl q⟩)
          unfold pstep
          rw [cs0, if_pos (by omega)]
      · refine m_fault Pr (fun σ3 P3 F3 => ?_)
        rw [if_pos rfl] at P3
        exact fail _ p p σ3 ⟨l, rfl⟩ (by unfold pstep; rw [if_pos (by omega)]) (by omega) P3 (Mr.rd (fun i a1 _ _ => F3.1 i a1) F3.2) (fun i hi => by rw [F3.1 i (by omega)]; exact Fr i hi)
  · refine m_fine Pr (fun q => absurd q (by omega)) (fun _ => ⟨fun _ => ?_, fun q => absurd rfl q⟩)
    unfold wX11_readPayments_158
    refine m_wasRight Pr (fun q => absurd q (by omega)) (fun _ σ' P' F' => ⟨fun _ => ?_, fun q => absurd rfl q⟩)
    rw [if_neg (by omega)] at P'
    exact h1 e σ' he P'.2.2.2 heb (Mr.rd (fun i a1 _ _ => F'.1 i a1) F'.2) (fun i hi => by rw [F'.1 i (by omega)]; exact Fr i hi)
end READP
