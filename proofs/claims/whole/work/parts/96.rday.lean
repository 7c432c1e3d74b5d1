/-! a day's text -/
def dZ (T : List Int) (p : Nat) : A4 := ((sgn T p).toNat, if 1 ≤ lg (sgn T p) then (ltr T (p + 1) 8).toNat else 0, if 2 ≤ lg (sgn T p) then (ltr T (p + 2) 8).toNat else 0, numA T (p + 1 + (lg (sgn T p)).toNat) (dgs (sgn T p)))
def dstep (T : List Int) (p : Nat) : Option Nat := if lg (sgn T p) < 0 then some p else if 1 ≤ lg (sgn T p) ∧ ltr T (p + 1) 8 < 0 then some (p + 1) else if 2 ≤ lg (sgn T p) ∧ ltr T (p + 2) 8 < 0 then some (p + 2) else numE T (p + 1 + (lg (sgn T p)).toNat) (dgs (sgn T p))
def dnext (T : List Int) (p : Nat) : Nat := p + 1 + (lg (sgn T p)).toNat + dgs (sgn T p)
def dayF (T : List Int) : Nat → Nat → List A4 → Option Nat × List A4
  | 0, _, Z => (none, Z)
  | f + 1, p, Z => if T.length ≤ p then (none, Z) else match dstep T p with
    | some e => (some e, Z)
    | none => dayF T f (dnext T p) (Z ++ [dZ T p])
def dayR (T : List Int) : Option Nat × List A4 := dayF T 80 0 []
theorem dayF_end {T : List Int} {f p : Nat} {Z : List A4} (h : T.length ≤ p) : dayF T f p Z = (none, Z) := by
  cases f with
  | zero => rfl
  | succ f => rw [dayF, if_pos h]
theorem dayF_err {T : List Int} {f p e : Nat} {Z : List A4} (hp : ¬ T.length ≤ p) (hf : 1 ≤ f) (h : dstep T p = some e) : dayF T f p Z = (some e, Z) := by
  obtain ⟨f, rfl⟩ : ∃ g, f = g + 1 := ⟨f - 1, by omega⟩
  rw [dayF, if_neg hp, h]
theorem dayF_go {T : List Int} {f p : Nat} {Z : List A4} (hp : ¬ T.length ≤ p) (hf : 1 ≤ f) (h : dstep T p = none) : dayF T f p Z = dayF T (f - 1) (dnext T p) (Z ++ [dZ T p]) := by
  obtain ⟨f, rfl⟩ : ∃ g, f = g + 1 := ⟨f - 1, by omega⟩
  rw [dayF, if_neg hp, h]
  rfl
theorem lg_b (g : Int) : -1 ≤ lg g ∧ lg g ≤ 2 := by
  unfold lg
  split
  · omega
  · split
    · omega
    · split <;> omega
theorem dgs_b (g : Int) : dgs g ≤ 4 := by
  unfold dgs
  split
  · omega
  · split
    · omega
    · split <;> omega
section RDAY
variable {T : List Int}
theorem dstep_none {p : Nat} (h : dstep T p = none) : 0 ≤ lg (sgn T p) ∧ (1 ≤ lg (sgn T p) → 0 ≤ ltr T (p + 1) 8) ∧ (2 ≤ lg (sgn T p) → 0 ≤ ltr T (p + 2) 8) ∧ numE T (p + 1 + (lg (sgn T p)).toNat) (dgs (sgn T p)) = none := by
  unfold dstep at h
  by_cases c : lg (sgn T p) < 0
  · rw [if_pos c] at h; cases h
  rw [if_neg c] at h
  by_cases c1 : 1 ≤ lg (sgn T p) ∧ ltr T (p + 1) 8 < 0
  · rw [if_pos c1] at h; cases h
  rw [if_neg c1] at h
  by_cases c2 : 2 ≤ lg (sgn T p) ∧ ltr T (p + 2) 8 < 0
  · rw [if_pos c2] at h; cases h
  rw [if_neg c2] at h
  exact ⟨by omega, fun q => by omega, fun q => by omega, h⟩
theorem dnext_le {p : Nat} (hp : p < T.length) (h : dstep T p = none) : dnext T p ≤ T.length := by
  obtain ⟨h0, h1, h2, h3⟩ := dstep_none h
  have lb := lg_b (sgn T p)
  unfold dnext
  by_cases c : dgs (sgn T p) = 0
  · rw [c]
    by_cases c2 : 2 ≤ lg (sgn T p)
    · have := ltr_lt (h2 c2); omega
    · by_cases c1 : 1 ≤ lg (sgn T p)
      · have := ltr_lt (h1 c1); omega
      · omega
  · have := dg_lt (numE_none h3 (dgs (sgn T p) - 1) (by omega))
    omega
theorem dz_ok {p : Nat} (hT : TB T) (h : dstep T p = none) : ZOK (dZ T p) := by
  obtain ⟨h0, h1, h2, h3⟩ := dstep_none h
  have b1 := ltr_b (T := T) (p + 1) 8
  have b2 := ltr_b (T := T) (p + 2) 8
  have nb := numA_b (T := T) (p := p + 1 + (lg (sgn T p)).toNat) (dgs (sgn T p)) (dgs_b _) (numE_none h3)
  have sb := sgn_b hT p
  have e : (((sgn T p).toNat : Nat) : Int) = sgn T p := by
    by_cases c : 0 ≤ sgn T p
    · omega
    · have : sgn T p = -1 := by omega
      rw [this] at h0
      exact absurd h0 (by decide)
  refine ⟨?_, ?_, ?_, nb.1, nb.2.2.2.2.2⟩
  · show 0 ≤ lg (((sgn T p).toNat : Nat) : Int)
    rw [e]; exact h0
  · show (if 1 ≤ lg (sgn T p) then (ltr T (p + 1) 8).toNat else 0) < 8
    split <;> omega
  · show (if 2 ≤ lg (sgn T p) then (ltr T (p + 2) 8).toNat else 0) < 8
    split <;> omega
theorem dayF_ok (hT : TB T) : ∀ (f p : Nat) (Z : List A4), (∀ z ∈ Z, ZOK z) → Z.length ≤ p → p ≤ T.length → (∀ z ∈ (dayF T f p Z).2, ZOK z) ∧ (dayF T f p Z).2.length ≤ T.length
  | 0, p, Z, h, h2, h3 => ⟨h, by show Z.length ≤ _; omega⟩
  | f + 1, p, Z, h, h2, h3 => by
    unfold dayF
    by_cases c : T.length ≤ p
    · rw [if_pos c]; exact ⟨h, by (try dsimp only); omega⟩
    · rw [if_neg c]
      cases e : dstep T p with
      | some q => exact ⟨h, by (try dsimp only); omega⟩
      | none =>
        refine dayF_ok hT f (dnext T p) _ (fun z hz => ?_) ?_ (dnext_le (by omega) e)
        · rcases List.mem_append.mp hz with q | q
          · exact h z q
          · simp at q
            rw [q]; exact dz_ok hT e
        · rw [List.length_append]
          unfold dnext
          simp
          omega
/-- the acts lie in the class's rows -/
def CAD (Z : List A4) (σ : Mem) : Prop := σ 7 4 = (Z.length : Int) ∧ ∀ (j : Nat) (z : A4), Z[j]? = some z → σ 8 j = ((z.1 : Nat) : Int) ∧ σ 9 j = ((z.2.1 : Nat) : Int) ∧ σ 10 j = ((z.2.2.1 : Nat) : Int) ∧ σ 11 j = z.2.2.2
theorem s_lettersOf {g : Int} {σ : Mem} {Q : Int → Mem → Prop} (h : Q (lg g) σ) : wX0_lettersOf g σ Q := by
  unfold wX0_lettersOf
  refine ⟨fun e => ?_, fun e => ?_, fun e => ?_, fun e => ?_, fun e => ?_, fun e => ?_, fun e => ?_, fun e => ?_, fun e => ?_, fun e => ?_⟩
  · subst e; exact h
  · subst e; exact h
  · subst e; exact h
  · subst e; exact h
  · subst e; exact h
  · subst e; exact h
  · subst e; exact h
  · subst e; exact h
  · subst e; exact h
  · have q : lg g = -1 := by unfold lg; rw [if_neg (by omega), if_neg (by omega), if_neg (by omega)]
    rw [q] at h; exact h
theorem s_digitsOf {g : Int} {σ : Mem} {Q : Int → Mem → Prop} (h : Q ((dgs g : Nat) : Int) σ) : wX0_digitsOf g σ Q := by
  unfold wX0_digitsOf
  refine ⟨fun e => ?_, fun e => ?_, fun e => ?_, fun e => ?_, fun e => ?_, fun e => ?_, fun e => ?_, fun e => ?_, fun e => ?_⟩
  · subst e; exact h
  · subst e; exact h
  · subst e; exact h
  · subst e; exact h
  · subst e; exact h
  · subst e; exact h
  · subst e; exact h
  · subst e; exact h
  · have q : dgs g = 0 := by unfold dgs; rw [if_neg (by omega), if_neg (by omega), if_neg (by omega)]
    rw [q] at h; exact h
theorem CAD.add {Z : List A4} {σ σ' : Mem} {z : A4} (h : CAD Z σ) (e4 : σ' 7 4 = ((Z.length + 1 : Nat) : Int)) (e8 : σ' 8 = up1 (σ 8) Z.length ((z.1 : Nat) : Int)) (e9 : σ' 9 = up1 (σ 9) Z.length ((z.2.1 : Nat) : Int)) (e10 : σ' 10 = up1 (σ 10) Z.length ((z.2.2.1 : Nat) : Int)) (e11 : σ' 11 = up1 (σ 11) Z.length z.2.2.2) : CAD (Z ++ [z]) σ' := by
  refine ⟨by rw [e4, List.length_append]; simp, fun j x hj => ?_⟩
  rw [e8, e9, e10, e11]
  rcases getE_app hj with q | ⟨q1, q2⟩
  · have hl := (List.getElem?_eq_some_iff.mp q).1
    rw [up1_ne (by omega), up1_ne (by omega), up1_ne (by omega), up1_ne (by omega)]
    exact h.2 j x q
  · rw [q1, q2, up1_eq, up1_eq, up1_eq, up1_eq]
    exact ⟨rfl, rfl, rfl, rfl⟩
theorem s_readDay {σ : Mem} {Q : Int → Mem → Prop} (hT : TB T) (hC : CT T σ) (h1 : ∀ (e : Nat) σ', (dayR T).1 = some e → (∀ i, ¬ (7 ≤ i ∧ i ≤ 11) → σ' i = σ i) → Q (-1 - (e : Int)) σ') (h2 : ∀ σ', (dayR T).1 = none → CAD (dayR T).2 σ' → (∀ i, ¬ (7 ≤ i ∧ i ≤ 11) → σ' i = σ i) → Q ((dayR T).2.length : Int) σ') : wX0_readDay σ Q := by
  have tl := hT.2
  unfold wX0_readDay
  rintro m1 e1
  unfold wLX0_readDay_7
  refine lp_in (I := fun y τ => ∃ (f p : Nat) (Z : List A4), y = (p : Int) ∧ (Z.length ≤ p ∧ p ≤ T.length ∧ 80 ≤ p + f) ∧ dayF T f p Z = dayR T ∧ CAD Z τ ∧ ∀ i, ¬ (7 ≤ i ∧ i ≤ 11) → τ i = σ i) (μ := fun y _ => (100 - y).toNat) ?_ _ _ ⟨80, 0, [], rfl, ⟨by simp, by omega, by omega⟩, rfl, ⟨by rw [e1, up2_eq]; rfl, fun j z hj => by simp at hj⟩, fun i hi => by rw [e1, up2_ne (by omega)]⟩
  rintro y τ ⟨f, p, Z, rfl, hp, hfin, hA, hF⟩ K hK
  dsimp only [wX0_readDay_7]
  have Ct : CT T τ := hC.fr (hF 5 (by omega)) (hF 6 (by omega))
  rw [Ct.1, hA.1]
  refine ⟨fun z => ?_, fun z => ?_⟩
  · rw [dayF_end (by omega)] at hfin
    have q := h2 τ (by rw [← hfin]) (by rw [← hfin]; exact hA) hF
    rw [← hfin] at q
    exact q
  · have hpl : ¬ T.length ≤ p := by omega
    have hf1 : 1 ≤ f := by omega
    have err : ∀ e : Nat, dstep T p = some e → e ≤ 1000 → Q (w32 (-1 - (e : Int))) τ := fun e he hb => by
      rw [w32_id (by omega) (by omega)]
      exact h1 e τ (by rw [← hfin, dayF_err hpl hf1 he]) hF
    have lb := lg_b (sgn T p)
    have p1 : w32 ((p : Int) + 1) = ((p + 1 : Nat) : Int) := by rw [w32_id (by omega) (by omega)]; rfl
    have p2 : w32 (((p + 1 : Nat) : Int) + 1) = ((p + 2 : Nat) : Int) := by rw [w32_id (by omega) (by omega)]; omega
    have b1 := ltr_b (T := T) (p + 1) 8
    have b2 := ltr_b (T := T) (p + 2) 8
    -- the last step: number and act
    have last : ∀ l5 s0 : Int, 0 ≤ lg (sgn T p) → (1 ≤ lg (sgn T p) → 0 ≤ ltr T (p + 1) 8) → (2 ≤ lg (sgn T p) → s0 = ltr T (p + 2) 8) → (¬ 2 ≤ lg (sgn T p) → s0 = 0) → (1 ≤ lg (sgn T p) → l5 = ltr T (p + 1) 8) → (¬ 1 ≤ lg (sgn T p) → l5 = 0) → wX0_readDay_85 K Q ((p + 1 : Nat) : Int) (sgn T p) (lg (sgn T p)) l5 s0 τ := by
      intro l5 s0 g0 g1 g2 g2' g3 g3'
      unfold wX0_readDay_85
      refine ⟨fun y0 => ?_, fun y0 => ?_⟩
      · have cs : dstep T p = numE T (p + 1 + (lg (sgn T p)).toNat) (dgs (sgn T p)) := by
          unfold dstep
          rw [if_neg (by omega), if_neg (fun q => by have := g1 q.1; omega), if_neg (fun q => by have := g2 q.1; omega)]
        rintro _ rfl
        rw [show w32 (((p + 1 : Nat) : Int) + lg (sgn T p)) = ((p + 1 + (lg (sgn T p)).toNat : Nat) : Int) by rw [w32_id (by omega) (by omega)]; omega]
        have db := dgs_b (sgn T p)
        refine s_digitsOf (s_numberAt (by omega) db hT Ct (fun hE => ?_) (fun e hE => ?_))
        · have nb := numA_b (T := T) (p := p + 1 + (lg (sgn T p)).toNat) (dgs (sgn T p)) db (numE_none hE)
          rw [hE] at cs
          have dn := dnext_le (by omega) cs
          refine ⟨fun _ => ?_, fun q => absurd nb.1 q⟩
          rintro _ rfl
          refine s_addAct (k := Z.length) (by omega) hA.1 (fun σ2 a4 a8 a9 a10 a11 f2 => ?_)
          rw [dayF_go hpl hf1 cs] at hfin
          have sb := (sgn_b hT p).2.2 (by omega)
          refine hK _ _ ⟨f - 1, dnext T p, Z ++ [dZ T p], ?_, ⟨?_, dn, ?_⟩, hfin, hA.add a4 ?_ ?_ ?_ a11, fun i hi => by rw [f2 i hi]; exact hF i hi⟩ ?_
          · rw [w32_id (by omega) (by omega)]; rfl
          · rw [List.length_append]; unfold dnext; simp; omega
          · unfold dnext; omega
          · rw [a8, show ((dZ T p).1 : Int) = sgn T p from Int.toNat_of_nonneg sb]
          · have e : ((dZ T p).2.1 : Int) = l5 := by
              show (((if 1 ≤ lg (sgn T p) then (ltr T (p + 1) 8).toNat else 0) : Nat) : Int) = l5
              by_cases c : 1 ≤ lg (sgn T p)
              · rw [if_pos c, g3 c]; exact Int.toNat_of_nonneg (g1 c)
              · rw [if_neg c, g3' c]; rfl
            rw [a9, e]
          · have e : ((dZ T p).2.2.1 : Int) = s0 := by
              show (((if 2 ≤ lg (sgn T p) then (ltr T (p + 2) 8).toNat else 0) : Nat) : Int) = s0
              by_cases c : 2 ≤ lg (sgn T p)
              · rw [if_pos c, g2 c]; exact Int.toNat_of_nonneg (by rw [← g2 c]; exact y0)
              · rw [if_neg c, g2' c]; rfl
            rw [a10, e]
          · rw [w32_id (by omega) (by omega)]; omega
        · rw [hE] at cs
          have el := numE_lt hE
          have q := err e cs (by omega)
          rw [w32_id (by omega) (by omega)] at q
          exact ⟨fun w => absurd w (by omega), fun _ => q⟩
      · have c2 : 2 ≤ lg (sgn T p) := by
          by_cases c : 2 ≤ lg (sgn T p)
          · exact c
          · have := g2' c; omega
        rw [p2]
        exact err (p + 2) (by unfold dstep; rw [if_neg (by omega), if_neg (fun q => by have := g1 q.1; omega), if_pos ⟨c2, by rw [← g2 c2]; omega⟩]) (by omega)
    refine s_signAt hT Ct (s_lettersOf ⟨fun y0 => ?_, fun y0 => err p (by unfold dstep; rw [if_pos (by omega)]) (by omega)⟩)
    rintro _ rfl
    rw [p1]
    refine ⟨fun y1 => ?_, fun y1 => s_letterAt (m := 8) (by omega) hT Ct ?_⟩
    · unfold wX0_readDay_55
      exact ⟨fun _ => ⟨fun _ => last 0 0 y0 (fun q => absurd q (by omega)) (fun q => absurd q (by omega)) (fun _ => rfl) (fun q => absurd q (by omega)) (fun _ => rfl), fun q => absurd q (by omega)⟩, fun q => absurd (Int.le_refl _) q⟩
    · unfold wX0_readDay_55
      rw [p2]
      refine ⟨fun y2 => ⟨fun y3 => last _ 0 y0 (fun _ => y2) (fun q => absurd q (by omega)) (fun _ => rfl) (fun _ => rfl) (fun q => absurd (by omega) q), fun y3 => s_letterAt (m := 8) (by omega) hT Ct (last _ _ y0 (fun _ => y2) (fun _ => rfl) (fun q => absurd (by omega) q) (fun _ => rfl) (fun q => absurd (by omega) q))⟩, fun y2 => ?_⟩
      exact err (p + 1) (by unfold dstep; rw [if_neg (by omega), if_pos ⟨by omega, by omega⟩]) (by omega)
end RDAY
