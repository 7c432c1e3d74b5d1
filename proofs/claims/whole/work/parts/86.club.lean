/-! a club that is told -/
def cIdx (T : List Int) (n p : Nat) : Nat := 8 * (ltr T p n).toNat + (ltr T (p + 1) n).toNat
/-- where a line that begins at p is wrong -/
def cstep (T : List Int) (n : Nat) (told : Nat → Int) (p : Nat) : Option Nat := if ltr T p n < 0 then some p else if ltr T (p + 1) n < 0 ∨ ltr T (p + 1) n = ltr T p n ∨ told (cIdx T n p) ≠ -1 then some (p + 1) else numE T (p + 2) 3
def clubF (T : List Int) (n : Nat) : Nat → Nat → (Nat → Int) → Nat → Option Nat × (Nat → Int) × Nat
  | 0, _, told, l => (none, told, l)
  | f + 1, p, told, l => if T.length ≤ p then (none, told, l) else match cstep T n told p with
    | some e => (some e, told, l)
    | none => clubF T n f (p + 5) (up1 told (cIdx T n p) (numA T (p + 2) 3)) (l + 1)
def clubR (T : List Int) (n : Nat) : Option Nat × (Nat → Int) × Nat := clubF T n 20 1 (fun _ => -1) 0
def clubB (n : Nat) (told : Nat → Int) : Bk := wLim (newB n) (fun i => max 0 (told i))
def ToldOK (n : Nat) (told : Nat → Int) : Prop := ∀ i, i < 64 → (-1 ≤ told i ∧ told i ≤ 999) ∧ ((n ≤ i / 8 ∨ n ≤ i % 8 ∨ i / 8 = i % 8) → told i = -1)
theorem clubF_end {T : List Int} {n : Nat} {f p : Nat} {told : Nat → Int} {l : Nat} (h : T.length ≤ p) : clubF T n f p told l = (none, told, l) := by
  cases f with
  | zero => rfl
  | succ f => rw [clubF, if_pos h]
theorem clubF_err {T : List Int} {n : Nat} {f p e : Nat} {told : Nat → Int} {l : Nat} (hp : ¬ T.length ≤ p) (hf : 1 ≤ f) (h : cstep T n told p = some e) : clubF T n f p told l = (some e, told, l) := by
  obtain ⟨f, rfl⟩ : ∃ g, f = g + 1 := ⟨f - 1, by omega⟩
  rw [clubF, if_neg hp, h]
theorem clubF_go {T : List Int} {n : Nat} {f p : Nat} {told : Nat → Int} {l : Nat} (hp : ¬ T.length ≤ p) (hf : 1 ≤ f) (h : cstep T n told p = none) : clubF T n f p told l = clubF T n (f - 1) (p + 5) (up1 told (cIdx T n p) (numA T (p + 2) 3)) (l + 1) := by
  obtain ⟨f, rfl⟩ : ∃ g, f = g + 1 := ⟨f - 1, by omega⟩
  rw [clubF, if_neg hp, h]
  rfl
section CLUB
variable {T : List Int} {n : Nat}
theorem cstep_none {told : Nat → Int} {p : Nat} (h : cstep T n told p = none) : 0 ≤ ltr T p n ∧ 0 ≤ ltr T (p + 1) n ∧ ltr T (p + 1) n ≠ ltr T p n ∧ told (cIdx T n p) = -1 ∧ numE T (p + 2) 3 = none := by
  unfold cstep at h
  by_cases c : ltr T p n < 0
  · rw [if_pos c] at h; cases h
  · rw [if_neg c] at h
    by_cases c2 : ltr T (p + 1) n < 0 ∨ ltr T (p + 1) n = ltr T p n ∨ told (cIdx T n p) ≠ -1
    · rw [if_pos c2] at h; cases h
    · rw [if_neg c2] at h
      have c3 : told (cIdx T n p) = -1 := by
        by_cases q : told (cIdx T n p) = -1
        · exact q
        · exact absurd (Or.inr (Or.inr q)) c2
      exact ⟨by omega, by omega, fun q => c2 (Or.inr (Or.inl q)), c3, h⟩
theorem told_set {told : Nat → Int} {p : Nat} (hn : n ≤ 8) (hO : ToldOK n told) (h : cstep T n told p = none) : ToldOK n (up1 told (cIdx T n p) (numA T (p + 2) 3)) ∧ cIdx T n p < 64 := by
  obtain ⟨h1, h2, h3, h4, h5⟩ := cstep_none h
  have b1 := ltr_b (T := T) p n
  have b2 := ltr_b (T := T) (p + 1) n
  have nb := numA_b (T := T) (p := p + 2) 3 (by omega) (numE_none h5)
  have hi : cIdx T n p < 64 := by unfold cIdx; omega
  refine ⟨fun i hi2 => ?_, hi⟩
  by_cases c : i = cIdx T n p
  · rw [c, up1_eq]
    refine ⟨⟨by omega, nb.2.2.2.2.1 rfl⟩, fun z => ?_⟩
    exfalso
    unfold cIdx at z
    omega
  · rw [up1_ne c]; exact hO i hi2
theorem clubF_ok (hn : n ≤ 8) : ∀ (f p : Nat) (told : Nat → Int) (l : Nat), ToldOK n told → ToldOK n (clubF T n f p told l).2.1 ∧ (clubF T n f p told l).2.2 ≤ l + f
  | 0, p, told, l, h => ⟨h, Nat.le_refl _⟩
  | f + 1, p, told, l, h => by
    unfold clubF
    by_cases c : T.length ≤ p
    · rw [if_pos c]; exact ⟨h, by (try dsimp only); omega⟩
    · rw [if_neg c]
      cases e : cstep T n told p with
      | some q => exact ⟨h, by (try dsimp only); omega⟩
      | none =>
        have := clubF_ok hn f (p + 5) _ (l + 1) (told_set hn h e).1
        exact ⟨this.1, by (try dsimp only); omega⟩
theorem inv_club {told : Nat → Int} (hn : 2 ≤ n ∧ n ≤ 8) (h : ToldOK n told) : Inv (clubB n told) := by
  have hl : ∀ i, lim (clubB n told) i = max 0 (told i) := fun i => rfl
  refine ⟨⟨hn, fun i hi => ?_, fun i _ => ?_, fun i _ => ?_, fun p _ => ?_, fun p _ i _ => ?_⟩, ⟨fun u _ v _ => ?_, fun p _ u _ v _ => ?_, fun u hu v hv c => ⟨?_, rfl, fun _ _ => rfl⟩, fun m _ _ => rfl, fun p _ _ => ⟨rfl, rfl, fun _ _ => rfl⟩⟩, fun u hu v hv hne => ?_⟩
  · rw [hl]
    have := (h i hi).1
    omega
  · show -999 ≤ (0 : Int) ∧ (0 : Int) ≤ 999; omega
  · show 0 ≤ (0 : Int) ∧ (0 : Int) ≤ 999; omega
  · show 0 ≤ (0 : Int) ∧ (0 : Int) ≤ 9999; omega
  · show -9999 ≤ (0 : Int) ∧ (0 : Int) ≤ 9999; omega
  · show (0 : Int) = - 0; rfl
  · show (0 : Int) = - 0; rfl
  · rw [hl]
    have c' : n ≤ u ∨ n ≤ v ∨ u = v := c
    rw [(h (8 * u + v) (by omega)).2 (by rw [(dm8 hv).1, (dm8 hv).2]; exact c')]; rfl
  · unfold rm
    rw [hl]
    have e : hld (clubB n told) u v = 0 := sumTo_z (fun i _ => by
      unfold hldf
      show max (0 : Int) 0 = 0
      rfl)
    rw [e]
    show 0 ≤ max 0 (told (8 * v + u)) - 0 - 0
    omega
theorem s_readClub {σ : Mem} {Q : Int → Mem → Prop} (hT : TB T) (hC : CT T σ) (h0 : ¬ (2 ≤ dg T 0 ∧ dg T 0 ≤ 8) → Q (-1) σ) (h1 : ∀ (n e : Nat) σ', (n : Int) = dg T 0 → 2 ≤ n → n ≤ 8 → (clubR T n).1 = some e → (∀ i, ¬ (72 ≤ i ∧ i < 85) → σ' i = σ i) → Q (-1 - (e : Int)) σ') (h2 : ∀ (n : Nat) σ', (n : Int) = dg T 0 → 2 ≤ n → n ≤ 8 → (clubR T n).1 = none → CB 72 (clubB n (clubR T n).2.1) σ' → (∀ i, ¬ (72 ≤ i ∧ i < 85) → σ' i = σ i) → Q ((clubR T n).2.2 : Int) σ') : wX9_readClub 72 σ Q := by
  have tl := hT.2
  unfold wX9_readClub
  refine s_digitAt (p := 0) hT hC ⟨fun z => h0 (by omega), fun z => ⟨fun z2 => ?_, fun z2 => h0 (by omega)⟩⟩
  obtain ⟨n, en⟩ : ∃ n : Nat, dg T 0 = (n : Int) := ⟨(dg T 0).toNat, by omega⟩
  rw [en]
  have hn : 2 ≤ n ∧ n ≤ 8 := by omega
  refine s_startAnew (fun σ1 C1 f1 => ?_)
  unfold wLX9_readClub_32
  refine lp_in (I := fun y τ => ∃ (f p : Nat) (told : Nat → Int) (l : Nat) (seen : Int), y = ((n : Int), seen, (l : Int), (p : Int)) ∧ (p = 1 + 5 * l ∧ p ≤ 85 ∧ 80 ≤ p + 5 * f) ∧ clubF T n f p told l = clubR T n ∧ CB 72 (clubB n told) τ ∧ ToldOK n told ∧ (∀ i, i < 64 → lbit seen i = decide (told i ≠ -1)) ∧ ∀ i, ¬ (72 ≤ i ∧ i < 85) → τ i = σ i) (μ := fun y _ => (100 - y.2.2.2).toNat) ?_ _ _ ⟨20, 1, fun _ => -1, 0, 0, rfl, by omega, rfl, C1, fun i _ => ⟨by (try dsimp only); omega, fun _ => rfl⟩, fun i hi => by rw [lb_zero i hi]; rfl, f1⟩
  rintro y τ ⟨f, p, told, l, seen, rfl, hp, hfin, hT2, hO, hsn, hF⟩ K hK
  dsimp only [wX9_readClub_32]
  have Ct : CT T τ := hC.fr (hF 5 (by omega)) (hF 6 (by omega))
  have b1 := ltr_b (T := T) p n
  have b2 := ltr_b (T := T) (p + 1) n
  have p1 : w32 ((p : Int) + 1) = ((p + 1 : Nat) : Int) := by rw [w32_id (by omega) (by omega)]; rfl
  have p2 : w32 ((p : Int) + 2) = ((p + 2 : Nat) : Int) := by rw [w32_id (by omega) (by omega)]; rfl
  rw [Ct.1]
  refine ⟨fun z => ?_, fun z => ?_⟩
  · rw [clubF_end (by omega)] at hfin
    have q := h2 n τ en.symm hn.1 hn.2 (by rw [← hfin]) (by rw [← hfin]; exact hT2) hF
    rw [← hfin] at q
    exact q
  · have hpl : ¬ T.length ≤ p := by omega
    have hf1 : 1 ≤ f := by omega
    have err : ∀ e : Nat, cstep T n told p = some e → Q (-1 - (e : Int)) τ := fun e he => h1 n e τ en.symm hn.1 hn.2 (by rw [← hfin, clubF_err hpl hf1 he]) hF
    refine s_letterAt hn.2 hT Ct ⟨fun y1 => ?_, fun y1 => ?_⟩
    · rw [p1]
      have err2 : (ltr T (p + 1) n < 0 ∨ ltr T (p + 1) n = ltr T p n ∨ told (cIdx T n p) ≠ -1) → Q (w32 (-1 - ((p + 1 : Nat) : Int))) τ := fun q => by
        rw [w32_id (by omega) (by omega)]
        exact err (p + 1) (by unfold cstep; rw [if_neg (by omega), if_pos q])
      refine s_letterAt hn.2 hT Ct ⟨fun y2 => ?_, fun y2 => ⟨fun y3 => ?_, fun y3 => ?_⟩⟩
      · unfold wX9_readClub_99
        rw [p1]
        exact err2 (Or.inl y2)
      · unfold wX9_readClub_99
        rw [p1]
        exact err2 (Or.inr (Or.inl y3))
      · obtain ⟨u, eu⟩ : ∃ u : Nat, ltr T p n = (u : Int) := ⟨(ltr T p n).toNat, by omega⟩
        obtain ⟨v, ev⟩ : ∃ v : Nat, ltr T (p + 1) n = (v : Int) := ⟨(ltr T (p + 1) n).toNat, by omega⟩
        have hu : u < 8 := by omega
        have hv : v < 8 := by omega
        have eI : cIdx T n p = 8 * u + v := by unfold cIdx; rw [eu, ev, tn, tn]
        rw [eu, ev]
        refine s_at hu hv ⟨fun y4 => ?_, fun y4 => ?_⟩
        · rw [lb_test seen (lt64 hu hv), hsn _ (lt64 hu hv)] at y4
          have hto : told (cIdx T n p) = -1 := by
            rw [eI]
            by_cases q : told (8 * u + v) = -1
            · exact q
            · rw [decide_eq_true q] at y4; exact absurd rfl y4
          have cs : cstep T n told p = numE T (p + 2) 3 := by unfold cstep; rw [if_neg (by omega), if_neg (fun q => by rcases q with q | q | q <;> omega)]
          rw [p2]
          refine s_numberAt (k := 3) (by omega) (by omega) hT Ct (fun hE => ?_) (fun e hE => ?_)
          · have nb := numA_b (T := T) (p := p + 2) 3 (by omega) (numE_none hE)
            rw [hE] at cs
            refine ⟨fun _ => ?_, fun q => absurd nb.1 q⟩
            refine s_at hu hv ⟨rg64 hu hv, ?_⟩
            rintro m11 e11
            rw [tn] at e11
            refine s_at hu hv ?_
            rintro _ rfl _ rfl _ rfl
            rw [clubF_go hpl hf1 cs] at hfin
            have ts := told_set hn.2 hO cs
            refine hK _ _ ⟨f - 1, p + 5, up1 told (cIdx T n p) (numA T (p + 2) 3), l + 1, lbor seen (lshl 1 ((8 * u + v : Nat) : Int)), ?_, by omega, hfin, ?_, ts.1, fun i hi => ?_, fun i hi => by rw [e11, up2_ne (by omega)]; exact hF i hi⟩ ?_
            · rw [w32_id (by omega) (by omega), w32_id (by omega) (by omega)]; rfl
            · have q := CB_lim1 (v := numA T (p + 2) 3) (lt64 hu hv) hT2
              rw [← e11] at q
              refine ⟨q.1, fun i hi => (q.2.1 i hi).trans ?_, q.2.2.1, q.2.2.2.1, q.2.2.2.2⟩
              show up1 (lim (clubB n told)) (8 * u + v) (numA T (p + 2) 3) i = max 0 (up1 told (cIdx T n p) (numA T (p + 2) 3) i)
              rw [eI]
              by_cases c : i = 8 * u + v
              · rw [c, up1_eq, up1_eq]; omega
              · rw [up1_ne c, up1_ne c]; rfl
            · rw [lb_set seen (lt64 hu hv) hi, hsn i hi, eI]
              by_cases c : i = 8 * u + v
              · rw [c, up1_eq, decide_eq_true (rfl : 8 * u + v = 8 * u + v), decide_eq_true (show numA T (p + 2) 3 ≠ -1 by omega)]; simp
              · rw [up1_ne c, decide_eq_false c]; simp
            · (try dsimp only)
              rw [w32_id (by omega) (by omega)]; omega
          · rw [hE] at cs
            exact ⟨fun q => absurd q (by omega), fun _ => err e cs⟩
        · rw [lb_test seen (lt64 hu hv), hsn _ (lt64 hu hv)] at y4
          unfold wX9_readClub_99
          rw [p1]
          refine err2 (Or.inr (Or.inr ?_))
          rw [eI]
          exact of_decide_eq_true y4
    · rw [w32_id (by omega) (by omega)]
      exact err p (by unfold cstep; rw [if_pos (by omega)])
end CLUB
