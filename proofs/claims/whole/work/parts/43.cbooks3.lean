def dropB (B : Bk) (p : Nat) : Bk := wHld B (fun q k => if q = p then 0 else hdr B q k) (fun q i => if q = p then 0 else flo B q i)
def makeB (B : Bk) (p : Nat) : Bk := dropB (wDeb B (fun i => deb B i + flo B p i)) p
def newB (N : Nat) : Bk := (N, fun _ => 0, fun _ => 0, fun _ => 0, fun _ _ => 0, fun _ _ => 0)
def pos1 (x : Int) : Int := if x ≤ 0 then 0 else 1
def closeB (B : Bk) (m : Nat) : Bk := wLim B (fun i => if i / 8 = m ∨ i % 8 = m then 0 else lim B i)
def closeN (B : Bk) (m : Nat) : Int := sumTo (fun o => pos1 (lim B (8 * m + o)) + pos1 (lim B (8 * o + m))) (nN B)
def stepsB (B : Bk) (p : Nat) : Int := sumTo (fun i => pos1 (flo B p i)) 64
theorem pos1_b (x : Int) : 0 ≤ pos1 x ∧ pos1 x ≤ 1 := by unfold pos1; split <;> omega
theorem hdr_drop (B : Bk) (p q k : Nat) : hdr (dropB B p) q k = if q = p then 0 else hdr B q k := rfl
theorem flo_drop (B : Bk) (p q k : Nat) : flo (dropB B p) q k = if q = p then 0 else flo B q k := rfl
section CBOOKS
variable {b : Nat} {B : Bk} {σ : Mem}
theorem s_dropAt {Q : Int → Mem → Prop} {p : Nat} (hp : p < 4) (hh : 0 < hdr B p 2) (hC : CB b B σ) (h : ∀ σ', CB b (dropB B p) σ' → (∀ i, i ≠ b + 5 + p → σ' i = σ i) → Q (hdr B p 2) σ') : wX1_dropAt b p σ Q := by
  unfold wX1_dropAt
  refine s_isHeldAt hC (fun p' e _ _ => ⟨fun _ => ⟨⟨by omega, by omega⟩, ?_⟩, fun z => absurd z (by decide)⟩) (fun z => absurd ⟨by omega, by omega, by rw [tn]; exact hh⟩ z)
  rintro _ rfl
  refine ⟨⟨by omega, by omega⟩, ?_⟩
  rintro _ rfl
  simp only [tn]
  rw [(hC.2.2.2.2 p hp).1]
  refine h _ ?_ (fun i hi => up2_ne hi)
  refine ⟨?_, ?_, ?_, ?_, ?_⟩
  · rw [up2_ne (by omega)]; exact hC.1
  · rw [up2_ne (by omega)]; exact hC.2.1
  · rw [up2_ne (by omega)]; exact hC.2.2.1
  · rw [up2_ne (by omega)]; exact hC.2.2.2.1
  · intro q hq
    by_cases c : q = p
    · subst c
      refine ⟨?_, ?_⟩
      · rw [up2_eq, hdr_drop, if_pos rfl]
      · intro z; rw [hdr_drop, if_pos rfl] at z; omega
    · have e1 : hdr (dropB B p) q = hdr B q := by funext k; rw [hdr_drop, if_neg c]
      have e2 : flo (dropB B p) q = flo B q := by funext k; rw [flo_drop, if_neg c]
      rw [e1, e2, up2_ne (by omega), up2_ne (by omega)]
      exact hC.2.2.2.2 q hq
theorem s_dropAt0 {Q : Int → Mem → Prop} {p : Nat} (hp : p < 4) (hh : ¬ 0 < hdr B p 2) (hC : CB b B σ) (h : Q 0 σ) : wX1_dropAt b p σ Q := by
  unfold wX1_dropAt
  refine s_isHeldAt hC (fun p' e _ z => absurd z (by obtain rfl : p' = p := by omega
                                                     exact hh)) (fun z => ⟨fun z => absurd rfl z, fun _ => h⟩)
/-- what pairs ahead of (u, v) have paid -/
def mk1 (f : Nat → Int) (u v a c : Nat) : Int := if a < u ∨ (a = u ∧ c < v) then f (8 * a + c) else 0
def mkd (d f : Nat → Int) (u v i : Nat) : Int := d i + mk1 f u v (i / 8) (i % 8) - mk1 f u v (i % 8) (i / 8)
theorem mk1_s {f : Nat → Int} {u v a c : Nat} : mk1 f u (v + 1) a c = mk1 f u v a c + (if a = u ∧ c = v then f (8 * a + c) else 0) := by
  unfold mk1
  by_cases c1 : a < u ∨ (a = u ∧ c < v)
  · rw [if_pos c1, if_pos (by omega), if_neg (by omega)]; omega
  · rw [if_neg c1]
    by_cases c2 : a = u ∧ c = v
    · rw [if_pos (by omega), if_pos c2]; omega
    · rw [if_neg (by omega), if_neg c2]; rfl
theorem mkd_s {d f : Nat → Int} {u v i : Nat} (hu : u < 8) (hv : v < 8) (hi : i < 64) : mkd d f u (v + 1) i = pay (mkd d f u v) u v (f (8 * u + v)) i := by
  unfold pay mkd
  rw [mk1_s, mk1_s]
  have e1 : (i / 8 = u ∧ i % 8 = v) ↔ i = 8 * u + v := by omega
  have e2 : (i % 8 = u ∧ i / 8 = v) ↔ i = 8 * v + u := by omega
  by_cases c1 : i = 8 * u + v
  · rw [if_pos (e1.mpr c1), if_pos c1]
    have x1 : 8 * (i / 8) + i % 8 = 8 * u + v := by omega
    rw [x1]
    by_cases c2 : i = 8 * v + u
    · rw [if_pos (e2.mpr c2), if_pos c2]
      have x2 : 8 * (i % 8) + i / 8 = 8 * u + v := by omega
      rw [x2]; omega
    · rw [if_neg (fun z => c2 (e2.mp z)), if_neg c2]; omega
  · rw [if_neg (fun z => c1 (e1.mp z)), if_neg c1]
    by_cases c2 : i = 8 * v + u
    · rw [if_pos (e2.mpr c2), if_pos c2]
      have x2 : 8 * (i % 8) + i / 8 = 8 * u + v := by omega
      rw [x2]; omega
    · rw [if_neg (fun z => c2 (e2.mp z)), if_neg c2]; omega
theorem CB_deb {d d' : Nat → Int} (h : CB b (wDeb B d) σ) (e : ∀ i, i < 64 → d i = d' i) : CB b (wDeb B d') σ := ⟨h.1, h.2.1, fun i hi => (h.2.2.1 i hi).trans (e i hi), h.2.2.2.1, h.2.2.2.2⟩
theorem s_makeAt {Q : Int → Mem → Prop} {p : Nat} (hp : p < 4) (hh : 0 < hdr B p 2) (hC : CB b B σ) (hI : IvA B) (hZ : IvB B) (h : ∀ σ', CB b (makeB B p) σ' → (∀ i, ¬ (b ≤ i ∧ i < b + 13) → σ' i = σ i) → Q (hdr B p 2) σ') : wX1_makeAt b p σ Q := by
  unfold wX1_makeAt
  refine s_isHeldAt hC (fun p' e _ _ => ⟨fun _ => ⟨⟨by omega, by omega⟩, ?_⟩, fun z => absurd z (by decide)⟩) (fun z => absurd ⟨by omega, by omega, by rw [tn]; exact hh⟩ z)
  rw [tn]
  have hN := hI.1
  let f : Nat → Int := fun i => max (flo B p i) 0
  have hfb : ∀ i, i < 64 → 0 ≤ f i ∧ f i ≤ 9999 := fun i hi => by
    have := hI.2.2.2.2.2 p hp i hi
    show 0 ≤ max (flo B p i) 0 ∧ max (flo B p i) 0 ≤ 9999
    omega
  have hmb : ∀ u v a c, a < 8 → c < 8 → 0 ≤ mk1 f u v a c ∧ mk1 f u v a c ≤ 9999 := fun u v a c ha hc => by
    unfold mk1
    split
    · exact hfb _ (by omega)
    · omega
  have hdb : ∀ u v i, i < 64 → -100000 ≤ mkd (deb B) f u v i ∧ mkd (deb B) f u v i ≤ 100000 := fun u v i hi => by
    have h1 := hmb u v (i / 8) (i % 8) (by omega) (by omega)
    have h2 := hmb u v (i % 8) (i / 8) (by omega) (by omega)
    have h3 := hI.2.2.1 i hi
    unfold mkd
    omega
  unfold wLX1_makeAt_22
  refine lp_for (fun u x τ => x = ((p : Int), b + 5 + p + 4, (u : Int)) ∧ CB b (wDeb B (mkd (deb B) f u 0)) τ ∧ ∀ i, i ≠ b + 2 → τ i = σ i) (nN B) ?_ ?_ _ _ ⟨rfl, ?_, fun _ _ => rfl⟩
  · rintro u hu _ τ ⟨rfl, hT, hF⟩ K hK
    dsimp only [wX1_makeAt_22]
    refine ⟨fun z => absurd z (by rw [hT.1]; show ¬ ((nN B : Nat) : Int) ≤ _; omega), fun _ => ?_⟩
    unfold wLX1_makeAt_33
    refine lp_for (fun v x τ => x = ((p : Int), b + 5 + p + 4, (u : Int), (v : Int)) ∧ CB b (wDeb B (mkd (deb B) f u v)) τ ∧ ∀ i, i ≠ b + 2 → τ i = σ i) (nN B) ?_ ?_ _ _ ⟨rfl, hT, hF⟩
    · rintro v hv _ τ ⟨rfl, hT, hF⟩ K2 hK2
      dsimp only [wX1_makeAt_33]
      refine ⟨fun z => absurd z (by rw [hT.1]; show ¬ ((nN B : Nat) : Int) ≤ _; omega), fun _ => s_at (by omega) (by omega) ⟨rg64 (by omega) (by omega), ?_⟩⟩
      rw [tn, hF _ (by omega), ((hC.2.2.2.2 p hp).2 hh).2.2 _ (lt64 (by omega) (by omega))]
      refine s_pay (by omega) (by omega) hT (hdb _ _ _ (by omega)) (hdb _ _ _ (by omega)) (by have := hfb (8 * u + v) (by omega); exact ⟨by show _ ≤ f _; omega, by show f _ ≤ _; omega⟩) (fun σ' hC' hF' => ?_)
      rintro _ rfl
      refine hK2 _ _ ⟨by rw [w32_id (by omega) (by omega)]; rfl, ?_, fun i hi => (hF' i hi).trans (hF i hi)⟩
      exact CB_deb (B := B) hC' (fun i hi => (mkd_s (by omega) (by omega) hi).symm)
    · rintro _ τ ⟨rfl, hT, hF⟩ K2
      dsimp only [wX1_makeAt_33]
      refine ⟨fun _ => ?_, fun z => absurd z (by rw [hT.1]; show ¬ ¬ ((nN B : Nat) : Int) ≤ _; omega)⟩
      rintro _ rfl
      refine hK _ _ ⟨by rw [w32_id (by omega) (by omega)]; rfl, ?_, hF⟩
      refine CB_deb (B := B) hT (fun i hi => ?_)
      have hm : ∀ a c, a < 8 → c < 8 → mk1 f u (nN B) a c = mk1 f (u + 1) 0 a c := fun a c ha hc => by
        unfold mk1
        by_cases c1 : a < u ∨ (a = u ∧ c < nN B)
        · rw [if_pos c1, if_pos (by omega)]
        · rw [if_neg c1]
          by_cases c2 : a < u + 1 ∨ (a = u + 1 ∧ c < 0)
          · rw [if_pos c2]
            have := (hZ.2.2.1 a (by omega) c (by omega) (by omega)).2.2 p hp
            show 0 = max (flo B p _) 0
            rw [this]; rfl
          · rw [if_neg c2]
      unfold mkd
      rw [hm _ _ (by omega) (by omega), hm _ _ (by omega) (by omega)]
  · rintro _ τ ⟨rfl, hT, hF⟩ K
    dsimp only [wX1_makeAt_22]
    refine ⟨fun _ => ?_, fun z => absurd z (by rw [hT.1]; show ¬ ¬ ((nN B : Nat) : Int) ≤ _; omega)⟩
    have hT2 : CB b (wDeb B (fun i => deb B i + flo B p i)) τ := by
      refine CB_deb (B := B) hT (fun i hi => ?_)
      have hm : ∀ a c, a < 8 → c < 8 → mk1 f (nN B) 0 a c = max (flo B p (8 * a + c)) 0 := fun a c ha hc => by
        unfold mk1
        by_cases c1 : a < nN B ∨ (a = nN B ∧ c < 0)
        · rw [if_pos c1]
        · rw [if_neg c1]
          have := (hZ.2.2.1 a (by omega) c (by omega) (by omega)).2.2 p hp
          rw [this]; rfl
      unfold mkd
      rw [hm _ _ (by omega) (by omega), hm _ _ (by omega) (by omega)]
      have := hZ.2.1 p hp (i / 8) (by omega) (i % 8) (by omega)
      have e : 8 * (i / 8) + i % 8 = i := by omega
      rw [e] at this ⊢
      omega
    refine s_dropAt (B := wDeb B (fun i => deb B i + flo B p i)) hp hh hT2 (fun σ' hC' hF' => h _ hC' (fun i hi => ?_))
    rw [hF' i (by omega), hF i (by omega)]
  · refine CB_deb (B := B) (d := deb B) hC (fun i hi => ?_)
    unfold mkd mk1
    rw [if_neg (by omega), if_neg (by omega)]; omega
theorem s_makeAt0 {Q : Int → Mem → Prop} {p : Nat} (hp : p < 4) (hh : ¬ 0 < hdr B p 2) (hC : CB b B σ) (h : Q 0 σ) : wX1_makeAt b p σ Q := by
  unfold wX1_makeAt
  refine s_isHeldAt hC (fun p' e _ z => absurd z (by obtain rfl : p' = p := by omega
                                                     exact hh)) (fun z => ⟨fun z => absurd rfl z, fun _ => h⟩)
end CBOOKS
