abbrev wDeb (B : Bk) (d : Nat → Int) : Bk := (B.1, B.2.1, d, B.2.2.2.1, B.2.2.2.2.1, B.2.2.2.2.2)
abbrev wLim (B : Bk) (d : Nat → Int) : Bk := (B.1, d, B.2.2.1, B.2.2.2.1, B.2.2.2.2.1, B.2.2.2.2.2)
abbrev wStk (B : Bk) (d : Nat → Int) : Bk := (B.1, B.2.1, B.2.2.1, d, B.2.2.2.2.1, B.2.2.2.2.2)
abbrev wHld (B : Bk) (h f : Nat → Nat → Int) : Bk := (B.1, B.2.1, B.2.2.1, B.2.2.2.1, h, f)
/-- x goes from u to v -/
def pay (d : Nat → Int) (u v : Nat) (x : Int) : Nat → Int := fun i => d i + (if i = 8 * u + v then x else 0) - (if i = 8 * v + u then x else 0)
def bitsTo (f : Nat → Int) : Nat → Int
  | 0 => 0
  | n + 1 => bor (bitsTo f n) (if f n ≤ 0 then 0 else bshl 1 n)
theorem bitsTo_congr {f g : Nat → Int} {n : Nat} (h : ∀ i, i < n → f i = g i) : bitsTo f n = bitsTo g n := by
  induction n with
  | zero => rfl
  | succ n ih => unfold bitsTo; rw [ih (fun i hi => h i (by omega)), h n (by omega)]
def oweAll (B : Bk) : Int := sumTo (fun i => max (deb B i) 0) 64
def limAll (B : Bk) : Int := sumTo (lim B) 64
def opnAll (B : Bk) : Int := sumTo (fun i => if lim B i ≤ 0 then 0 else 1) 64
def stkAll (B : Bk) : Int := sumTo (stk B) 8
def heldB (B : Bk) : Int := bitsTo (fun p => hdr B p 2) 4
section CBOOKS
variable {b : Nat} {B : Bk} {σ : Mem}
theorem s_pay {Q : Mem → Prop} {u v : Nat} {x : Int} (hu : u < 8) (hv : v < 8) (hC : CB b B σ) (h1 : -100000 ≤ deb B (8 * u + v) ∧ deb B (8 * u + v) ≤ 100000) (h2 : -100000 ≤ deb B (8 * v + u) ∧ deb B (8 * v + u) ≤ 100000) (hx : -100000 ≤ x ∧ x ≤ 100000) (h : ∀ σ', CB b (wDeb B (pay (deb B) u v x)) σ' → (∀ i, i ≠ b + 2 → σ' i = σ i) → Q σ') : wX1_payStraight b u v x σ Q := by
  unfold wX1_payStraight
  refine s_at hu hv ⟨rg64 hu hv, rg64 hu hv, ?_⟩
  rintro _ rfl
  refine s_at hv hu ⟨rg64 hv hu, rg64 hv hu, ?_⟩
  rintro _ rfl
  simp only [tn]
  rw [hC.2.2.1 _ (lt64 hu hv), w32_id (a := deb B (8 * u + v) + x) (by omega) (by omega)]
  have e : up2 σ (b + 2) (8 * u + v) (deb B (8 * u + v) + x) (b + 2) (8 * v + u) = deb B (8 * v + u) + (if 8 * v + u = 8 * u + v then x else 0) := by
    rw [up2_app]
    by_cases c : 8 * v + u = 8 * u + v
    · rw [if_pos ⟨rfl, c⟩, if_pos c, c]
    · rw [if_neg (fun z => c z.2), if_neg c, hC.2.2.1 _ (lt64 hv hu)]; omega
  rw [e, w32_id (by split <;> omega) (by split <;> omega)]
  refine h _ ?_ (fun i hi => ?_)
  · refine ⟨?_, ?_, ?_, ?_, ?_⟩
    · rw [up2_ne (by omega), up2_ne (by omega)]; exact hC.1
    · rw [up2_ne (by omega), up2_ne (by omega)]; exact hC.2.1
    · intro i hi
      show _ = pay (deb B) u v x i
      unfold pay
      rw [up2_app, up2_app]
      by_cases c1 : i = 8 * v + u
      · rw [if_pos ⟨rfl, c1⟩, if_pos c1, ← c1]
      · rw [if_neg (fun z => c1 z.2), if_neg c1]
        by_cases c2 : i = 8 * u + v
        · rw [if_pos ⟨rfl, c2⟩, if_pos c2, ← c2]; omega
        · rw [if_neg (fun z => c2 z.2), if_neg c2, hC.2.2.1 i hi]; omega
    · rw [up2_ne (by omega), up2_ne (by omega)]; exact hC.2.2.2.1
    · intro p hp
      rw [up2_ne (by omega), up2_ne (by omega), up2_ne (by omega), up2_ne (by omega)]
      exact hC.2.2.2.2 p hp
  · rw [up2_ne hi, up2_ne hi]
theorem s_owedInAll {Q : Int → Mem → Prop} (hC : CB b B σ) (hI : IvA B) (h : Q (oweAll B) σ) : wX1_owedInAll b σ Q := by
  unfold wX1_owedInAll wLX1_owedInAll_4
  refine lp_for (fun k x τ => τ = σ ∧ x = (sumTo (fun i => max (deb B i) 0) k, (k : Int))) 64 ?_ ?_ _ _ ⟨rfl, rfl⟩
  · rintro k hk _ _ ⟨rfl, rfl⟩ K hK
    dsimp only [wX1_owedInAll_4]
    have hb := sumTo_le (f := fun i => max (deb B i) 0) (n := k) (a := 0) (b := 999) (fun p hp => by
      have := hI.2.2.1 p (by omega)
      omega)
    have h2 := hI.2.2.1 k hk
    refine ⟨(fun hno => absurd hno (by omega)), fun _ => ⟨⟨by omega, by omega⟩, ?_⟩⟩
    rintro _ rfl _ rfl
    rw [tn, hC.2.2.1 k hk]
    refine hK _ _ ⟨rfl, ?_⟩
    rw [w32_id (by omega) (by omega), w32_id (by omega) (by omega), sumTo_s]
    rfl
  · rintro _ _ ⟨rfl, rfl⟩ K
    dsimp only [wX1_owedInAll_4]
    exact ⟨fun _ => h, (fun hno => absurd hno (by omega))⟩
theorem s_limitsInAll {Q : Int → Mem → Prop} (hC : CB b B σ) (hI : IvA B) (h : Q (limAll B) σ) : wX1_limitsInAll b σ Q := by
  unfold wX1_limitsInAll wLX1_limitsInAll_4
  refine lp_for (fun k x τ => τ = σ ∧ x = (sumTo (lim B) k, (k : Int))) 64 ?_ ?_ _ _ ⟨rfl, rfl⟩
  · rintro k hk _ _ ⟨rfl, rfl⟩ K hK
    dsimp only [wX1_limitsInAll_4]
    have hb := sumTo_le (f := lim B) (n := k) (a := 0) (b := 999) (fun p hp => hI.2.1 p (by omega))
    have h2 := hI.2.1 k hk
    refine ⟨(fun hno => absurd hno (by omega)), fun _ => ⟨⟨by omega, by omega⟩, ?_⟩⟩
    rintro _ rfl _ rfl
    rw [tn, hC.2.1 k hk]
    refine hK _ _ ⟨rfl, ?_⟩
    rw [w32_id (by omega) (by omega), w32_id (by omega) (by omega), sumTo_s]
    rfl
  · rintro _ _ ⟨rfl, rfl⟩ K
    dsimp only [wX1_limitsInAll_4]
    exact ⟨fun _ => h, (fun hno => absurd hno (by omega))⟩
theorem s_openLines {Q : Int → Mem → Prop} (hC : CB b B σ) (h : Q (opnAll B) σ) : wX1_openLines b σ Q := by
  unfold wX1_openLines wLX1_openLines_4
  refine lp_for (fun k x τ => τ = σ ∧ x = (sumTo (fun i => if lim B i ≤ 0 then 0 else 1) k, (k : Int))) 64 ?_ ?_ _ _ ⟨rfl, rfl⟩
  · rintro k hk _ _ ⟨rfl, rfl⟩ K hK
    dsimp only [wX1_openLines_4, wX1_openLines_25]
    have hb := sumTo_le (f := fun i => if lim B i ≤ 0 then 0 else 1) (n := k) (a := 0) (b := 1) (fun p hp => by
      by_cases c : lim B p ≤ 0 <;> simp [c])
    refine ⟨(fun hno => absurd hno (by omega)), fun _ => ⟨⟨by omega, by omega⟩, ?_⟩⟩
    rw [tn, hC.2.1 k hk]
    refine ⟨fun h0 => ?_, fun h0 => ?_⟩
    · rintro _ rfl _ rfl
      refine hK _ _ ⟨rfl, ?_⟩
      rw [w32_id (by omega) (by omega), w32_id (by omega) (by omega), sumTo_s, if_pos h0]
      rfl
    · rintro _ rfl _ rfl
      refine hK _ _ ⟨rfl, ?_⟩
      rw [w32_id (by omega) (by omega), w32_id (by omega) (by omega), sumTo_s, if_neg h0]
      rfl
  · rintro _ _ ⟨rfl, rfl⟩ K
    dsimp only [wX1_openLines_4]
    exact ⟨fun _ => h, (fun hno => absurd hno (by omega))⟩
theorem s_stockInAll {Q : Int → Mem → Prop} (hC : CB b B σ) (hI : IvA B) (h : Q (stkAll B) σ) : wX1_stockInAll b σ Q := by
  unfold wX1_stockInAll wLX1_stockInAll_4
  refine lp_for (fun k x τ => τ = σ ∧ x = (sumTo (stk B) k, (k : Int))) 8 ?_ ?_ _ _ ⟨rfl, rfl⟩
  · rintro k hk _ _ ⟨rfl, rfl⟩ K hK
    dsimp only [wX1_stockInAll_4]
    have hb := sumTo_le (f := stk B) (n := k) (a := 0) (b := 999) (fun p hp => hI.2.2.2.1 p (by omega))
    have h2 := hI.2.2.2.1 k hk
    refine ⟨(fun hno => absurd hno (by omega)), fun _ => ⟨⟨by omega, by omega⟩, ?_⟩⟩
    rintro _ rfl _ rfl
    rw [tn, hC.2.2.2.1 k hk]
    refine hK _ _ ⟨rfl, ?_⟩
    rw [w32_id (by omega) (by omega), w32_id (by omega) (by omega), sumTo_s]
    rfl
  · rintro _ _ ⟨rfl, rfl⟩ K
    dsimp only [wX1_stockInAll_4]
    exact ⟨fun _ => h, (fun hno => absurd hno (by omega))⟩
theorem s_heldPlaces {Q : Int → Mem → Prop} (hC : CB b B σ) (h : Q (heldB B) σ) : wX1_heldPlaces b σ Q := by
  unfold wX1_heldPlaces wLX1_heldPlaces_4
  refine lp_for (fun k x τ => τ = σ ∧ x = (bitsTo (fun p => hdr B p 2) k, (k : Int))) 4 ?_ ?_ _ _ ⟨rfl, rfl⟩
  · rintro k hk _ _ ⟨rfl, rfl⟩ K hK
    dsimp only [wX1_heldPlaces_4, wX1_heldPlaces_29]
    refine ⟨(fun hno => absurd hno (by omega)), fun _ => ⟨⟨by omega, by omega⟩, ?_⟩⟩
    rw [tn, (hC.2.2.2.2 k hk).1]
    refine ⟨fun h0 => ?_, fun h0 => ?_⟩
    · rintro _ rfl _ rfl
      refine hK _ _ ⟨rfl, ?_⟩
      rw [w32_id (by omega) (by omega), bitsTo, if_pos h0]
      rfl
    · rintro _ rfl _ rfl
      refine hK _ _ ⟨rfl, ?_⟩
      rw [w32_id (by omega) (by omega), bitsTo, if_neg h0]
      rfl
  · rintro _ _ ⟨rfl, rfl⟩ K
    dsimp only [wX1_heldPlaces_4]
    exact ⟨fun _ => h, (fun hno => absurd hno (by omega))⟩
theorem s_holdsAny {Q : Int → Mem → Prop} (hC : CB b B σ) (h1 : heldB B ≠ 0 → Q 1 σ) (h0 : heldB B = 0 → Q 0 σ) : wX1_holdsAny b σ Q := by
  unfold wX1_holdsAny
  exact s_heldPlaces hC ⟨h0, h1⟩
theorem s_isHeldAt {Q : Int → Mem → Prop} {m : Int} (hC : CB b B σ) (h1 : ∀ p : Nat, m = p → p < 4 → 0 < hdr B p 2 → Q 1 σ) (h0 : ¬ (0 ≤ m ∧ m < 4 ∧ 0 < hdr B m.toNat 2) → Q 0 σ) : wX1_isHeldAt b m σ Q := by
  unfold wX1_isHeldAt
  refine ⟨fun h => h0 (by omega), fun h => ⟨fun h2 => h0 (by omega), fun h2 => ⟨⟨by omega, by omega⟩, ?_⟩⟩⟩
  rw [(hC.2.2.2.2 m.toNat (by omega)).1]
  refine ⟨fun h3 => h0 (by omega), fun h3 => h1 m.toNat (by omega) (by omega) (by omega)⟩
/-- the least free place, 4 if there is none -/
def freeP (B : Bk) : Nat := if hdr B 0 2 = 0 then 0 else if hdr B 1 2 = 0 then 1 else if hdr B 2 2 = 0 then 2 else if hdr B 3 2 = 0 then 3 else 4
theorem s_freePlace {Q : Int → Mem → Prop} (hC : CB b B σ) (h : Q (if freeP B = 4 then -1 else (freeP B : Int)) σ) : wX1_freePlace b σ Q := by
  unfold wX1_freePlace wLX1_freePlace_2
  refine lp_for (fun k x τ => τ = σ ∧ x = (k : Int) ∧ ∀ p, p < k → hdr B p 2 ≠ 0) 4 ?_ ?_ _ _ ⟨rfl, rfl, fun p hp => absurd hp (by omega)⟩
  · rintro k hk _ _ ⟨rfl, rfl, hk0⟩ K hK
    dsimp only [wX1_freePlace_2]
    refine ⟨(fun hno => absurd hno (by omega)), fun _ => ⟨⟨by omega, by omega⟩, ?_⟩⟩
    rw [tn, (hC.2.2.2.2 k hk).1]
    refine ⟨fun h0 => ?_, fun h0 => ?_⟩
    · rintro _ rfl
      refine hK _ _ ⟨rfl, by rw [w32_id (by omega) (by omega)]; rfl, fun p hp => ?_⟩
      by_cases c : p = k
      · rw [c]; exact h0
      · exact hk0 p (by omega)
    · have e : freeP B = k := by
        unfold freeP
        match k, hk, hk0, h0 with
        | 0, _, _, h0 => rw [if_pos h0]
        | 1, _, hk0, h0 => rw [if_neg (hk0 0 (by omega)), if_pos h0]
        | 2, _, hk0, h0 => rw [if_neg (hk0 0 (by omega)), if_neg (hk0 1 (by omega)), if_pos h0]
        | 3, _, hk0, h0 => rw [if_neg (hk0 0 (by omega)), if_neg (hk0 1 (by omega)), if_neg (hk0 2 (by omega)), if_pos h0]
      rw [e, if_neg (by omega)] at h
      exact h
  · rintro _ _ ⟨rfl, rfl, hk0⟩ K
    dsimp only [wX1_freePlace_2]
    have e : freeP B = 4 := by
      unfold freeP
      rw [if_neg (hk0 0 (by omega)), if_neg (hk0 1 (by omega)), if_neg (hk0 2 (by omega)), if_neg (hk0 3 (by omega))]
    rw [e, if_pos rfl] at h
    exact ⟨fun _ => h, (fun hno => absurd hno (by omega))⟩
end CBOOKS
