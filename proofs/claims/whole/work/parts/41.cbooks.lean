/-! the books, without the machine: members, limits, debts, stocks, heads of what is held (from, to, sum), flows (signed) -/
abbrev Bk : Type := Nat × (Nat → Int) × (Nat → Int) × (Nat → Int) × (Nat → Nat → Int) × (Nat → Nat → Int)
abbrev nN (B : Bk) : Nat := B.1
abbrev lim (B : Bk) : Nat → Int := B.2.1
abbrev deb (B : Bk) : Nat → Int := B.2.2.1
abbrev stk (B : Bk) : Nat → Int := B.2.2.2.1
abbrev hdr (B : Bk) : Nat → Nat → Int := B.2.2.2.2.1
abbrev flo (B : Bk) : Nat → Nat → Int := B.2.2.2.2.2
def owe (B : Bk) (u v : Nat) : Int := max (deb B (8 * u + v)) 0
def hldf (B : Bk) (i p : Nat) : Int := max (flo B p i) 0
def hld (B : Bk) (u v : Nat) : Int := sumTo (hldf B (8 * u + v)) 4
def rm (B : Bk) (u v : Nat) : Int := lim B (8 * v + u) - deb B (8 * u + v) - hld B u v
/-- bounds and shape -/
def IvA (B : Bk) : Prop := (2 ≤ nN B ∧ nN B ≤ 8) ∧ (∀ i, i < 64 → 0 ≤ lim B i ∧ lim B i ≤ 999) ∧ (∀ i, i < 64 → -999 ≤ deb B i ∧ deb B i ≤ 999) ∧ (∀ i, i < 8 → 0 ≤ stk B i ∧ stk B i ≤ 999) ∧ (∀ p, p < 4 → 0 ≤ hdr B p 2 ∧ hdr B p 2 ≤ 9999) ∧ (∀ p, p < 4 → ∀ i, i < 64 → -9999 ≤ flo B p i ∧ flo B p i ≤ 9999)
def IvB (B : Bk) : Prop := (∀ u, u < 8 → ∀ v, v < 8 → deb B (8 * u + v) = - deb B (8 * v + u)) ∧ (∀ p, p < 4 → ∀ u, u < 8 → ∀ v, v < 8 → flo B p (8 * u + v) = - flo B p (8 * v + u)) ∧ (∀ u, u < 8 → ∀ v, v < 8 → (nN B ≤ u ∨ nN B ≤ v ∨ u = v) → lim B (8 * u + v) = 0 ∧ deb B (8 * u + v) = 0 ∧ ∀ p, p < 4 → flo B p (8 * u + v) = 0) ∧ (∀ m, nN B ≤ m → m < 8 → stk B m = 0) ∧ (∀ p, p < 4 → hdr B p 2 = 0 → hdr B p 0 = 0 ∧ hdr B p 1 = 0 ∧ ∀ i, i < 64 → flo B p i = 0)
def IvR (B : Bk) : Prop := ∀ u, u < nN B → ∀ v, v < nN B → u ≠ v → 0 ≤ rm B u v
def Inv (B : Bk) : Prop := IvA B ∧ IvB B ∧ IvR B
/-- the class's books b are B -/
def CB (b : Nat) (B : Bk) (σ : Mem) : Prop := σ b 0 = (nN B : Int) ∧ (∀ i, i < 64 → σ (b + 1) i = lim B i) ∧ (∀ i, i < 64 → σ (b + 2) i = deb B i) ∧ (∀ i, i < 8 → σ (b + 3) i = stk B i) ∧ ∀ p, p < 4 → σ (b + 5 + p) 2 = hdr B p 2 ∧ (0 < hdr B p 2 → σ (b + 5 + p) 0 = hdr B p 0 ∧ σ (b + 5 + p) 1 = hdr B p 1 ∧ ∀ i, i < 64 → σ (b + 5 + p + 4) i = max (flo B p i) 0)
theorem CB.fr {b : Nat} {B : Bk} {σ σ' : Mem} (h : CB b B σ) (hf : ∀ i, b ≤ i → i < b + 13 → σ' i = σ i) : CB b B σ' := by
  obtain ⟨h1, h2, h3, h4, h5⟩ := h
  refine ⟨?_, ?_, ?_, ?_, ?_⟩
  · rw [hf b (by omega) (by omega)]; exact h1
  · rw [hf (b + 1) (by omega) (by omega)]; exact h2
  · rw [hf (b + 2) (by omega) (by omega)]; exact h3
  · rw [hf (b + 3) (by omega) (by omega)]; exact h4
  · intro p hp
    rw [hf (b + 5 + p) (by omega) (by omega), hf (b + 5 + p + 4) (by omega) (by omega)]
    exact h5 p hp
abbrev two (N a b : Int) : Prop := 0 ≤ a ∧ a < N ∧ 0 ≤ b ∧ b < N ∧ a ≠ b
theorem hld_b {B : Bk} (h : IvA B) {u v : Nat} (hu : u < 8) (hv : v < 8) : 0 ≤ hld B u v ∧ hld B u v ≤ 39996 := by
  have := sumTo_le (f := hldf B (8 * u + v)) (n := 4) (a := 0) (b := 9999) (fun p hp => by
    have := h.2.2.2.2.2 p hp (8 * u + v) (by omega)
    unfold hldf
    omega)
  unfold hld
  omega
theorem rm_b {B : Bk} (h : IvA B) {u v : Nat} (hu : u < 8) (hv : v < 8) : -50000 ≤ rm B u v ∧ rm B u v ≤ 1998 := by
  have h1 := hld_b h hu hv
  have h2 := h.2.1 (8 * v + u) (by omega)
  have h3 := h.2.2.1 (8 * u + v) (by omega)
  unfold rm
  omega
section CBOOKS
variable {b : Nat} {B : Bk} {σ : Mem} {Q : Int → Mem → Prop}
theorem s_has {m : Int} (h1 : ∀ u : Nat, m = u → (u : Int) < σ b 0 → Q 1 σ) (h0 : ¬ (0 ≤ m ∧ m < σ b 0) → Q 0 σ) : wX1_has b m σ Q := by
  unfold wX1_has
  refine ⟨fun h => h0 (by omega), fun h => ⟨fun h2 => h0 (by omega), fun h2 => h1 m.toNat (by omega) (by omega)⟩⟩
theorem s_hasBoth {l1 l2 : Int} (h1 : ∀ u v : Nat, l1 = u → l2 = v → (u : Int) < σ b 0 → (v : Int) < σ b 0 → u ≠ v → Q 1 σ) (h0 : ¬ two (σ b 0) l1 l2 → Q 0 σ) : wX1_hasBoth b l1 l2 σ Q := by
  unfold wX1_hasBoth
  refine s_has (fun u e hu => ⟨fun z => absurd z (by decide), fun _ => s_has (fun v e2 hv => ⟨fun z => absurd z (by decide), fun _ => ⟨fun z => h0 (fun t => t.2.2.2.2 z), fun z => h1 u v e e2 hu hv (by omega)⟩⟩) (fun z => ⟨fun _ => h0 (fun t => z ⟨t.2.2.1, t.2.2.2.1⟩), fun z => absurd rfl z⟩)⟩) (fun z => ⟨fun _ => h0 (fun t => z ⟨t.1, t.2.1⟩), fun z => absurd rfl z⟩)
theorem s_owed {u v : Nat} (hu : u < 8) (hv : v < 8) (hC : CB b B σ) (h : Q (owe B u v) σ) : wX1_owed b u v σ Q := by
  unfold wX1_owed
  refine s_at hu hv ⟨rg64 hu hv, ?_⟩
  rw [tn, hC.2.2.1 _ (lt64 hu hv)]
  exact h
theorem s_heldBetween {u v : Nat} (hu : u < 8) (hv : v < 8) (hC : CB b B σ) (hI : IvA B) (hZ : IvB B) (h : Q (hld B u v) σ) : wX1_heldBetween b u v σ Q := by
  unfold wX1_heldBetween wLX1_heldBetween_12
  refine s_at hu hv ?_
  refine lp_for (fun k x τ => τ = σ ∧ x = (((8 * u + v : Nat) : Int), sumTo (hldf B (8 * u + v)) k, (k : Int))) 4 ?_ ?_ _ _ ⟨rfl, rfl⟩
  · rintro k hk _ _ ⟨rfl, rfl⟩ K hK
    dsimp only [wX1_heldBetween_12]
    have hb := sumTo_le (f := hldf B (8 * u + v)) (n := k) (a := 0) (b := 9999) (fun p hp => by
      have := hI.2.2.2.2.2 p (by omega) (8 * u + v) (by omega)
      unfold hldf
      omega)
    have hh := hC.2.2.2.2 k hk
    have hf := hI.2.2.2.2.2 k hk (8 * u + v) (by omega)
    have hs := hI.2.2.2.2.1 k hk
    refine ⟨(fun hno => absurd hno (by omega)), fun _ => ⟨⟨by omega, by omega⟩, ?_, ?_⟩⟩
    · intro h0
      simp only [tn] at h0
      rw [hh.1] at h0
      rintro _ rfl
      refine hK _ _ ⟨rfl, ?_⟩
      rw [w32_id (by omega) (by omega), sumTo_s]
      have := (hZ.2.2.2.2 k hk (by omega)).2.2 (8 * u + v) (by omega)
      unfold hldf
      rw [this]
      simp
    · intro h0
      simp only [tn] at h0 ⊢
      rw [hh.1] at h0
      refine ⟨⟨by omega, by omega⟩, rg64 hu hv, ?_⟩
      rintro _ rfl _ rfl
      refine hK _ _ ⟨rfl, ?_⟩
      rw [(hh.2 (by omega)).2.2 _ (lt64 hu hv), w32_id (by omega) (by omega), w32_id (by omega) (by omega), sumTo_s]
      rfl
  · rintro _ _ ⟨rfl, rfl⟩ K
    dsimp only [wX1_heldBetween_12]
    exact ⟨fun _ => h, (fun hno => absurd hno (by omega))⟩
theorem s_room {u v : Nat} (hu : u < 8) (hv : v < 8) (hC : CB b B σ) (hI : IvA B) (hZ : IvB B) (h : Q (rm B u v) σ) : wX1_room b u v σ Q := by
  unfold wX1_room
  refine s_at hv hu ⟨rg64 hv hu, s_at hu hv ⟨rg64 hu hv, s_heldBetween hu hv hC hI hZ ?_⟩⟩
  have h1 := hld_b hI hu hv
  have h2 := hI.2.1 (8 * v + u) (by omega)
  have h3 := hI.2.2.1 (8 * u + v) (by omega)
  rw [tn, tn, hC.2.1 _ (lt64 hv hu), hC.2.2.1 _ (lt64 hu hv), w32_id (a := lim B (8 * v + u) - deb B (8 * u + v)) (by omega) (by omega), w32_id (by omega) (by omega)]
  exact h
end CBOOKS
