/-! the reference's row of numbers, from a place on, is B -/
def MB (f : Nat → Int) (o : Nat) (B : Bk) : Prop := f o = (nN B : Int) ∧ (∀ i, i < 64 → f (o + 1 + i) = lim B i) ∧ (∀ i, i < 64 → f (o + 65 + i) = deb B i) ∧ (∀ i, i < 8 → f (o + 129 + i) = stk B i) ∧ ∀ p, p < 4 → (∀ k, k < 3 → f (o + 137 + 67 * p + k) = hdr B p k) ∧ ∀ i, i < 64 → f (o + 140 + 67 * p + i) = flo B p i
theorem MB.cp {f g : Nat → Int} {o o' : Nat} {B : Bk} (h : MB f o B) (e : ∀ k, k < 405 → g (o' + k) = f (o + k)) : MB g o' B := by
  refine ⟨?_, fun i hi => ?_, fun i hi => ?_, fun i hi => ?_, fun p hp => ⟨fun k hk => ?_, fun i hi => ?_⟩⟩
  · have := e 0 (by omega); simp only [Nat.add_zero] at this; rw [this]; exact h.1
  · have := e (1 + i) (by omega); rw [← Nat.add_assoc, ← Nat.add_assoc] at this; rw [this]; exact h.2.1 i hi
  · have := e (65 + i) (by omega); rw [← Nat.add_assoc, ← Nat.add_assoc] at this; rw [this]; exact h.2.2.1 i hi
  · have := e (129 + i) (by omega); rw [← Nat.add_assoc, ← Nat.add_assoc] at this; rw [this]; exact h.2.2.2.1 i hi
  · have := e (137 + 67 * p + k) (by omega)
    rw [show o' + (137 + 67 * p + k) = o' + 137 + 67 * p + k by omega, show o + (137 + 67 * p + k) = o + 137 + 67 * p + k by omega] at this
    rw [this]; exact (h.2.2.2.2 p hp).1 k hk
  · have := e (140 + 67 * p + i) (by omega)
    rw [show o' + (140 + 67 * p + i) = o' + 140 + 67 * p + i by omega, show o + (140 + 67 * p + i) = o + 140 + 67 * p + i by omega] at this
    rw [this]; exact (h.2.2.2.2 p hp).2 i hi
abbrev MN (σ : Mem) (B : Bk) : Prop := MB (σ 301) 0 B
theorem w32n {x : Int} (k : Nat) (e : x = (k : Int)) (h : k < 2147483648) : w32 x = (k : Int) := by
  rw [e, w32_id (by omega) (by omega)]
section MBOOKS
variable {B : Bk} {σ : Mem}
theorem mn_lim {i : Nat} (h : MN σ B) (hi : i < 64) : σ 301 (1 + i) = lim B i := by
  have := h.2.1 i hi; rw [Nat.zero_add] at this; exact this
theorem mn_deb {i : Nat} (h : MN σ B) (hi : i < 64) : σ 301 (65 + i) = deb B i := by
  have := h.2.2.1 i hi; rw [Nat.zero_add] at this; exact this
theorem mn_stk {i : Nat} (h : MN σ B) (hi : i < 8) : σ 301 (129 + i) = stk B i := by
  have := h.2.2.2.1 i hi; rw [Nat.zero_add] at this; exact this
theorem mn_hdr {p k : Nat} (h : MN σ B) (hp : p < 4) (hk : k < 3) : σ 301 (137 + 67 * p + k) = hdr B p k := by
  have := (h.2.2.2.2 p hp).1 k hk; rw [Nat.zero_add] at this; exact this
theorem mn_flo {p i : Nat} (h : MN σ B) (hp : p < 4) (hi : i < 64) : σ 301 (140 + 67 * p + i) = flo B p i := by
  have := (h.2.2.2.2 p hp).2 i hi; rw [Nat.zero_add] at this; exact this
theorem m_in {a l h : Int} {Q : Int → Mem → Prop} (h1 : l ≤ a → a ≤ h → Q 1 σ) (h0 : ¬ (l ≤ a ∧ a ≤ h) → Q 0 σ) : wX11_in a l h σ Q := by
  unfold wX11_in
  exact ⟨fun z => h0 (by omega), fun z => ⟨fun z2 => h0 (by omega), fun z2 => h1 (by omega) (by omega)⟩⟩
theorem m_isMember {m : Int} {Q : Int → Mem → Prop} (hM : MN σ B) (hI : IvA B) (h1 : ∀ u : Nat, m = u → u < nN B → Q 1 σ) (h0 : ¬ (0 ≤ m ∧ m < (nN B : Int)) → Q 0 σ) : wX11_isMember m σ Q := by
  unfold wX11_isMember
  have hN := hI.1
  rw [hM.1, w32_id (by omega) (by omega)]
  exact m_in (fun z1 z2 => ⟨Or.inr rfl, h1 m.toNat (by omega) (by omega)⟩) (fun z => ⟨Or.inl rfl, h0 (by omega)⟩)
theorem m_areTwo {l1 l2 : Int} {Q : Int → Mem → Prop} (hM : MN σ B) (hI : IvA B) (h1 : ∀ u v : Nat, l1 = u → l2 = v → u < nN B → v < nN B → u ≠ v → Q 1 σ) (h0 : ¬ two (nN B) l1 l2 → Q 0 σ) : wX11_areTwo l1 l2 σ Q := by
  unfold wX11_areTwo
  refine m_isMember hM hI (fun u e hu => ⟨fun z => absurd z (by decide), fun _ => m_isMember hM hI (fun v e2 hv => ⟨fun z => absurd z (by decide), fun _ => ⟨fun z => h0 (fun t => t.2.2.2.2 z), fun z => h1 u v e e2 hu hv (by omega)⟩⟩) (fun z => ⟨fun _ => h0 (fun t => z ⟨t.2.2.1, t.2.2.2.1⟩), fun z => absurd rfl z⟩)⟩) (fun z => ⟨fun _ => h0 (fun t => z ⟨t.1, t.2.1⟩), fun z => absurd rfl z⟩)
theorem m_pair {u v : Nat} {Q : Int → Mem → Prop} (hu : u < 8) (hv : v < 8) (h : Q ((8 * u + v : Nat) : Int) σ) : wX11_pair u v σ Q := by
  unfold wX11_pair
  rw [w32_id (a := 8 * (u : Int)) (by omega) (by omega), w32n (8 * u + v) (by omega) (by omega)]
  exact h
theorem m_limit {u v : Nat} {Q : Int → Mem → Prop} (hM : MN σ B) (hu : u < 8) (hv : v < 8) (h : Q (lim B (8 * u + v)) σ) : wX11_limit u v σ Q := by
  unfold wX11_limit
  refine m_pair hu hv ?_
  rw [w32n (1 + (8 * u + v)) (by omega) (by omega), tn, mn_lim hM (by omega)]
  exact ⟨by omega, h⟩
theorem m_owes {u v : Nat} {Q : Int → Mem → Prop} (hM : MN σ B) (hu : u < 8) (hv : v < 8) (h : Q (owe B u v) σ) : wX11_owes u v σ Q := by
  unfold wX11_owes
  refine m_pair hu hv ?_
  rw [w32n (65 + (8 * u + v)) (by omega) (by omega), tn, mn_deb hM (by omega), Int.max_comm]
  exact ⟨by omega, h⟩
theorem m_holdAt {p : Nat} {Q : Int → Mem → Prop} (hp : p < 4) (h : Q ((137 + 67 * p : Nat) : Int) σ) : wX11_holdAt p σ Q := by
  unfold wX11_holdAt
  rw [w32_id (a := 67 * (p : Int)) (by omega) (by omega), w32n (137 + 67 * p) (by omega) (by omega)]
  exact h
theorem m_heldOf {u v : Nat} {Q : Int → Mem → Prop} (hM : MN σ B) (hI : IvA B) (hu : u < 8) (hv : v < 8) (h : Q (hld B u v) σ) : wX11_heldOf u v σ Q := by
  unfold wX11_heldOf wLX11_heldOf_5
  refine lp_for (fun k x τ => τ = σ ∧ x = ((u : Int), (v : Int), sumTo (hldf B (8 * u + v)) k, (k : Int))) 4 ?_ ?_ _ _ ⟨rfl, rfl⟩
  · rintro k hk _ _ ⟨rfl, rfl⟩ K hK
    dsimp only [wX11_heldOf_5]
    have hb := sumTo_le (f := hldf B (8 * u + v)) (n := k) (a := 0) (b := 9999) (fun p hp => by
      have := hI.2.2.2.2.2 p (by omega) (8 * u + v) (by omega)
      unfold hldf
      omega)
    have hf := hI.2.2.2.2.2 k hk (8 * u + v) (by omega)
    refine ⟨(fun hno => absurd hno (by omega)), fun _ => m_holdAt hk (m_pair hu hv ?_)⟩
    rw [w32_id (a := ((137 + 67 * k : Nat) : Int) + 3) (by omega) (by omega), w32n (140 + 67 * k + (8 * u + v)) (by omega) (by omega), tn, mn_flo hM hk (by omega)]
    refine ⟨by omega, ?_⟩
    rintro _ rfl _ rfl
    refine hK _ _ ⟨rfl, ?_⟩
    rw [w32_id (by omega) (by omega), w32_id (by omega) (by omega), sumTo_s, Int.max_comm]
    rfl
  · rintro _ _ ⟨rfl, rfl⟩ K
    dsimp only [wX11_heldOf_5]
    exact ⟨fun _ => h, (fun hno => absurd hno (by omega))⟩
theorem m_heldBits {Q : Int → Mem → Prop} (hM : MN σ B) (h : Q (heldB B) σ) : wX11_heldBits σ Q := by
  unfold wX11_heldBits wLX11_heldBits_4
  refine lp_for (fun k x τ => τ = σ ∧ x = (bitsTo (fun p => hdr B p 2) k, (k : Int))) 4 ?_ ?_ _ _ ⟨rfl, rfl⟩
  · rintro k hk _ _ ⟨rfl, rfl⟩ K hK
    dsimp only [wX11_heldBits_4, wX11_heldBits_31]
    refine ⟨(fun hno => absurd hno (by omega)), fun _ => m_holdAt hk ?_⟩
    rw [w32n (137 + 67 * k + 2) (by omega) (by omega), tn, mn_hdr hM hk (by omega)]
    refine ⟨by omega, fun h0 => ?_, fun h0 => ?_⟩
    · rintro _ rfl _ rfl
      refine hK _ _ ⟨rfl, ?_⟩
      rw [w32_id (by omega) (by omega), bitsTo, if_pos h0]
      rfl
    · rintro _ rfl _ rfl
      refine hK _ _ ⟨rfl, ?_⟩
      rw [w32_id (by omega) (by omega), bitsTo, if_neg h0]
      rfl
  · rintro _ _ ⟨rfl, rfl⟩ K
    dsimp only [wX11_heldBits_4]
    exact ⟨fun _ => h, (fun hno => absurd hno (by omega))⟩
theorem m_room {u v : Nat} {Q : Int → Mem → Prop} (hM : MN σ B) (hI : IvA B) (hu : u < 8) (hv : v < 8) (h : Q (rm B u v) σ) : wX11_room u v σ Q := by
  unfold wX11_room
  refine m_limit hM hv hu (m_pair hu hv ?_)
  have h1 := hld_b hI hu hv
  have h2 := hI.2.1 (8 * v + u) (by omega)
  have h3 := hI.2.2.1 (8 * u + v) (by omega)
  rw [w32n (65 + (8 * u + v)) (by omega) (by omega), tn, mn_deb hM (by omega)]
  refine ⟨by omega, m_heldOf hM hI hu hv ?_⟩
  rw [w32_id (a := lim B (8 * v + u) - deb B (8 * u + v)) (by omega) (by omega), w32_id (by omega) (by omega)]
  exact h
theorem m_straight {u v : Nat} {x : Int} {Q : Mem → Prop} (hM : MN σ B) (hu : u < 8) (hv : v < 8) (h1 : -100000 ≤ deb B (8 * u + v) ∧ deb B (8 * u + v) ≤ 100000) (h2 : -100000 ≤ deb B (8 * v + u) ∧ deb B (8 * v + u) ≤ 100000) (hx : -100000 ≤ x ∧ x ≤ 100000) (h : ∀ σ', MN σ' (wDeb B (pay (deb B) u v x)) → (∀ i, i ≠ 301 → σ' i = σ i) → Q σ') : wX11_straight u v x σ Q := by
  unfold wX11_straight
  refine m_pair hu hv ?_
  rw [w32n (65 + (8 * u + v)) (by omega) (by omega), tn]
  refine ⟨by omega, by omega, ?_⟩
  rintro _ rfl
  refine m_pair hv hu ?_
  rw [w32n (65 + (8 * v + u)) (by omega) (by omega), tn]
  refine ⟨by omega, by omega, ?_⟩
  rintro _ rfl
  rw [mn_deb hM (by omega), w32_id (a := deb B (8 * u + v) + x) (by omega) (by omega)]
  have e : up2 σ 301 (65 + (8 * u + v)) (deb B (8 * u + v) + x) 301 (65 + (8 * v + u)) = deb B (8 * v + u) + (if 8 * v + u = 8 * u + v then x else 0) := by
    rw [up2_app]
    by_cases c : 8 * v + u = 8 * u + v
    · rw [if_pos ⟨rfl, by omega⟩, if_pos c, c]
    · rw [if_neg (fun z => c (by omega)), if_neg c, mn_deb hM (by omega)]; omega
  rw [e, w32_id (by split <;> omega) (by split <;> omega)]
  refine h _ ?_ (fun i hi => by rw [up2_ne hi, up2_ne hi])
  refine ⟨?_, fun i hi => ?_, fun i hi => ?_, fun i hi => ?_, fun p hp => ⟨fun k hk => ?_, fun i hi => ?_⟩⟩
  · rw [up2_nj (by omega), up2_nj (by omega)]; exact hM.1
  · rw [up2_nj (by omega), up2_nj (by omega)]; exact hM.2.1 i hi
  · show _ = pay (deb B) u v x i
    unfold pay
    rw [up2_app, up2_app, Nat.zero_add]
    by_cases c1 : i = 8 * v + u
    · rw [if_pos ⟨rfl, by omega⟩, if_pos c1, ← c1]
    · rw [if_neg (fun z => c1 (by omega)), if_neg c1]
      by_cases c2 : i = 8 * u + v
      · rw [if_pos ⟨rfl, by omega⟩, if_pos c2, ← c2]; omega
      · rw [if_neg (fun z => c2 (by omega)), if_neg c2, mn_deb hM hi]; omega
  · rw [up2_nj (by omega), up2_nj (by omega)]; exact hM.2.2.2.1 i hi
  · rw [up2_nj (by omega), up2_nj (by omega)]; exact (hM.2.2.2.2 p hp).1 k hk
  · rw [up2_nj (by omega), up2_nj (by omega)]; exact (hM.2.2.2.2 p hp).2 i hi
def oweOf (B : Bk) (u : Nat) : Int := sumTo (fun v => owe B u v) (nN B)
theorem owe_b (hI : IvA B) {u v : Nat} (hu : u < 8) (hv : v < 8) : 0 ≤ owe B u v ∧ owe B u v ≤ 999 := by
  have := hI.2.2.1 (8 * u + v) (by omega)
  unfold owe
  omega
theorem oweOf_b (hI : IvA B) {u : Nat} (hu : u < 8) : 0 ≤ oweOf B u ∧ oweOf B u ≤ 7992 := by
  have hN := hI.1
  have := sumTo_le (f := fun v => owe B u v) (n := nN B) (a := 0) (b := 999) (fun v hv => owe_b hI hu (by omega))
  unfold oweOf
  omega
theorem m_owesAll {u : Nat} {Q : Int → Mem → Prop} (hM : MN σ B) (hI : IvA B) (hu : u < 8) (h : Q (oweOf B u) σ) : wX11_owesAll u σ Q := by
  have hN := hI.1
  unfold wX11_owesAll wLX11_owesAll_4
  refine lp_for (fun k x τ => τ = σ ∧ x = ((u : Int), sumTo (fun v => owe B u v) k, (k : Int))) (nN B) ?_ ?_ _ _ ⟨rfl, rfl⟩
  · rintro k hk _ _ ⟨rfl, rfl⟩ K hK
    dsimp only [wX11_owesAll_4]
    have hb := sumTo_le (f := fun v => owe B u v) (n := k) (a := 0) (b := 999) (fun v hv => owe_b hI hu (by omega))
    have h2 := owe_b hI hu (v := k) (by omega)
    refine ⟨fun z => absurd z (by rw [hM.1]; omega), fun _ => m_owes hM hu (by omega) ?_⟩
    rintro _ rfl _ rfl
    refine hK _ _ ⟨rfl, ?_⟩
    rw [w32_id (by omega) (by omega), w32_id (by omega) (by omega), sumTo_s]
    rfl
  · rintro _ _ ⟨rfl, rfl⟩ K
    dsimp only [wX11_owesAll_4]
    exact ⟨fun _ => h, fun z => absurd z (by rw [hM.1]; omega)⟩
theorem sum88 (f : Nat → Int) (n : Nat) : sumTo f (8 * n) = sumTo (fun u => sumTo (fun v => f (8 * u + v)) 8) n := by
  induction n with
  | zero => rfl
  | succ n ih =>
    rw [sumTo_s, ← ih]
    have e : 8 * (n + 1) = 8 * n + 7 + 1 := by omega
    rw [e]
    simp only [sumTo, Nat.add_zero]
    omega
theorem oweAll_eq (hI : IvA B) (hZ : IvB B) : oweAll B = sumTo (oweOf B) (nN B) := by
  have hN := hI.1
  unfold oweAll
  rw [show 64 = 8 * 8 from rfl, sum88, sumTo_ext (n := nN B) (m := 8) (by omega)]
  · refine sumTo_congr (fun u hu => ?_)
    unfold oweOf
    rw [sumTo_ext (n := nN B) (m := 8) (by omega)]
    · rfl
    · intro v h1 h2
      rw [(hZ.2.2.1 u (by omega) v h2 (by omega)).2.1]; rfl
  · intro u h1 h2
    refine sumTo_z (fun v hv => ?_)
    rw [(hZ.2.2.1 u h2 v hv (by omega)).2.1]; rfl
theorem m_allDebts {Q : Int → Mem → Prop} (hM : MN σ B) (hI : IvA B) (hZ : IvB B) (h : Q (oweAll B) σ) : wX11_allDebts σ Q := by
  have hN := hI.1
  rw [oweAll_eq hI hZ] at h
  unfold wX11_allDebts wLX11_allDebts_4
  refine lp_for (fun k x τ => τ = σ ∧ x = (sumTo (oweOf B) k, (k : Int))) (nN B) ?_ ?_ _ _ ⟨rfl, rfl⟩
  · rintro k hk _ _ ⟨rfl, rfl⟩ K hK
    dsimp only [wX11_allDebts_4]
    have hb := sumTo_le (f := oweOf B) (n := k) (a := 0) (b := 7992) (fun v hv => oweOf_b hI (by omega))
    have h2 := oweOf_b hI (u := k) (by omega)
    refine ⟨fun z => absurd z (by rw [hM.1]; omega), fun _ => m_owesAll hM hI (by omega) ?_⟩
    rintro _ rfl _ rfl
    refine hK _ _ ⟨rfl, ?_⟩
    rw [w32_id (by omega) (by omega), w32_id (by omega) (by omega), sumTo_s]
    rfl
  · rintro _ _ ⟨rfl, rfl⟩ K
    dsimp only [wX11_allDebts_4]
    exact ⟨fun _ => h, fun z => absurd z (by rw [hM.1]; omega)⟩
end MBOOKS
