/-! the reference's side of the same acts -/
theorem remX_neg {X : St} {a : Act} {r : Int} (h : a = (r, X.1, X.2.2.2.2)) (hr : r < 0) : remX X a = X := by
  subst h
  unfold remX
  dsimp only
  rw [if_pos hr]
theorem remX_pos {X : St} {a : Act} {r : Int} {B : Bk} {L : List Int} (h : a = (r, B, L)) (hr : ¬ r < 0) : remX X a = (B, X.2.1, pushP X.2.2.1 X.1, X.2.2.2.1, L) := by
  subst h
  unfold remX
  dsimp only
  rw [if_neg hr]
theorem MSt.now {X : St} {σ σ' : Mem} {B : Bk} (h : MSt X σ) (hM : MN σ' B) (hF : ∀ i, i ≠ 301 → σ' i = σ i) : MSt (wB X B) σ' := ⟨hM, h.2.1.fr (hF 332 (by omega)) (hF 331 (by omega)), h.2.2.1.fr (by rw [hF 300 (by omega)]) (hF 327 (by omega)), h.2.2.2.1.fr (by rw [hF 300 (by omega)]) (hF 302 (by omega)), h.2.2.2.2.1.fr (by rw [hF 300 (by omega)]) (hF 304 (by omega)), by rw [hF 300 (by omega)]; exact h.2.2.2.2.2⟩
theorem mo_change {X : St} {σ : Mem} {Q : Mem → Prop} (h : MSt X σ) (hl : X.2.2.1.length ≤ 8) (k : ∀ σ', MSt (wBP X X.1 (pushP X.2.2.1 X.1)) σ' → (∀ i, i ≠ 327 → i ≠ 328 → i ≠ 300 → σ' i = σ i) → Q σ') : wX11_change σ Q :=
  m_change h.1 h.2.2.1 hl (fun σ' p f1 f2 => k σ' ⟨by unfold MN; rw [f1 301 (by omega) (by omega) (by omega)]; exact h.1, h.2.1.fr (f1 332 (by omega) (by omega) (by omega)) (f1 331 (by omega) (by omega) (by omega)), p, h.2.2.2.1.fr (f2 2 (by omega)) (f1 302 (by omega) (by omega) (by omega)), h.2.2.2.2.1.fr (f2 4 (by omega)) (f1 304 (by omega) (by omega) (by omega)), by rw [f2 14 (by omega)]; exact h.2.2.2.2.2⟩ f1)
theorem MN_stk {B : Bk} {σ : Mem} {i : Nat} {v : Int} (hi : i < 8) (h : MN σ B) : MN (up2 σ 301 (129 + i) v) (wStk B (up1 (stk B) i v)) := by
  refine ⟨?_, fun j hj => ?_, fun j hj => ?_, fun j hj => ?_, fun p hp => ⟨fun k hk => ?_, fun j hj => ?_⟩⟩
  · rw [up2_nj (by omega)]; exact h.1
  · rw [up2_nj (by omega)]; exact h.2.1 j hj
  · rw [up2_nj (by omega)]; exact h.2.2.1 j hj
  · show _ = up1 (stk B) i v j
    rw [up2_app, Nat.zero_add]
    unfold up1
    by_cases c : j = i
    · simp [c]
    · rw [if_neg (fun z => c (by omega)), if_neg c]; exact mn_stk h hj
  · rw [up2_nj (by omega)]; exact (h.2.2.2.2 p hp).1 k hk
  · rw [up2_nj (by omega)]; exact (h.2.2.2.2 p hp).2 j hj
theorem MN_lim {B : Bk} {σ : Mem} {i : Nat} {v : Int} (hi : i < 64) (h : MN σ B) : MN (up2 σ 301 (1 + i) v) (wLim B (up1 (lim B) i v)) := by
  refine ⟨?_, fun j hj => ?_, fun j hj => ?_, fun j hj => ?_, fun p hp => ⟨fun k hk => ?_, fun j hj => ?_⟩⟩
  · rw [up2_nj (by omega)]; exact h.1
  · show _ = up1 (lim B) i v j
    rw [up2_app, Nat.zero_add]
    unfold up1
    by_cases c : j = i
    · simp [c]
    · rw [if_neg (fun z => c (by omega)), if_neg c]; exact mn_lim h hj
  · rw [up2_nj (by omega)]; exact h.2.2.1 j hj
  · rw [up2_nj (by omega)]; exact h.2.2.2.1 j hj
  · rw [up2_nj (by omega)]; exact (h.2.2.2.2 p hp).1 k hk
  · rw [up2_nj (by omega)]; exact (h.2.2.2.2 p hp).2 j hj
theorem m_isPayment {B : Bk} {σ : Mem} {a b x : Int} {Q : Int → Mem → Prop} (hM : MN σ B) (hI : IvA B) (h1 : ∀ u v : Nat, a = u → b = v → u < nN B → v < nN B → u ≠ v → 1 ≤ x → x ≤ 9999 → Q 1 σ) (h0 : ¬ (two (nN B) a b ∧ 1 ≤ x ∧ x ≤ 9999) → Q 0 σ) : wX11_isPayment a b x σ Q := by
  unfold wX11_isPayment
  refine m_areTwo hM hI (fun u v e1 e2 hu hv hne => ⟨fun z => absurd z (by decide), fun _ => m_in (fun z1 z2 => ⟨fun z => absurd z (by decide), fun _ => h1 u v e1 e2 hu hv hne z1 z2⟩) (fun z => ⟨fun _ => h0 (fun t => z t.2), fun z => absurd rfl z⟩)⟩) (fun z => ⟨fun _ => h0 (fun t => z t.1), fun z => absurd rfl z⟩)
section MACT
variable {B : Bk} {L : List Int} {σ : Mem}
/-- 0 where it can be: then the answer and the books behind it are the act's -/
theorem m_refStock {m v : Int} {Q : Int → Mem → Prop} (hM : MN σ B) (hI : IvA B) (h0 : ∀ u : Nat, m = u → u < nN B → 0 ≤ v → v ≤ 999 → aStock m v B L = (stk B u, wStk B (up1 (stk B) u v), L) → Q 0 σ) (h1 : ∀ r, r < 0 → aStock m v B L = (r, B, L) → Q r σ) : wX11_refusesStock m v σ Q := by
  have hN := hI.1
  unfold wX11_refusesStock
  refine m_isMember hM hI (fun u e hu => ⟨fun z => absurd z (by decide), fun _ => m_in (fun z1 z2 => ⟨fun _ => ?_, fun z => absurd z (by decide)⟩) (fun z => ⟨fun z => absurd rfl z, fun _ => h1 _ (by omega) ?_⟩)⟩) (fun z => ⟨fun _ => h1 _ (by omega) ?_, fun z => absurd rfl z⟩)
  · subst e
    rw [w32n (129 + u) (by omega) (by omega), tn, mn_stk hM (by omega)]
    refine ⟨by omega, fun z => h0 u rfl hu z1 z2 ?_, fun z => h1 _ (by omega) ?_⟩
    · unfold aStock
      rw [if_neg (fun t => t ⟨⟨by omega, by omega⟩, z1, z2⟩), tn, if_neg z]
    · unfold aStock
      rw [if_neg (fun t => t ⟨⟨by omega, by omega⟩, z1, z2⟩), tn, if_pos z]
  · unfold aStock
    rw [if_pos (fun t => z t.2)]
  · unfold aStock
    rw [if_pos (fun t => z t.1)]
theorem m_refLimit {f t v : Int} {Q : Int → Mem → Prop} (hM : MN σ B) (hI : IvA B) (h0 : ∀ u w : Nat, f = u → t = w → u < nN B → w < nN B → u ≠ w → 0 ≤ v → v ≤ 999 → heldB B = 0 → owe B w u ≤ v → aLimit f t v B L = (lim B (8 * u + w), wLim B (up1 (lim B) (8 * u + w) v), L) → Q 0 σ) (h1 : ∀ r, r < 0 → aLimit f t v B L = (r, B, L) → Q r σ) : wX11_refusesLimit f t v σ Q := by
  have hN := hI.1
  unfold wX11_refusesLimit
  refine m_areTwo hM hI (fun u w e1 e2 hu hw hne => ⟨fun z => absurd z (by decide), fun _ => m_in (fun z1 z2 => ⟨fun _ => m_heldBits hM ⟨fun hh => ?_, fun hh => h1 _ (by omega) ?_⟩, fun z => absurd z (by decide)⟩) (fun z => ⟨fun z => absurd rfl z, fun _ => h1 _ (by omega) ?_⟩)⟩) (fun z => ⟨fun _ => h1 _ (by omega) ?_, fun z => absurd rfl z⟩)
  · subst e1 e2
    refine m_limit hM (by omega) (by omega) ⟨fun z => m_owes hM (by omega) (by omega) ⟨fun z3 => h0 u w rfl rfl hu hw hne z1 z2 hh z3 ?_, fun z3 => h1 _ (by omega) ?_⟩, fun z => h1 _ (by omega) ?_⟩
    · unfold aLimit
      rw [if_neg (fun t => t ⟨two_n (by omega) (by omega) hne, z1, z2⟩), if_neg (fun t => t hh), tn, tn, if_neg z, if_neg (fun t => t z3)]
    · unfold aLimit
      rw [if_neg (fun t => t ⟨two_n (by omega) (by omega) hne, z1, z2⟩), if_neg (fun t => t hh), tn, tn, if_neg z, if_pos z3]
    · unfold aLimit
      rw [if_neg (fun t => t ⟨two_n (by omega) (by omega) hne, z1, z2⟩), if_neg (fun t => t hh), tn, tn, if_pos z]
  · subst e1 e2
    unfold aLimit
    rw [if_neg (fun t => t ⟨two_n (by omega) (by omega) hne, z1, z2⟩), if_pos hh]
  · unfold aLimit
    rw [if_pos (fun t => z t.2)]
  · unfold aLimit
    rw [if_pos (fun t => z t.1)]
theorem m_refLet {a b x : Int} {Q : Int → Mem → Prop} (hM : MN σ B) (hI : IvA B) (h0 : ∀ u v : Nat, a = u → b = v → u < nN B → v < nN B → u ≠ v → 1 ≤ x → x ≤ 9999 → heldB B = 0 → x ≤ owe B u v → aLet a b x B L = (owe (wDeb B (pay (deb B) v u x)) u v, wDeb B (pay (deb B) v u x), L) → Q 0 σ) (h1 : ∀ r, r < 0 → aLet a b x B L = (r, B, L) → Q r σ) : wX11_refusesLet a b x σ Q := by
  have hN := hI.1
  unfold wX11_refusesLet
  refine m_isPayment hM hI (fun u v e1 e2 hu hv hne z1 z2 => ⟨fun _ => m_heldBits hM ⟨fun hh => ?_, fun hh => h1 _ (by omega) ?_⟩, fun z => absurd z (by decide)⟩) (fun z => ⟨fun z => absurd rfl z, fun _ => h1 _ (by omega) ?_⟩)
  · subst e1 e2
    refine m_owes hM (by omega) (by omega) ⟨fun z => h0 u v rfl rfl hu hv hne z1 z2 hh z ?_, fun z => h1 _ (by omega) ?_⟩
    · unfold aLet
      rw [if_neg (fun t => t ⟨two_n (by omega) (by omega) hne, z1, z2⟩), if_neg (fun t => t hh), tn, tn, if_neg (fun t => t z)]
    · unfold aLet
      rw [if_neg (fun t => t ⟨two_n (by omega) (by omega) hne, z1, z2⟩), if_neg (fun t => t hh), tn, tn, if_pos z]
  · subst e1 e2
    unfold aLet
    rw [if_neg (fun t => t ⟨two_n (by omega) (by omega) hne, z1, z2⟩), if_pos hh]
  · unfold aLet
    rw [if_pos z]
theorem m_isHeld {m : Int} {Q : Int → Mem → Prop} (hM : MN σ B) (h1 : ∀ p : Nat, m = p → p < 4 → 0 < hdr B p 2 → Q 1 σ) (h0 : ¬ (0 ≤ m ∧ m < 4 ∧ 0 < hdr B m.toNat 2) → Q 0 σ) : wX11_isHeld m σ Q := by
  unfold wX11_isHeld
  refine m_in (fun z1 z2 => ⟨fun z => absurd z (by decide), fun _ => ?_⟩) (fun z => ⟨fun _ => h0 (by omega), fun z => absurd rfl z⟩)
  have e : m = ((m.toNat : Nat) : Int) := by omega
  rw [e]
  refine m_holdAt (by omega) ?_
  rw [w32n (137 + 67 * m.toNat + 2) (by omega) (by omega), tn, mn_hdr hM (by omega) (by omega)]
  exact ⟨by omega, fun z => h0 (by omega), fun z => h1 m.toNat e (by omega) (by omega)⟩
theorem m_freePlace {Q : Int → Mem → Prop} (hM : MN σ B) (hI : IvA B) (h : Q (freeP B : Int) σ) : wX11_freePlace σ Q := by
  unfold wX11_freePlace wLX11_freePlace_2
  refine lp_for (fun k x τ => τ = σ ∧ x = (k : Int) ∧ ∀ p, p < k → hdr B p 2 ≠ 0) 4 ?_ ?_ _ _ ⟨rfl, rfl, fun p hp => absurd hp (by omega)⟩
  · rintro k hk _ _ ⟨rfl, rfl, hk0⟩ K hK
    dsimp only [wX11_freePlace_2]
    refine ⟨(fun hno => absurd hno (by omega)), fun _ => m_holdAt hk ?_⟩
    rw [w32n (137 + 67 * k + 2) (by omega) (by omega), tn, mn_hdr hM hk (by omega)]
    have hb := hI.2.2.2.2.1 k hk
    refine ⟨by omega, fun z => ?_, fun z => ?_⟩
    · have h0 : hdr B k 2 = 0 := by omega
      have e : freeP B = k := by
        unfold freeP
        match k, hk, hk0, h0 with
        | 0, _, _, h0 => rw [if_pos h0]
        | 1, _, hk0, h0 => rw [if_neg (hk0 0 (by omega)), if_pos h0]
        | 2, _, hk0, h0 => rw [if_neg (hk0 0 (by omega)), if_neg (hk0 1 (by omega)), if_pos h0]
        | 3, _, hk0, h0 => rw [if_neg (hk0 0 (by omega)), if_neg (hk0 1 (by omega)), if_neg (hk0 2 (by omega)), if_pos h0]
      rw [e] at h
      exact h
    · rintro _ rfl
      refine hK _ _ ⟨rfl, by rw [w32_id (by omega) (by omega)]; rfl, fun p hp => ?_⟩
      by_cases c : p = k
      · rw [c]; omega
      · exact hk0 p (by omega)
  · rintro _ _ ⟨rfl, rfl, hk0⟩ K
    dsimp only [wX11_freePlace_2]
    have e : freeP B = 4 := by
      unfold freeP
      rw [if_neg (hk0 0 (by omega)), if_neg (hk0 1 (by omega)), if_neg (hk0 2 (by omega)), if_neg (hk0 3 (by omega))]
    rw [e] at h
    exact ⟨fun _ => h, (fun hno => absurd hno (by omega))⟩
theorem m_free {p : Nat} {x : Int} {Q : Mem → Prop} (hM : MN σ B) (hI : IvA B) (hp : p < 4) (h : ∀ σ', MN σ' (if x = 0 then dropB B p else makeB B p) → (∀ i, i ≠ 301 → σ' i = σ i) → Q σ') : wX11_free p x σ Q := by
  unfold wX11_free
  refine m_holdAt hp ?_
  unfold wLX11_free_8
  let g : Nat → Int := fun i => if x = 0 then deb B i else deb B i + flo B p i
  refine lp_for (fun k y τ => y = (x, ((137 + 67 * p : Nat) : Int), (k : Int)) ∧ (∀ j, τ 301 j = if 65 ≤ j ∧ j < 65 + k then g (j - 65) else σ 301 j) ∧ ∀ i, i ≠ 301 → τ i = σ i) 64 ?_ ?_ _ _ ⟨rfl, fun j => by rw [if_neg (by omega)], fun _ _ => rfl⟩
  · rintro k hk _ τ ⟨rfl, hT, hF⟩ K hK
    dsimp only [wX11_free_8, wX11_free_45]
    have e1 : w32 (65 + (k : Int)) = ((65 + k : Nat) : Int) := w32n (65 + k) (by omega) (by omega)
    have e2 : w32 (w32 (((137 + 67 * p : Nat) : Int) + 3) + (k : Int)) = ((140 + 67 * p + k : Nat) : Int) := by
      rw [w32_id (a := ((137 + 67 * p : Nat) : Int) + 3) (by omega) (by omega)]
      exact w32n (140 + 67 * p + k) (by omega) (by omega)
    have t1 : τ 301 (65 + k) = deb B k := by rw [hT, if_neg (by omega)]; exact mn_deb hM hk
    have t2 : τ 301 (140 + 67 * p + k) = flo B p k := by rw [hT, if_neg (by omega)]; exact mn_flo hM hp hk
    have b1 := hI.2.2.1 k hk
    have b2 := hI.2.2.2.2.2 p hp k hk
    rw [e1, e2, tn, tn, t1, t2]
    have fin : ∀ v, v = g k → K (x, ((137 + 67 * p : Nat) : Int), w32 ((k : Int) + 1)) (up2 τ 301 (65 + k) v) := by
      intro v hv
      refine hK _ _ ⟨by rw [w32_id (by omega) (by omega)]; rfl, fun j => ?_, fun i hi => by rw [up2_ne hi]; exact hF i hi⟩
      rw [up2_app, hT j]
      by_cases c : j = 65 + k
      · rw [if_pos ⟨rfl, c⟩, if_pos (by omega), hv, show j - 65 = k by omega]
      · rw [if_neg (fun z => c z.2)]
        by_cases c2 : 65 ≤ j ∧ j < 65 + k
        · rw [if_pos c2, if_pos (by omega)]
        · rw [if_neg c2, if_neg (by omega)]
    refine ⟨(fun hno => absurd hno (by omega)), fun _ => ⟨by omega, fun z => ⟨by omega, ?_⟩, fun z => ⟨by omega, by omega, ?_⟩⟩⟩
    · rintro _ rfl _ rfl
      refine fin _ ?_
      show _ = if x = 0 then deb B k else _
      rw [if_pos z, w32_id (by omega) (by omega)]; omega
    · rintro _ rfl _ rfl
      refine fin _ ?_
      show _ = if x = 0 then deb B k else _
      rw [if_neg z, w32_id (by omega) (by omega)]
  · rintro _ τ ⟨rfl, hT, hF⟩ K
    dsimp only [wX11_free_8]
    refine ⟨fun _ => ?_, (fun hno => absurd hno (by omega))⟩
    unfold wLX11_free_56
    refine lp_for (fun k y ρ => y = (((137 + 67 * p : Nat) : Int), (k : Int)) ∧ (∀ j, ρ 301 j = if 137 + 67 * p ≤ j ∧ j < 137 + 67 * p + k then 0 else τ 301 j) ∧ ∀ i, i ≠ 301 → ρ i = σ i) 67 ?_ ?_ _ _ ⟨rfl, fun j => by rw [if_neg (by omega)], hF⟩
    · rintro k hk _ ρ ⟨rfl, hT2, hF2⟩ K hK
      dsimp only [wX11_free_56]
      rw [w32n (137 + 67 * p + k) (by omega) (by omega), tn]
      refine ⟨(fun hno => absurd hno (by omega)), fun _ => ⟨by omega, ?_⟩⟩
      rintro _ rfl _ rfl
      refine hK _ _ ⟨by rw [w32_id (by omega) (by omega)]; rfl, fun j => ?_, fun i hi => by rw [up2_ne hi]; exact hF2 i hi⟩
      rw [up2_app, hT2 j]
      by_cases c : j = 137 + 67 * p + k
      · rw [if_pos ⟨rfl, c⟩, if_pos (by omega)]
      · rw [if_neg (fun z => c z.2)]
        by_cases c2 : 137 + 67 * p ≤ j ∧ j < 137 + 67 * p + k
        · rw [if_pos c2, if_pos (by omega)]
        · rw [if_neg c2, if_neg (by omega)]
    · rintro _ ρ ⟨rfl, hT2, hF2⟩ K
      dsimp only [wX11_free_56]
      refine ⟨fun _ => h ρ ?_ hF2, (fun hno => absurd hno (by omega))⟩
      have key : MN ρ (dropB (wDeb B g) p) := by
        refine ⟨?_, fun j hj => ?_, fun j hj => ?_, fun j hj => ?_, fun q hq => ⟨fun k hk => ?_, fun j hj => ?_⟩⟩
        · rw [hT2, if_neg (by omega), hT, if_neg (by omega)]; exact hM.1
        · rw [hT2, if_neg (by omega), hT, if_neg (by omega)]; exact hM.2.1 j hj
        · rw [hT2, if_neg (by omega), hT, if_pos (by omega)]
          show g _ = g j
          congr 1; omega
        · rw [hT2, if_neg (by omega), hT, if_neg (by omega)]; exact hM.2.2.2.1 j hj
        · rw [hT2, hdr_drop]
          by_cases c : q = p
          · rw [if_pos (by omega), if_pos c]
          · rw [if_neg (by omega), if_neg c, hT, if_neg (by omega)]; exact (hM.2.2.2.2 q hq).1 k hk
        · rw [hT2, flo_drop]
          by_cases c : q = p
          · rw [if_pos (by omega), if_pos c]
          · rw [if_neg (by omega), if_neg c, hT, if_neg (by omega)]; exact (hM.2.2.2.2 q hq).2 j hj
      by_cases c : x = 0
      · have e : g = deb B := by funext i; show (if x = 0 then deb B i else _) = _; rw [if_pos c]
        rw [e] at key
        rw [if_pos c]
        exact key
      · have e : g = fun i => deb B i + flo B p i := by funext i; show (if x = 0 then deb B i else _) = _; rw [if_neg c]
        rw [e] at key
        rw [if_neg c]
        exact key
end MACT
