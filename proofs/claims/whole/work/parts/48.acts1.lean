/-! acts: stock, limit, debt let off, held made, held let go -/
def aStock (m v : Int) (B : Bk) (L : List Int) : Act := if ¬ ((0 ≤ m ∧ m < (nN B : Int)) ∧ 0 ≤ v ∧ v ≤ 999) then (-1, B, L) else if stk B m.toNat = v then (-2, B, L) else (stk B m.toNat, wStk B (up1 (stk B) m.toNat v), L)
def aLimit (f t v : Int) (B : Bk) (L : List Int) : Act := if ¬ (two (nN B) f t ∧ 0 ≤ v ∧ v ≤ 999) then (-1, B, L) else if heldB B ≠ 0 then (-5, B, L) else if lim B (8 * f.toNat + t.toNat) = v then (-2, B, L) else if ¬ owe B t.toNat f.toNat ≤ v then (-4, B, L) else (lim B (8 * f.toNat + t.toNat), wLim B (up1 (lim B) (8 * f.toNat + t.toNat) v), L)
def aLet (u v x : Int) (B : Bk) (L : List Int) : Act := if ¬ (two (nN B) u v ∧ 1 ≤ x ∧ x ≤ 9999) then (-1, B, L) else if heldB B ≠ 0 then (-5, B, L) else if ¬ x ≤ owe B u.toNat v.toNat then (-4, B, L) else (owe (wDeb B (pay (deb B) v.toNat u.toNat x)) u.toNat v.toNat, wDeb B (pay (deb B) v.toNat u.toNat x), L)
def isHd (B : Bk) (p : Int) : Prop := 0 ≤ p ∧ p < 4 ∧ 0 < hdr B p.toNat 2
def aMake (p : Int) (B : Bk) (L : List Int) : Act := if 0 ≤ p ∧ p < 4 ∧ 0 < hdr B p.toNat 2 then (hdr B p.toNat 2, makeB B p.toNat, L) else (-1, B, L)
def aDrop (p : Int) (B : Bk) (L : List Int) : Act := if 0 ≤ p ∧ p < 4 ∧ 0 < hdr B p.toNat 2 then (hdr B p.toNat 2, dropB B p.toNat, L) else (-1, B, L)
theorem two_n {N u v : Nat} (hu : u < N) (hv : v < N) (h : u ≠ v) : two (N : Int) (u : Int) (v : Int) := ⟨by omega, by omega, by omega, by omega, by omega⟩
section CACT
variable {B : Bk} {L : List Int}
theorem CB_stk {b i : Nat} {σ : Mem} {v : Int} (hi : i < 8) (h : CB b B σ) : CB b (wStk B (up1 (stk B) i v)) (up2 σ (b + 3) i v) := by
  refine ⟨?_, ?_, ?_, fun j hj => ?_, fun p hp => ?_⟩
  · rw [up2_ne (by omega)]; exact h.1
  · rw [up2_ne (by omega)]; exact h.2.1
  · rw [up2_ne (by omega)]; exact h.2.2.1
  · show _ = up1 (stk B) i v j
    rw [up2_app]
    unfold up1
    by_cases c : j = i
    · simp [c]
    · rw [if_neg (fun z => c z.2), if_neg c]; exact h.2.2.2.1 j hj
  · rw [up2_ne (by omega), up2_ne (by omega)]; exact h.2.2.2.2 p hp
theorem CB_lim1 {b i : Nat} {σ : Mem} {v : Int} (hi : i < 64) (h : CB b B σ) : CB b (wLim B (up1 (lim B) i v)) (up2 σ (b + 1) i v) := by
  refine ⟨?_, fun j hj => ?_, ?_, ?_, fun p hp => ?_⟩
  · rw [up2_ne (by omega)]; exact h.1
  · show _ = up1 (lim B) i v j
    rw [up2_app]
    unfold up1
    by_cases c : j = i
    · simp [c]
    · rw [if_neg (fun z => c z.2), if_neg c]; exact h.2.1 j hj
  · rw [up2_ne (by omega)]; exact h.2.2.1
  · rw [up2_ne (by omega)]; exact h.2.2.2.1
  · rw [up2_ne (by omega), up2_ne (by omega)]; exact h.2.2.2.2 p hp
theorem s_isLimit {v : Int} {σ : Mem} {Q : Int → Mem → Prop} (h1 : 0 ≤ v → v ≤ 999 → Q 1 σ) (h0 : ¬ (0 ≤ v ∧ v ≤ 999) → Q 0 σ) : wX10_isLimit v σ Q := by
  unfold wX10_isLimit
  exact ⟨fun z => h0 (by omega), fun z => ⟨fun z2 => h0 (by omega), fun z2 => h1 (by omega) (by omega)⟩⟩
theorem s_isSum {v : Int} {σ : Mem} {Q : Int → Mem → Prop} (h1 : 1 ≤ v → v ≤ 9999 → Q 1 σ) (h0 : ¬ (1 ≤ v ∧ v ≤ 9999) → Q 0 σ) : wX10_isSum v σ Q := by
  unfold wX10_isSum
  exact ⟨fun z => h0 (by omega), fun z => ⟨fun z2 => h0 (by omega), fun z2 => h1 (by omega) (by omega)⟩⟩
theorem s_isPayment {a b x : Int} {σ : Mem} {Q : Int → Mem → Prop} (hC : CB 40 B σ) (h1 : ∀ u v : Nat, a = u → b = v → u < nN B → v < nN B → u ≠ v → 1 ≤ x → x ≤ 9999 → Q 1 σ) (h0 : ¬ (two (nN B) a b ∧ 1 ≤ x ∧ x ≤ 9999) → Q 0 σ) : wX10_isPayment a b x σ Q := by
  unfold wX10_isPayment
  have e := hC.1
  refine s_hasBoth (fun u v e1 e2 hu hv hne => ⟨fun z => absurd z (by decide), fun _ => s_isSum (fun z1 z2 => ⟨fun z => absurd z (by decide), fun _ => h1 u v e1 e2 (by omega) (by omega) hne z1 z2⟩) (fun z => ⟨fun _ => h0 (fun t => z t.2), fun z => absurd rfl z⟩)⟩) (fun z => ⟨fun _ => h0 (fun t => z (by rw [e]; exact t.1)), fun z => absurd rfl z⟩)
theorem ca_stock (hI : IvA B) {m v : Int} : CAct B L (fun τ Q => wX10_setStock m v τ Q) (aStock m v B L) := by
  intro τ Q hC hR h
  have hN := hI.1
  have e := hC.1
  show wX10_setStock m v τ Q
  unfold wX10_setStock
  refine s_has (fun u e1 hu => ⟨fun z => absurd z (by decide), fun _ => s_isLimit (fun z1 z2 => ⟨fun _ => ⟨by omega, ?_⟩, fun z => absurd z (by decide)⟩) (fun z => ⟨fun z => absurd rfl z, fun _ => ?_⟩)⟩) (fun z => ⟨fun _ => ?_, fun z => absurd rfl z⟩)
  · subst e1
    rintro _ rfl
    rw [tn, show (40 : Nat) + 3 = 40 + 3 from rfl, hC.2.2.2.1 u (by omega)]
    refine ⟨fun z => ⟨by omega, ?_⟩, fun z => ?_⟩
    · rintro _ rfl
      have ea : aStock (u : Int) v B L = (stk B u, wStk B (up1 (stk B) u v), L) := by
        unfold aStock
        rw [if_neg (fun t => t ⟨⟨by omega, by omega⟩, z1, z2⟩), tn, if_neg z]
      rw [ea] at h
      exact h _ (CB_stk (by omega) hC) (hR.fr (up2_ne (by omega)) (up2_ne (by omega))) (fun i a1 a2 => up2_ne (by omega))
    · have ea : aStock (u : Int) v B L = (-2, B, L) := by
        unfold aStock
        rw [if_neg (fun t => t ⟨⟨by omega, by omega⟩, z1, z2⟩), tn, if_pos z]
      rw [ea] at h
      exact h _ hC hR (fun _ _ _ => rfl)
  · have ea : aStock m v B L = (-1, B, L) := by
      unfold aStock
      rw [if_pos (fun t => z t.2)]
    rw [ea] at h
    exact h _ hC hR (fun _ _ _ => rfl)
  · have ea : aStock m v B L = (-1, B, L) := by
      unfold aStock
      rw [if_pos (fun t => z (by omega))]
    rw [ea] at h
    exact h _ hC hR (fun _ _ _ => rfl)
theorem ca_limit (hI : IvA B) {f t v : Int} : CAct B L (fun τ Q => wX10_setLimit f t v τ Q) (aLimit f t v B L) := by
  intro τ Q hC hR h
  have hN := hI.1
  have e := hC.1
  show wX10_setLimit f t v τ Q
  unfold wX10_setLimit
  refine s_hasBoth (fun u w e1 e2 hu hw hne => ⟨fun z => absurd z (by decide), fun _ => s_isLimit (fun z1 z2 => ⟨fun _ => s_holdsAny hC (fun hh => ⟨fun z => absurd z (by decide), fun _ => ?_⟩) (fun hh => ⟨fun _ => ?_, fun z => absurd rfl z⟩), fun z => absurd z (by decide)⟩) (fun z => ⟨fun z => absurd rfl z, fun _ => ?_⟩)⟩) (fun z => ⟨fun _ => ?_, fun z => absurd rfl z⟩)
  · subst e1 e2
    have ea : aLimit (u : Int) (w : Int) v B L = (-5, B, L) := by
      unfold aLimit
      rw [if_neg (fun t => t ⟨two_n (by omega) (by omega) hne, z1, z2⟩), if_pos hh]
    rw [ea] at h
    exact h _ hC hR (fun _ _ _ => rfl)
  · subst e1 e2
    refine s_at (by omega) (by omega) ⟨rg64 (by omega) (by omega), ?_⟩
    rintro _ rfl
    rw [tn, hC.2.1 _ (by omega)]
    refine ⟨fun z => s_owed (by omega) (by omega) hC ⟨fun z3 => s_at (by omega) (by omega) ⟨rg64 (by omega) (by omega), ?_⟩, fun z3 => ?_⟩, fun z => ?_⟩
    · rintro _ rfl
      rw [tn]
      have ea : aLimit (u : Int) (w : Int) v B L = (lim B (8 * u + w), wLim B (up1 (lim B) (8 * u + w) v), L) := by
        unfold aLimit
        rw [if_neg (fun t => t ⟨two_n (by omega) (by omega) hne, z1, z2⟩), if_neg (fun t => t hh), tn, tn, if_neg z, if_neg (fun t => t z3)]
      rw [ea] at h
      exact h _ (CB_lim1 (by omega) hC) (hR.fr (up2_ne (by omega)) (up2_ne (by omega))) (fun i a1 a2 => up2_ne (by omega))
    · have ea : aLimit (u : Int) (w : Int) v B L = (-4, B, L) := by
        unfold aLimit
        rw [if_neg (fun t => t ⟨two_n (by omega) (by omega) hne, z1, z2⟩), if_neg (fun t => t hh), tn, tn, if_neg z, if_pos z3]
      rw [ea] at h
      exact h _ hC hR (fun _ _ _ => rfl)
    · have ea : aLimit (u : Int) (w : Int) v B L = (-2, B, L) := by
        unfold aLimit
        rw [if_neg (fun t => t ⟨two_n (by omega) (by omega) hne, z1, z2⟩), if_neg (fun t => t hh), tn, tn, if_pos z]
      rw [ea] at h
      exact h _ hC hR (fun _ _ _ => rfl)
  · have ea : aLimit f t v B L = (-1, B, L) := by
      unfold aLimit
      rw [if_pos (fun t => z t.2)]
    rw [ea] at h
    exact h _ hC hR (fun _ _ _ => rfl)
  · have ea : aLimit f t v B L = (-1, B, L) := by
      unfold aLimit
      rw [if_pos (fun t => z (by rw [e]; exact t.1))]
    rw [ea] at h
    exact h _ hC hR (fun _ _ _ => rfl)
theorem ca_let (hI : IvA B) {a b x : Int} : CAct B L (fun τ Q => wX10_letOff a b x τ Q) (aLet a b x B L) := by
  intro τ Q hC hR h
  have hN := hI.1
  show wX10_letOff a b x τ Q
  unfold wX10_letOff
  refine s_isPayment hC (fun u v e1 e2 hu hv hne z1 z2 => ⟨fun _ => s_holdsAny hC (fun hh => ⟨fun z => absurd z (by decide), fun _ => ?_⟩) (fun hh => ⟨fun _ => ?_, fun z => absurd rfl z⟩), fun z => absurd z (by decide)⟩) (fun z => ⟨fun z => absurd rfl z, fun _ => ?_⟩)
  · subst e1 e2
    have ea : aLet (u : Int) (v : Int) x B L = (-5, B, L) := by
      unfold aLet
      rw [if_neg (fun t => t ⟨two_n (by omega) (by omega) hne, z1, z2⟩), if_pos hh]
    rw [ea] at h
    exact h _ hC hR (fun _ _ _ => rfl)
  · subst e1 e2
    refine s_owed (by omega) (by omega) hC ⟨fun z => ?_, fun z => ?_⟩
    · have ea : aLet (u : Int) (v : Int) x B L = (owe (wDeb B (pay (deb B) v u x)) u v, wDeb B (pay (deb B) v u x), L) := by
        unfold aLet
        rw [if_neg (fun t => t ⟨two_n (by omega) (by omega) hne, z1, z2⟩), if_neg (fun t => t hh), tn, tn, if_neg (fun t => t z)]
      rw [ea] at h
      have b1 := hI.2.2.1 (8 * u + v) (by omega)
      have b2 := hI.2.2.1 (8 * v + u) (by omega)
      refine s_pay (by omega) (by omega) hC (by omega) (by omega) (by omega) (fun σ' c' f' => s_owed (by omega) (by omega) c' ?_)
      exact h _ c' (hR.fr (f' 12 (by omega)) (f' 13 (by omega))) (fun i a1 a2 => f' i (by omega))
    · have ea : aLet (u : Int) (v : Int) x B L = (-4, B, L) := by
        unfold aLet
        rw [if_neg (fun t => t ⟨two_n (by omega) (by omega) hne, z1, z2⟩), if_neg (fun t => t hh), tn, tn, if_pos z]
      rw [ea] at h
      exact h _ hC hR (fun _ _ _ => rfl)
  · have ea : aLet a b x B L = (-1, B, L) := by
      unfold aLet
      rw [if_pos z]
    rw [ea] at h
    exact h _ hC hR (fun _ _ _ => rfl)
theorem ca_make (hI : IvA B) (hZ : IvB B) {m : Int} : CAct B L (fun τ Q => wX10_makeHeld m τ Q) (aMake m B L) := by
  intro τ Q hC hR h
  show wX10_makeHeld m τ Q
  unfold wX10_makeHeld
  refine s_isHeldAt hC (fun p e hp hh => ⟨fun z => absurd z (by decide), fun _ => ?_⟩) (fun z => ⟨fun _ => ?_, fun z => absurd rfl z⟩)
  · subst e
    have ea : aMake (p : Int) B L = (hdr B p 2, makeB B p, L) := by
      unfold aMake
      rw [if_pos ⟨by omega, by omega, by rw [tn]; exact hh⟩, tn]
    rw [ea] at h
    exact s_makeAt hp hh hC hI hZ (fun σ' c' f' => h _ c' (hR.fr (f' 12 (by omega)) (f' 13 (by omega))) (fun i a1 a2 => f' i (by omega)))
  · have ea : aMake m B L = (-1, B, L) := by
      unfold aMake
      rw [if_neg z]
    rw [ea] at h
    exact h _ hC hR (fun _ _ _ => rfl)
theorem ca_drop {m : Int} : CAct B L (fun τ Q => wX10_dropHeld m τ Q) (aDrop m B L) := by
  intro τ Q hC hR h
  show wX10_dropHeld m τ Q
  unfold wX10_dropHeld
  refine s_isHeldAt hC (fun p e hp hh => ⟨fun z => absurd z (by decide), fun _ => ?_⟩) (fun z => ⟨fun _ => ?_, fun z => absurd rfl z⟩)
  · subst e
    have ea : aDrop (p : Int) B L = (hdr B p 2, dropB B p, L) := by
      unfold aDrop
      rw [if_pos ⟨by omega, by omega, by rw [tn]; exact hh⟩, tn]
    rw [ea] at h
    exact s_dropAt hp hh hC (fun σ' c' f' => h _ c' (hR.fr (f' 12 (by omega)) (f' 13 (by omega))) (fun i a1 a2 => f' i (by omega)))
  · have ea : aDrop m B L = (-1, B, L) := by
      unfold aDrop
      rw [if_neg z]
    rw [ea] at h
    exact h _ hC hR (fun _ _ _ => rfl)
end CACT
