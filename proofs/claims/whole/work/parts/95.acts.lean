/-! acts of a day, one at a time -/
/-- a sign, two members, a number -/
abbrev A4 : Type := Nat × Nat × Nat × Int
def lg (g : Int) : Int := if g = 102 ∨ g = 104 ∨ g = 108 ∨ g = 112 ∨ g = 119 then 2 else if g = 107 then 1 else if g = 103 ∨ g = 109 ∨ g = 115 then 0 else -1
def dgs (g : Int) : Nat := if g = 102 ∨ g = 104 ∨ g = 112 ∨ g = 119 then 4 else if g = 107 ∨ g = 108 then 3 else if g = 103 ∨ g = 109 then 1 else 0
def ZOK (z : A4) : Prop := 0 ≤ lg (z.1 : Int) ∧ z.2.1 < 8 ∧ z.2.2.1 < 8 ∧ 0 ≤ z.2.2.2 ∧ z.2.2.2 ≤ 9999
/-- the class's act -/
def wAct (z : A4) (τ : Mem) (Q : Int → Mem → Prop) : Prop := if z.1 = 102 then wX10_letOff (z.2.1 : Int) (z.2.2.1 : Int) z.2.2.2 τ Q else if z.1 = 103 then wX10_dropHeld z.2.2.2 τ Q else if z.1 = 104 then wX10_holdPayment (z.2.1 : Int) (z.2.2.1 : Int) z.2.2.2 τ Q else if z.1 = 107 then wX10_setStock (z.2.1 : Int) z.2.2.2 τ Q else if z.1 = 108 then wX10_setLimit (z.2.1 : Int) (z.2.2.1 : Int) z.2.2.2 τ Q else if z.1 = 109 then wX10_makeHeld z.2.2.2 τ Q else if z.1 = 112 then wX10_paySplit (z.2.1 : Int) (z.2.2.1 : Int) z.2.2.2 τ Q else if z.1 = 115 then wX10_settleRings τ Q else wX10_payWhole (z.2.1 : Int) (z.2.2.1 : Int) z.2.2.2 τ Q
theorem lg_cases {g : Nat} (h : 0 ≤ lg (g : Int)) : g = 102 ∨ g = 103 ∨ g = 104 ∨ g = 107 ∨ g = 108 ∨ g = 109 ∨ g = 112 ∨ g = 115 ∨ g = 119 := by
  unfold lg at h
  by_cases c1 : (g : Int) = 102 ∨ (g : Int) = 104 ∨ (g : Int) = 108 ∨ (g : Int) = 112 ∨ (g : Int) = 119
  · omega
  · rw [if_neg c1] at h
    by_cases c2 : (g : Int) = 107
    · omega
    · rw [if_neg c2] at h
      by_cases c3 : (g : Int) = 103 ∨ (g : Int) = 109 ∨ (g : Int) = 115
      · omega
      · rw [if_neg c3] at h; omega
theorem s_perform {σ : Mem} {Q : Int → Mem → Prop} {k : Nat} {z : A4} (hz : ZOK z) (hk : k < 80) (e8 : σ 8 k = ((z.1 : Nat) : Int)) (e9 : σ 9 k = ((z.2.1 : Nat) : Int)) (e10 : σ 10 k = ((z.2.2.1 : Nat) : Int)) (e11 : σ 11 k = z.2.2.2) (h : wAct z σ Q) : wX10_perform (k : Int) σ Q := by
  have hc := lg_cases hz.1
  obtain ⟨g, a, b, x⟩ := z
  dsimp only at *
  unfold wX10_perform
  rw [tn]
  refine ⟨⟨by omega, by omega⟩, ?_⟩
  rintro _ rfl
  refine ⟨⟨by omega, by omega⟩, ?_⟩
  rintro _ rfl
  refine ⟨⟨by omega, by omega⟩, ?_⟩
  rintro _ rfl
  rw [e8, e9, e10, e11]
  unfold wAct at h
  dsimp only at h
  refine ⟨⟨by omega, by omega⟩, fun e => ?_, fun e => ?_, fun e => ?_, fun e => ?_, fun e => ?_, fun e => ?_, fun e => ?_, fun e => ?_, fun e => ?_, fun e => ?_⟩
  · rw [if_pos (by omega)] at h; exact h
  · rw [if_neg (by omega), if_pos (by omega)] at h; exact h
  · rw [if_neg (by omega), if_neg (by omega), if_pos (by omega)] at h; exact h
  · rw [if_neg (by omega), if_neg (by omega), if_neg (by omega), if_pos (by omega)] at h; exact h
  · rw [if_neg (by omega), if_neg (by omega), if_neg (by omega), if_neg (by omega), if_pos (by omega)] at h; exact h
  · rw [if_neg (by omega), if_neg (by omega), if_neg (by omega), if_neg (by omega), if_neg (by omega), if_pos (by omega)] at h; exact h
  · rw [if_neg (by omega), if_neg (by omega), if_neg (by omega), if_neg (by omega), if_neg (by omega), if_neg (by omega), if_pos (by omega)] at h; exact h
  · rw [if_neg (by omega), if_neg (by omega), if_neg (by omega), if_neg (by omega), if_neg (by omega), if_neg (by omega), if_neg (by omega), if_pos (by omega)] at h; exact h
  · rw [if_neg (by omega), if_neg (by omega), if_neg (by omega), if_neg (by omega), if_neg (by omega), if_neg (by omega), if_neg (by omega), if_neg (by omega)] at h; exact h
  · omega
/-- the act in the reference's row -/
def MZ (z : A4) (j : Nat) (σ : Mem) : Prop := σ 310 (4 * j) = ((z.1 : Nat) : Int) ∧ ((z.1 = 103 ∨ z.1 = 109) → σ 310 (4 * j + 1) = z.2.2.2) ∧ (z.1 = 107 → σ 310 (4 * j + 1) = ((z.2.1 : Nat) : Int) ∧ σ 310 (4 * j + 3) = z.2.2.2) ∧ ((z.1 = 102 ∨ z.1 = 104 ∨ z.1 = 108 ∨ z.1 = 112 ∨ z.1 = 119) → σ 310 (4 * j + 1) = ((z.2.1 : Nat) : Int) ∧ σ 310 (4 * j + 2) = ((z.2.2.1 : Nat) : Int) ∧ σ 310 (4 * j + 3) = z.2.2.2)
def MActOK (z : A4) (B : Bk) (r : Int) (B1 : Bk) : Prop := ∀ (σ : Mem) (Q : Int → Mem → Prop) (R : List Int) (j : Nat), j < 80 → MZ z j σ → MN σ B → σ 300 14 = -1 → MR R σ → (∀ σ', MN σ' B1 → MR R σ' → (∀ i, i ≠ 300 → i ≠ 301 → i ≠ 304 → i ≠ 312 → i ≠ 313 → i ≠ 316 → i ≠ 320 → i ≠ 325 → σ' i = σ i) → (∀ j, j ≠ 4 → j ≠ 13 → j ≠ 16 → j ≠ 17 → j ≠ 18 → σ' 300 j = σ 300 j) → Q (if r < 0 then 0 else 1) σ') → wX11_act ((4 * j : Nat) : Int) σ Q
def ActOK (z : A4) (B : Bk) : Prop := ∃ r B1, (∀ L, ∃ L1, CAct B L (wAct z) (r, B1, L1)) ∧ MActOK z B r B1 ∧ Inv B1 ∧ (r < 0 → B1 = B)
theorem wa_102 (a b : Nat) (x : Int) : wAct (102, a, b, x) = fun τ Q => wX10_letOff (a : Int) (b : Int) x τ Q := by
  funext τ Q
  unfold wAct
  dsimp only
  rw [if_pos rfl]
theorem wa_103 (a b : Nat) (x : Int) : wAct (103, a, b, x) = fun τ Q => wX10_dropHeld x τ Q := by
  funext τ Q
  unfold wAct
  dsimp only
  rw [if_neg (by decide), if_pos rfl]
theorem wa_104 (a b : Nat) (x : Int) : wAct (104, a, b, x) = fun τ Q => wX10_holdPayment (a : Int) (b : Int) x τ Q := by
  funext τ Q
  unfold wAct
  dsimp only
  rw [if_neg (by decide), if_neg (by decide), if_pos rfl]
theorem wa_107 (a b : Nat) (x : Int) : wAct (107, a, b, x) = fun τ Q => wX10_setStock (a : Int) x τ Q := by
  funext τ Q
  unfold wAct
  dsimp only
  rw [if_neg (by decide), if_neg (by decide), if_neg (by decide), if_pos rfl]
theorem wa_108 (a b : Nat) (x : Int) : wAct (108, a, b, x) = fun τ Q => wX10_setLimit (a : Int) (b : Int) x τ Q := by
  funext τ Q
  unfold wAct
  dsimp only
  rw [if_neg (by decide), if_neg (by decide), if_neg (by decide), if_neg (by decide), if_pos rfl]
theorem wa_109 (a b : Nat) (x : Int) : wAct (109, a, b, x) = fun τ Q => wX10_makeHeld x τ Q := by
  funext τ Q
  unfold wAct
  dsimp only
  rw [if_neg (by decide), if_neg (by decide), if_neg (by decide), if_neg (by decide), if_neg (by decide), if_pos rfl]
theorem wa_112 (a b : Nat) (x : Int) : wAct (112, a, b, x) = fun τ Q => wX10_paySplit (a : Int) (b : Int) x τ Q := by
  funext τ Q
  unfold wAct
  dsimp only
  rw [if_neg (by decide), if_neg (by decide), if_neg (by decide), if_neg (by decide), if_neg (by decide), if_neg (by decide), if_pos rfl]
theorem wa_115 (a b : Nat) (x : Int) : wAct (115, a, b, x) = fun τ Q => wX10_settleRings τ Q := by
  funext τ Q
  unfold wAct
  dsimp only
  rw [if_neg (by decide), if_neg (by decide), if_neg (by decide), if_neg (by decide), if_neg (by decide), if_neg (by decide), if_neg (by decide), if_pos rfl]
theorem wa_119 (a b : Nat) (x : Int) : wAct (119, a, b, x) = fun τ Q => wX10_payWhole (a : Int) (b : Int) x τ Q := by
  funext τ Q
  unfold wAct
  dsimp only
  rw [if_neg (by decide), if_neg (by decide), if_neg (by decide), if_neg (by decide), if_neg (by decide), if_neg (by decide), if_neg (by decide), if_neg (by decide)]
section ACTS
variable {B : Bk} {a b : Nat} {x : Int}
/-- nothing was done -/
theorem ao_no {z : A4} {r : Int} (hI : Inv B) (hr : r < 0) (hC : ∀ L, ∃ L1, CAct B L (wAct z) (r, B, L1)) (hM : ∀ (σ : Mem) (Q : Int → Mem → Prop) (R : List Int) (j : Nat), j < 80 → MZ z j σ → MN σ B → σ 300 14 = -1 → MR R σ → (∀ σ', MN σ' B → MR R σ' → (∀ i, i ≠ 300 → i ≠ 301 → i ≠ 304 → i ≠ 312 → i ≠ 313 → i ≠ 316 → i ≠ 320 → i ≠ 325 → σ' i = σ i) → (∀ j, j ≠ 4 → j ≠ 13 → j ≠ 16 → j ≠ 17 → j ≠ 18 → σ' 300 j = σ 300 j) → Q 0 σ') → wX11_act ((4 * j : Nat) : Int) σ Q) : ActOK z B := by
  refine ⟨r, B, hC, fun σ Q R j h1 h2 h3 h4 h5 h => hM σ Q R j h1 h2 h3 h4 h5 (fun σ' m1 m2 m3 m4 => ?_), hI, fun _ => rfl⟩
  have q := h σ' m1 m2 m3 m4
  rw [if_pos hr] at q
  exact q
theorem ao_yes {z : A4} {r : Int} {B1 : Bk} (hI : Inv B1) (hr : ¬ r < 0) (hC : ∀ L, ∃ L1, CAct B L (wAct z) (r, B1, L1)) (hM : ∀ (σ : Mem) (Q : Int → Mem → Prop) (R : List Int) (j : Nat), j < 80 → MZ z j σ → MN σ B → σ 300 14 = -1 → MR R σ → (∀ σ', MN σ' B1 → MR R σ' → (∀ i, i ≠ 300 → i ≠ 301 → i ≠ 304 → i ≠ 312 → i ≠ 313 → i ≠ 316 → i ≠ 320 → i ≠ 325 → σ' i = σ i) → (∀ j, j ≠ 4 → j ≠ 13 → j ≠ 16 → j ≠ 17 → j ≠ 18 → σ' 300 j = σ 300 j) → Q 1 σ') → wX11_act ((4 * j : Nat) : Int) σ Q) : ActOK z B := by
  refine ⟨r, B1, hC, fun σ Q R j h1 h2 h3 h4 h5 h => hM σ Q R j h1 h2 h3 h4 h5 (fun σ' m1 m2 m3 m4 => ?_), hI, fun q => absurd q hr⟩
  have q := h σ' m1 m2 m3 m4
  rw [if_neg hr] at q
  exact q
theorem ao_102 (hI : Inv B) (ha : a < 8) (hb8 : b < 8) : ActOK (102, a, b, x) B := by
  have hN := hI.1.1
  by_cases hp : two (nN B) a b ∧ 1 ≤ x ∧ x ≤ 9999
  · by_cases hh : heldB B = 0
    · by_cases ho : x ≤ owe B a b
      · have ea : ∀ L, aLet (a : Int) (b : Int) x B L = (owe (wDeb B (pay (deb B) b a x)) a b, wDeb B (pay (deb B) b a x), L) := fun L => by
          unfold aLet
          rw [if_neg (fun t => t hp), if_neg (fun t => t hh), tn, tn, if_neg (fun t => t ho)]
        have d1 := hI.1.2.2.1 (8 * a + b) (by omega)
        have d2 := hI.1.2.2.1 (8 * b + a) (by omega)
        refine ao_yes (r := owe (wDeb B (pay (deb B) b a x)) a b) (B1 := wDeb B (pay (deb B) b a x)) ?_ (by unfold owe; omega) (fun L => ⟨L, by rw [wa_102, ← ea L]; exact ca_let hI.1⟩) ?_
        · refine inv_pay hI (by omega) (by omega) (by omega) (by omega) ?_
          have l := hI.1.2.1 (8 * a + b) (by omega)
          have an := hI.2.1.1 a (by omega) b (by omega)
          unfold rm
          rw [hld_0 hI.1 hI.2.1 hh (by omega) (by omega)]
          unfold owe at ho
          omega
        · intro σ Q R j hj hz hM hb hR h
          obtain ⟨z0, z1, z2, z3⟩ := hz
          dsimp only at z0 z1 z2 z3
          unfold wX11_act
          rw [w32n (x := ((4 * j : Nat) : Int) + 1) (4 * j + 1) (by omega) (by omega), w32n (x := ((4 * j : Nat) : Int) + 2) (4 * j + 2) (by omega) (by omega), w32n (x := ((4 * j : Nat) : Int) + 3) (4 * j + 3) (by omega) (by omega), tn, tn, tn, tn]
          refine ⟨by omega, ?_⟩
          rintro _ rfl
          refine ⟨by omega, ?_⟩
          rintro _ rfl
          refine ⟨by omega, ?_⟩
          rintro _ rfl
          rw [z0]
          refine ⟨by omega, fun _ => ?_, fun e => absurd e (by omega), fun e => absurd e (by omega), fun e => absurd e (by omega), fun e => absurd e (by omega), fun e => absurd e (by omega), fun e => absurd e (by omega), fun e => absurd e (by omega), fun e => absurd e (by omega)⟩
          obtain ⟨w1, w2, w3⟩ := z3 (by omega)
          rw [w1, w2, w3]
          refine m_refLet (L := []) hM hI.1 (fun u v e1 e2 hu hv hne _ _ _ _ _ => ⟨fun _ => m_straight hM hb8 ha (by omega) (by omega) (by omega) (fun σ' M' f' => ?_), fun q => absurd (Int.le_refl _) q⟩) (fun r hr e => ?_)
          · exact h σ' M' (hR.fr (by rw [f' 300 (by omega)]) (f' 304 (by omega))) (fun i _ b2 _ _ _ _ _ _ => f' i b2) (fun j _ _ _ _ _ => by rw [f' 300 (by omega)])
          · exfalso
            have e1 := congrArg Prod.fst ((ea []).symm.trans e)
            dsimp only at e1
            unfold owe at e1
            omega
      · have ea : ∀ L, aLet (a : Int) (b : Int) x B L = (-4, B, L) := fun L => by
          unfold aLet
          rw [if_neg (fun t => t hp), if_neg (fun t => t hh), tn, tn, if_pos ho]
        refine ao_no (r := -4) hI (by omega) (fun L => ⟨L, by rw [wa_102, ← ea L]; exact ca_let hI.1⟩) ?_
        intro σ Q R j hj hz hM hb hR h
        obtain ⟨z0, z1, z2, z3⟩ := hz
        dsimp only at z0 z1 z2 z3
        unfold wX11_act
        rw [w32n (x := ((4 * j : Nat) : Int) + 1) (4 * j + 1) (by omega) (by omega), w32n (x := ((4 * j : Nat) : Int) + 2) (4 * j + 2) (by omega) (by omega), w32n (x := ((4 * j : Nat) : Int) + 3) (4 * j + 3) (by omega) (by omega), tn, tn, tn, tn]
        refine ⟨by omega, ?_⟩
        rintro _ rfl
        refine ⟨by omega, ?_⟩
        rintro _ rfl
        refine ⟨by omega, ?_⟩
        rintro _ rfl
        rw [z0]
        refine ⟨by omega, fun _ => ?_, fun e => absurd e (by omega), fun e => absurd e (by omega), fun e => absurd e (by omega), fun e => absurd e (by omega), fun e => absurd e (by omega), fun e => absurd e (by omega), fun e => absurd e (by omega), fun e => absurd e (by omega)⟩
        obtain ⟨w1, w2, w3⟩ := z3 (by omega)
        rw [w1, w2, w3]
        refine m_refLet (L := []) hM hI.1 (fun u v e1 e2 hu hv hne _ _ _ ho2 _ => ?_) (fun r hr e => ⟨fun q => absurd q (by omega), fun _ => h σ hM hR (fun _ _ _ _ _ _ _ _ _ => rfl) (fun _ _ _ _ _ _ => rfl)⟩)
        obtain rfl : a = u := by omega
        obtain rfl : b = v := by omega
        exact absurd ho2 ho
    · have ea : ∀ L, aLet (a : Int) (b : Int) x B L = (-5, B, L) := fun L => by
        unfold aLet
        rw [if_neg (fun t => t hp), if_pos hh]
      refine ao_no (r := -5) hI (by omega) (fun L => ⟨L, by rw [wa_102, ← ea L]; exact ca_let hI.1⟩) ?_
      intro σ Q R j hj hz hM hb hR h
      obtain ⟨z0, z1, z2, z3⟩ := hz
      dsimp only at z0 z1 z2 z3
      unfold wX11_act
      rw [w32n (x := ((4 * j : Nat) : Int) + 1) (4 * j + 1) (by omega) (by omega), w32n (x := ((4 * j : Nat) : Int) + 2) (4 * j + 2) (by omega) (by omega), w32n (x := ((4 * j : Nat) : Int) + 3) (4 * j + 3) (by omega) (by omega), tn, tn, tn, tn]
      refine ⟨by omega, ?_⟩
      rintro _ rfl
      refine ⟨by omega, ?_⟩
      rintro _ rfl
      refine ⟨by omega, ?_⟩
      rintro _ rfl
      rw [z0]
      refine ⟨by omega, fun _ => ?_, fun e => absurd e (by omega), fun e => absurd e (by omega), fun e => absurd e (by omega), fun e => absurd e (by omega), fun e => absurd e (by omega), fun e => absurd e (by omega), fun e => absurd e (by omega), fun e => absurd e (by omega)⟩
      obtain ⟨w1, w2, w3⟩ := z3 (by omega)
      rw [w1, w2, w3]
      exact m_refLet (L := []) hM hI.1 (fun u v e1 e2 hu hv hne _ _ hh2 _ _ => absurd hh2 hh) (fun r hr e => ⟨fun q => absurd q (by omega), fun _ => h σ hM hR (fun _ _ _ _ _ _ _ _ _ => rfl) (fun _ _ _ _ _ _ => rfl)⟩)
  · have ea : ∀ L, aLet (a : Int) (b : Int) x B L = (-1, B, L) := fun L => by
      unfold aLet
      rw [if_pos hp]
    refine ao_no (r := -1) hI (by omega) (fun L => ⟨L, by rw [wa_102, ← ea L]; exact ca_let hI.1⟩) ?_
    intro σ Q R j hj hz hM hb hR h
    obtain ⟨z0, z1, z2, z3⟩ := hz
    dsimp only at z0 z1 z2 z3
    unfold wX11_act
    rw [w32n (x := ((4 * j : Nat) : Int) + 1) (4 * j + 1) (by omega) (by omega), w32n (x := ((4 * j : Nat) : Int) + 2) (4 * j + 2) (by omega) (by omega), w32n (x := ((4 * j : Nat) : Int) + 3) (4 * j + 3) (by omega) (by omega), tn, tn, tn, tn]
    refine ⟨by omega, ?_⟩
    rintro _ rfl
    refine ⟨by omega, ?_⟩
    rintro _ rfl
    refine ⟨by omega, ?_⟩
    rintro _ rfl
    rw [z0]
    refine ⟨by omega, fun _ => ?_, fun e => absurd e (by omega), fun e => absurd e (by omega), fun e => absurd e (by omega), fun e => absurd e (by omega), fun e => absurd e (by omega), fun e => absurd e (by omega), fun e => absurd e (by omega), fun e => absurd e (by omega)⟩
    obtain ⟨w1, w2, w3⟩ := z3 (by omega)
    rw [w1, w2, w3]
    exact m_refLet (L := []) hM hI.1 (fun u v e1 e2 hu hv hne z1 z2 _ _ _ => absurd ⟨by rw [e1, e2]; exact two_n hu hv hne, z1, z2⟩ hp) (fun r hr e => ⟨fun q => absurd q (by omega), fun _ => h σ hM hR (fun _ _ _ _ _ _ _ _ _ => rfl) (fun _ _ _ _ _ _ => rfl)⟩)
theorem ao_103 (hI : Inv B) : ActOK (103, a, b, x) B := by
  by_cases hh : 0 ≤ x ∧ x < 4 ∧ 0 < hdr B x.toNat 2
  · obtain ⟨p, rfl⟩ : ∃ p : Nat, x = p := ⟨x.toNat, by omega⟩
    rw [tn] at hh
    have hp : p < 4 := by omega
    have ea : ∀ L, aDrop (p : Int) B L = (hdr B p 2, dropB B p, L) := fun L => by
      unfold aDrop
      rw [if_pos ⟨by omega, by omega, by rw [tn]; exact hh.2.2⟩, tn]
    refine ao_yes (r := hdr B p 2) (B1 := dropB B p) (inv_drop hI hp) (by omega) (fun L => ⟨L, by rw [wa_103, ← ea L]; exact ca_drop⟩) ?_
    intro σ Q R j hj hz hM hb hR h
    obtain ⟨z0, z1, z2, z3⟩ := hz
    dsimp only at z0 z1 z2 z3
    unfold wX11_act
    rw [w32n (x := ((4 * j : Nat) : Int) + 1) (4 * j + 1) (by omega) (by omega), w32n (x := ((4 * j : Nat) : Int) + 2) (4 * j + 2) (by omega) (by omega), w32n (x := ((4 * j : Nat) : Int) + 3) (4 * j + 3) (by omega) (by omega), tn, tn, tn, tn]
    refine ⟨by omega, ?_⟩
    rintro _ rfl
    refine ⟨by omega, ?_⟩
    rintro _ rfl
    refine ⟨by omega, ?_⟩
    rintro _ rfl
    rw [z0]
    refine ⟨by omega, fun e => absurd e (by omega), fun _ => ?_, fun e => absurd e (by omega), fun e => absurd e (by omega), fun e => absurd e (by omega), fun e => absurd e (by omega), fun e => absurd e (by omega), fun e => absurd e (by omega), fun e => absurd e (by omega)⟩
    have w1 := z1 (by omega)
    rw [w1]
    refine m_isHeld hM (fun p2 e hp2 hh2 => ⟨fun _ => ⟨by omega, fun q => ?_, fun q => ?_⟩, fun q => absurd q (by decide)⟩) (fun q => absurd ⟨by omega, by omega, by rw [tn]; exact hh.2.2⟩ q)
    · unfold wX11_act_306
      refine m_free hM hI.1 hp (fun σ' M' f' => ?_)
      rw [if_pos rfl] at M'
      exact h σ' M' (hR.fr (by rw [f' 300 (by omega)]) (f' 304 (by omega))) (fun i _ b2 _ _ _ _ _ _ => f' i b2) (fun j _ _ _ _ _ => by rw [f' 300 (by omega)])
    · rw [z0] at q; omega
  · have ea : ∀ L, aDrop x B L = (-1, B, L) := fun L => by
      unfold aDrop
      rw [if_neg hh]
    refine ao_no (r := -1) hI (by omega) (fun L => ⟨L, by rw [wa_103, ← ea L]; exact ca_drop⟩) ?_
    intro σ Q R j hj hz hM hb hR h
    obtain ⟨z0, z1, z2, z3⟩ := hz
    dsimp only at z0 z1 z2 z3
    unfold wX11_act
    rw [w32n (x := ((4 * j : Nat) : Int) + 1) (4 * j + 1) (by omega) (by omega), w32n (x := ((4 * j : Nat) : Int) + 2) (4 * j + 2) (by omega) (by omega), w32n (x := ((4 * j : Nat) : Int) + 3) (4 * j + 3) (by omega) (by omega), tn, tn, tn, tn]
    refine ⟨by omega, ?_⟩
    rintro _ rfl
    refine ⟨by omega, ?_⟩
    rintro _ rfl
    refine ⟨by omega, ?_⟩
    rintro _ rfl
    rw [z0]
    refine ⟨by omega, fun e => absurd e (by omega), fun _ => ?_, fun e => absurd e (by omega), fun e => absurd e (by omega), fun e => absurd e (by omega), fun e => absurd e (by omega), fun e => absurd e (by omega), fun e => absurd e (by omega), fun e => absurd e (by omega)⟩
    have w1 := z1 (by omega)
    rw [w1]
    exact m_isHeld hM (fun p2 e hp2 hh2 => absurd ⟨by omega, by omega, by rw [e, tn]; exact hh2⟩ hh) (fun _ => ⟨fun q => absurd rfl q, fun _ => h σ hM hR (fun _ _ _ _ _ _ _ _ _ => rfl) (fun _ _ _ _ _ _ => rfl)⟩)
theorem ao_109 (hI : Inv B) : ActOK (109, a, b, x) B := by
  by_cases hh : 0 ≤ x ∧ x < 4 ∧ 0 < hdr B x.toNat 2
  · obtain ⟨p, rfl⟩ : ∃ p : Nat, x = p := ⟨x.toNat, by omega⟩
    rw [tn] at hh
    have hp : p < 4 := by omega
    have ea : ∀ L, aMake (p : Int) B L = (hdr B p 2, makeB B p, L) := fun L => by
      unfold aMake
      rw [if_pos ⟨by omega, by omega, by rw [tn]; exact hh.2.2⟩, tn]
    refine ao_yes (r := hdr B p 2) (B1 := makeB B p) (inv_make hI hp) (by omega) (fun L => ⟨L, by rw [wa_109, ← ea L]; exact ca_make hI.1 hI.2.1⟩) ?_
    intro σ Q R j hj hz hM hb hR h
    obtain ⟨z0, z1, z2, z3⟩ := hz
    dsimp only at z0 z1 z2 z3
    unfold wX11_act
    rw [w32n (x := ((4 * j : Nat) : Int) + 1) (4 * j + 1) (by omega) (by omega), w32n (x := ((4 * j : Nat) : Int) + 2) (4 * j + 2) (by omega) (by omega), w32n (x := ((4 * j : Nat) : Int) + 3) (4 * j + 3) (by omega) (by omega), tn, tn, tn, tn]
    refine ⟨by omega, ?_⟩
    rintro _ rfl
    refine ⟨by omega, ?_⟩
    rintro _ rfl
    refine ⟨by omega, ?_⟩
    rintro _ rfl
    rw [z0]
    refine ⟨by omega, fun e => absurd e (by omega), fun e => absurd e (by omega), fun e => absurd e (by omega), fun e => absurd e (by omega), fun e => absurd e (by omega), fun _ => ?_, fun e => absurd e (by omega), fun e => absurd e (by omega), fun e => absurd e (by omega)⟩
    have w1 := z1 (by omega)
    rw [w1]
    refine m_isHeld hM (fun p2 e hp2 hh2 => ⟨fun _ => ⟨by omega, fun q => ?_, fun q => ?_⟩, fun q => absurd q (by decide)⟩) (fun q => absurd ⟨by omega, by omega, by rw [tn]; exact hh.2.2⟩ q)
    · rw [z0] at q; exact absurd rfl q
    · unfold wX11_act_306
      refine m_free hM hI.1 hp (fun σ' M' f' => ?_)
      rw [if_neg (by decide)] at M'
      exact h σ' M' (hR.fr (by rw [f' 300 (by omega)]) (f' 304 (by omega))) (fun i _ b2 _ _ _ _ _ _ => f' i b2) (fun j _ _ _ _ _ => by rw [f' 300 (by omega)])
  · have ea : ∀ L, aMake x B L = (-1, B, L) := fun L => by
      unfold aMake
      rw [if_neg hh]
    refine ao_no (r := -1) hI (by omega) (fun L => ⟨L, by rw [wa_109, ← ea L]; exact ca_make hI.1 hI.2.1⟩) ?_
    intro σ Q R j hj hz hM hb hR h
    obtain ⟨z0, z1, z2, z3⟩ := hz
    dsimp only at z0 z1 z2 z3
    unfold wX11_act
    rw [w32n (x := ((4 * j : Nat) : Int) + 1) (4 * j + 1) (by omega) (by omega), w32n (x := ((4 * j : Nat) : Int) + 2) (4 * j + 2) (by omega) (by omega), w32n (x := ((4 * j : Nat) : Int) + 3) (4 * j + 3) (by omega) (by omega), tn, tn, tn, tn]
    refine ⟨by omega, ?_⟩
    rintro _ rfl
    refine ⟨by omega, ?_⟩
    rintro _ rfl
    refine ⟨by omega, ?_⟩
    rintro _ rfl
    rw [z0]
    refine ⟨by omega, fun e => absurd e (by omega), fun e => absurd e (by omega), fun e => absurd e (by omega), fun e => absurd e (by omega), fun e => absurd e (by omega), fun _ => ?_, fun e => absurd e (by omega), fun e => absurd e (by omega), fun e => absurd e (by omega)⟩
    have w1 := z1 (by omega)
    rw [w1]
    exact m_isHeld hM (fun p2 e hp2 hh2 => absurd ⟨by omega, by omega, by rw [e, tn]; exact hh2⟩ hh) (fun _ => ⟨fun q => absurd rfl q, fun _ => h σ hM hR (fun _ _ _ _ _ _ _ _ _ => rfl) (fun _ _ _ _ _ _ => rfl)⟩)
theorem ao_107 (hI : Inv B) (ha : a < 8) : ActOK (107, a, b, x) B := by
  have hN := hI.1.1
  by_cases hp : a < nN B ∧ 0 ≤ x ∧ x ≤ 999
  · by_cases hs : stk B a = x
    · have ea : ∀ L, aStock (a : Int) x B L = (-2, B, L) := fun L => by
        unfold aStock
        rw [if_neg (fun t => t ⟨⟨by omega, by omega⟩, hp.2⟩), tn, if_pos hs]
      refine ao_no (r := -2) hI (by omega) (fun L => ⟨L, by rw [wa_107, ← ea L]; exact ca_stock hI.1⟩) ?_
      intro σ Q R j hj hz hM hb hR h
      obtain ⟨z0, z1, z2, z3⟩ := hz
      dsimp only at z0 z1 z2 z3
      unfold wX11_act
      rw [w32n (x := ((4 * j : Nat) : Int) + 1) (4 * j + 1) (by omega) (by omega), w32n (x := ((4 * j : Nat) : Int) + 2) (4 * j + 2) (by omega) (by omega), w32n (x := ((4 * j : Nat) : Int) + 3) (4 * j + 3) (by omega) (by omega), tn, tn, tn, tn]
      refine ⟨by omega, ?_⟩
      rintro _ rfl
      refine ⟨by omega, ?_⟩
      rintro _ rfl
      refine ⟨by omega, ?_⟩
      rintro _ rfl
      rw [z0]
      refine ⟨by omega, fun e => absurd e (by omega), fun e => absurd e (by omega), fun e => absurd e (by omega), fun _ => ?_, fun e => absurd e (by omega), fun e => absurd e (by omega), fun e => absurd e (by omega), fun e => absurd e (by omega), fun e => absurd e (by omega)⟩
      obtain ⟨w1, w3⟩ := z2 (by omega)
      rw [w1, w3]
      refine m_refStock (L := []) hM hI.1 (fun u e hu _ _ e2 => ?_) (fun r hr e => ⟨fun q => absurd q (by omega), fun _ => h σ hM hR (fun _ _ _ _ _ _ _ _ _ => rfl) (fun _ _ _ _ _ _ => rfl)⟩)
      have e1 := congrArg Prod.fst ((ea []).symm.trans e2)
      have sb := hI.1.2.2.2.1 u (by omega)
      dsimp only at e1
      omega
    · have ea : ∀ L, aStock (a : Int) x B L = (stk B a, wStk B (up1 (stk B) a x), L) := fun L => by
        unfold aStock
        rw [if_neg (fun t => t ⟨⟨by omega, by omega⟩, hp.2⟩), tn, if_neg hs]
      have sb := hI.1.2.2.2.1 a (by omega)
      refine ao_yes (r := stk B a) (B1 := wStk B (up1 (stk B) a x)) (inv_stk hI hp.1 hp.2) (by omega) (fun L => ⟨L, by rw [wa_107, ← ea L]; exact ca_stock hI.1⟩) ?_
      intro σ Q R j hj hz hM hb hR h
      obtain ⟨z0, z1, z2, z3⟩ := hz
      dsimp only at z0 z1 z2 z3
      unfold wX11_act
      rw [w32n (x := ((4 * j : Nat) : Int) + 1) (4 * j + 1) (by omega) (by omega), w32n (x := ((4 * j : Nat) : Int) + 2) (4 * j + 2) (by omega) (by omega), w32n (x := ((4 * j : Nat) : Int) + 3) (4 * j + 3) (by omega) (by omega), tn, tn, tn, tn]
      refine ⟨by omega, ?_⟩
      rintro _ rfl
      refine ⟨by omega, ?_⟩
      rintro _ rfl
      refine ⟨by omega, ?_⟩
      rintro _ rfl
      rw [z0]
      refine ⟨by omega, fun e => absurd e (by omega), fun e => absurd e (by omega), fun e => absurd e (by omega), fun _ => ?_, fun e => absurd e (by omega), fun e => absurd e (by omega), fun e => absurd e (by omega), fun e => absurd e (by omega), fun e => absurd e (by omega)⟩
      obtain ⟨w1, w3⟩ := z2 (by omega)
      rw [w1, w3]
      refine m_refStock (L := []) hM hI.1 (fun u e hu _ _ e2 => ⟨fun _ => ?_, fun q => absurd (Int.le_refl _) q⟩) (fun r hr e => ?_)
      · rw [w32n (129 + a) (by omega) (by omega), tn]
        refine ⟨by omega, ?_⟩
        rintro m20 e20
        refine h m20 (by rw [e20]; exact MN_stk ha hM) (hR.fr (by rw [e20, up2_ne (by omega)]) (by rw [e20, up2_ne (by omega)])) (fun i _ b2 _ _ _ _ _ _ => by rw [e20, up2_ne b2]) (fun j _ _ _ _ _ => by rw [e20, up2_ne (by omega)])
      · exfalso
        have e1 := congrArg Prod.fst ((ea []).symm.trans e)
        dsimp only at e1
        omega
  · have ea : ∀ L, aStock (a : Int) x B L = (-1, B, L) := fun L => by
      unfold aStock
      rw [if_pos (fun t => hp ⟨by omega, t.2⟩)]
    refine ao_no (r := -1) hI (by omega) (fun L => ⟨L, by rw [wa_107, ← ea L]; exact ca_stock hI.1⟩) ?_
    intro σ Q R j hj hz hM hb hR h
    obtain ⟨z0, z1, z2, z3⟩ := hz
    dsimp only at z0 z1 z2 z3
    unfold wX11_act
    rw [w32n (x := ((4 * j : Nat) : Int) + 1) (4 * j + 1) (by omega) (by omega), w32n (x := ((4 * j : Nat) : Int) + 2) (4 * j + 2) (by omega) (by omega), w32n (x := ((4 * j : Nat) : Int) + 3) (4 * j + 3) (by omega) (by omega), tn, tn, tn, tn]
    refine ⟨by omega, ?_⟩
    rintro _ rfl
    refine ⟨by omega, ?_⟩
    rintro _ rfl
    refine ⟨by omega, ?_⟩
    rintro _ rfl
    rw [z0]
    refine ⟨by omega, fun e => absurd e (by omega), fun e => absurd e (by omega), fun e => absurd e (by omega), fun _ => ?_, fun e => absurd e (by omega), fun e => absurd e (by omega), fun e => absurd e (by omega), fun e => absurd e (by omega), fun e => absurd e (by omega)⟩
    obtain ⟨w1, w3⟩ := z2 (by omega)
    rw [w1, w3]
    exact m_refStock (L := []) hM hI.1 (fun u e hu y1 y2 e2 => absurd ⟨by omega, y1, y2⟩ hp) (fun r hr e => ⟨fun q => absurd q (by omega), fun _ => h σ hM hR (fun _ _ _ _ _ _ _ _ _ => rfl) (fun _ _ _ _ _ _ => rfl)⟩)
theorem ao_108 (hI : Inv B) (ha : a < 8) (hb8 : b < 8) : ActOK (108, a, b, x) B := by
  have hN := hI.1.1
  have lb := hI.1.2.1 (8 * a + b) (by omega)
  by_cases hok : two (nN B) a b ∧ (0 ≤ x ∧ x ≤ 999) ∧ heldB B = 0 ∧ lim B (8 * a + b) ≠ x ∧ owe B b a ≤ x
  · obtain ⟨hp, hx, hh, hl, ho⟩ := hok
    have ea : ∀ L, aLimit (a : Int) (b : Int) x B L = (lim B (8 * a + b), wLim B (up1 (lim B) (8 * a + b) x), L) := fun L => by
      unfold aLimit
      rw [if_neg (fun t => t ⟨hp, hx⟩), if_neg (fun t => t hh), tn, tn, if_neg hl, if_neg (fun t => t ho)]
    refine ao_yes (r := lim B (8 * a + b)) (B1 := wLim B (up1 (lim B) (8 * a + b) x)) (inv_lim hI (by omega) (by omega) (by omega) hx hh ho) (by omega) (fun L => ⟨L, by rw [wa_108, ← ea L]; exact ca_limit hI.1⟩) ?_
    intro σ Q R j hj hz hM hb hR h
    obtain ⟨z0, z1, z2, z3⟩ := hz
    dsimp only at z0 z1 z2 z3
    unfold wX11_act
    rw [w32n (x := ((4 * j : Nat) : Int) + 1) (4 * j + 1) (by omega) (by omega), w32n (x := ((4 * j : Nat) : Int) + 2) (4 * j + 2) (by omega) (by omega), w32n (x := ((4 * j : Nat) : Int) + 3) (4 * j + 3) (by omega) (by omega), tn, tn, tn, tn]
    refine ⟨by omega, ?_⟩
    rintro _ rfl
    refine ⟨by omega, ?_⟩
    rintro _ rfl
    refine ⟨by omega, ?_⟩
    rintro _ rfl
    rw [z0]
    refine ⟨by omega, fun e => absurd e (by omega), fun e => absurd e (by omega), fun e => absurd e (by omega), fun e => absurd e (by omega), fun _ => ?_, fun e => absurd e (by omega), fun e => absurd e (by omega), fun e => absurd e (by omega), fun e => absurd e (by omega)⟩
    obtain ⟨w1, w2, w3⟩ := z3 (by omega)
    rw [w1, w2, w3]
    refine m_refLimit (L := []) hM hI.1 (fun u v e1 e2 hu hv hne _ _ _ _ _ => ⟨fun _ => m_pair ha hb8 ?_, fun q => absurd (Int.le_refl _) q⟩) (fun r hr e => ?_)
    · rw [w32n (1 + (8 * a + b)) (by omega) (by omega), tn]
      refine ⟨by omega, ?_⟩
      rintro m25 e25
      exact h m25 (by rw [e25]; exact MN_lim (by omega) hM) (hR.fr (by rw [e25, up2_ne (by omega)]) (by rw [e25, up2_ne (by omega)])) (fun i _ b2 _ _ _ _ _ _ => by rw [e25, up2_ne b2]) (fun j _ _ _ _ _ => by rw [e25, up2_ne (by omega)])
    · exfalso
      have e1 := congrArg Prod.fst ((ea []).symm.trans e)
      dsimp only at e1
      omega
  · obtain ⟨r, hr, ea⟩ : ∃ r : Int, r < 0 ∧ ∀ L, aLimit (a : Int) (b : Int) x B L = (r, B, L) := by
      unfold aLimit
      by_cases c1 : two (nN B) a b ∧ 0 ≤ x ∧ x ≤ 999
      · by_cases c2 : heldB B = 0
        · by_cases c3 : lim B (8 * a + b) = x
          · exact ⟨-2, by omega, fun L => by rw [if_neg (fun t => t c1), if_neg (fun t => t c2), tn, tn, if_pos c3]⟩
          · exact ⟨-4, by omega, fun L => by rw [if_neg (fun t => t c1), if_neg (fun t => t c2), tn, tn, if_neg c3, if_pos (fun t => hok ⟨c1.1, c1.2, c2, c3, t⟩)]⟩
        · exact ⟨-5, by omega, fun L => by rw [if_neg (fun t => t c1), if_pos c2]⟩
      · exact ⟨-1, by omega, fun L => by rw [if_pos c1]⟩
    refine ao_no (r := r) hI hr (fun L => ⟨L, by rw [wa_108, ← ea L]; exact ca_limit hI.1⟩) ?_
    intro σ Q R j hj hz hM hb hR h
    obtain ⟨z0, z1, z2, z3⟩ := hz
    dsimp only at z0 z1 z2 z3
    unfold wX11_act
    rw [w32n (x := ((4 * j : Nat) : Int) + 1) (4 * j + 1) (by omega) (by omega), w32n (x := ((4 * j : Nat) : Int) + 2) (4 * j + 2) (by omega) (by omega), w32n (x := ((4 * j : Nat) : Int) + 3) (4 * j + 3) (by omega) (by omega), tn, tn, tn, tn]
    refine ⟨by omega, ?_⟩
    rintro _ rfl
    refine ⟨by omega, ?_⟩
    rintro _ rfl
    refine ⟨by omega, ?_⟩
    rintro _ rfl
    rw [z0]
    refine ⟨by omega, fun e => absurd e (by omega), fun e => absurd e (by omega), fun e => absurd e (by omega), fun e => absurd e (by omega), fun _ => ?_, fun e => absurd e (by omega), fun e => absurd e (by omega), fun e => absurd e (by omega), fun e => absurd e (by omega)⟩
    obtain ⟨w1, w2, w3⟩ := z3 (by omega)
    rw [w1, w2, w3]
    refine m_refLimit (L := []) hM hI.1 (fun u v e1 e2 hu hv hne _ _ _ _ e => ?_) (fun r2 hr2 e => ⟨fun q => absurd q (by omega), fun _ => h σ hM hR (fun _ _ _ _ _ _ _ _ _ => rfl) (fun _ _ _ _ _ _ => rfl)⟩)
    exfalso
    have e3 := congrArg Prod.fst ((ea []).symm.trans e)
    have l2 := hI.1.2.1 (8 * u + v) (by omega)
    dsimp only at e3
    omega
theorem ao_112 (hI : Inv B) (ha : a < 8) (hb8 : b < 8) : ActOK (112, a, b, x) B := by
  have hN := hI.1.1
  by_cases hp : two (nN B) a b ∧ 1 ≤ x ∧ x ≤ 9999
  · have hf : a < nN B := by omega
    have ht : b < nN B := by omega
    have hne : a ≠ b := by omega
    obtain ⟨r1, s1, l1, h1, hlen1⟩ := snd_ex hI.1 hf ht hne (si_sp (B := B)) (l := x) (by omega)
    have q1 := Prun.si hI.1 hf ht hne h1.1 si_sp (by omega)
    have go : ∀ (σ : Mem) (Q : Int → Mem → Prop) (R : List Int) (j : Nat), j < 80 → MZ (112, a, b, x) j σ → MN σ B → σ 300 14 = -1 → MR R σ → (∀ σ', MN σ' (GM 8 B (if l1 = 0 then s1 else sp B)) → MR R σ' → (∀ i, i ≠ 300 → i ≠ 301 → i ≠ 304 → i ≠ 312 → i ≠ 313 → i ≠ 316 → i ≠ 320 → i ≠ 325 → σ' i = σ i) → (∀ j, j ≠ 4 → j ≠ 13 → j ≠ 16 → j ≠ 17 → j ≠ 18 → σ' 300 j = σ 300 j) → Q (if l1 = 0 then 1 else 0) σ') → wX11_act ((4 * j : Nat) : Int) σ Q := by
      intro σ Q R j hj hz hM hb hR h
      obtain ⟨z0, z1, z2, z3⟩ := hz
      dsimp only at z0 z1 z2 z3
      unfold wX11_act
      rw [w32n (x := ((4 * j : Nat) : Int) + 1) (4 * j + 1) (by omega) (by omega), w32n (x := ((4 * j : Nat) : Int) + 2) (4 * j + 2) (by omega) (by omega), w32n (x := ((4 * j : Nat) : Int) + 3) (4 * j + 3) (by omega) (by omega), tn, tn, tn, tn]
      refine ⟨by omega, ?_⟩
      rintro _ rfl
      refine ⟨by omega, ?_⟩
      rintro _ rfl
      refine ⟨by omega, ?_⟩
      rintro _ rfl
      rw [z0]
      refine ⟨by omega, fun e => absurd e (by omega), fun e => absurd e (by omega), fun e => absurd e (by omega), fun e => absurd e (by omega), fun e => absurd e (by omega), fun e => absurd e (by omega), fun _ => ?_, fun e => absurd e (by omega), fun e => absurd e (by omega)⟩
      obtain ⟨w1, w2, w3⟩ := z3 (by omega)
      rw [w1, w2, w3]
      refine m_isPayment hM hI.1 (fun _ _ _ _ _ _ _ _ _ => ⟨fun q => absurd q (by decide), fun _ => ?_⟩) (fun q => absurd hp q)
      refine m_goPay (m := 8) (s := sp B) (mn_gm hM) hI.1 hI.2.1 si_sp (nobar hb) hf ht hne hp.2 hR h1 (fun σ' M' R' f' _ j' => ?_)
      have k := h σ' M' R' (fun i b1 b2 b3 b4 b5 b6 _ _ => f' i b1 b2 b3 b4 b5 b6) (fun j b1 b2 b3 b4 _ => j' j b1 b2 b3 b4)
      by_cases c : l1 = 0
      · rw [if_pos c] at k ⊢; exact ⟨fun q => absurd q (by decide), fun _ => k⟩
      · rw [if_neg c] at k ⊢; exact ⟨fun _ => k, fun q => absurd rfl q⟩
    by_cases c : l1 = 0
    · have ea : aPay x B r1 s1 l1 = ((r1.length : Int), GM 8 B s1, rowR r1) := by unfold aPay; rw [if_pos c]
      refine ao_yes (r := (r1.length : Int)) (B1 := GM 8 B s1) (inv_gm hI q1.1) (by omega) (fun L => ⟨rowR r1, by rw [wa_112, ← ea]; exact ca_pay hI hf ht hne hp.2 h1⟩) (fun σ Q R j g1 g2 g3 g4 g5 g => go σ Q R j g1 g2 g3 g4 g5 (fun σ' m1 m2 m3 m4 => ?_))
      rw [if_pos c] at m1 ⊢
      exact g σ' m1 m2 m3 m4
    · have ea : aPay x B r1 s1 l1 = (-4, B, [x - l1]) := by unfold aPay; rw [if_neg c]
      refine ao_no (r := -4) hI (by omega) (fun L => ⟨[x - l1], by rw [wa_112, ← ea]; exact ca_pay hI hf ht hne hp.2 h1⟩) (fun σ Q R j g1 g2 g3 g4 g5 g => go σ Q R j g1 g2 g3 g4 g5 (fun σ' m1 m2 m3 m4 => ?_))
      rw [if_neg c] at m1 ⊢
      exact g σ' (mn_gm' m1) m2 m3 m4
  · refine ao_no (r := -1) hI (by omega) (fun L => ⟨L, by rw [wa_112]; exact ca_nopay hp⟩) ?_
    intro σ Q R j hj hz hM hb hR h
    obtain ⟨z0, z1, z2, z3⟩ := hz
    dsimp only at z0 z1 z2 z3
    unfold wX11_act
    rw [w32n (x := ((4 * j : Nat) : Int) + 1) (4 * j + 1) (by omega) (by omega), w32n (x := ((4 * j : Nat) : Int) + 2) (4 * j + 2) (by omega) (by omega), w32n (x := ((4 * j : Nat) : Int) + 3) (4 * j + 3) (by omega) (by omega), tn, tn, tn, tn]
    refine ⟨by omega, ?_⟩
    rintro _ rfl
    refine ⟨by omega, ?_⟩
    rintro _ rfl
    refine ⟨by omega, ?_⟩
    rintro _ rfl
    rw [z0]
    refine ⟨by omega, fun e => absurd e (by omega), fun e => absurd e (by omega), fun e => absurd e (by omega), fun e => absurd e (by omega), fun e => absurd e (by omega), fun e => absurd e (by omega), fun _ => ?_, fun e => absurd e (by omega), fun e => absurd e (by omega)⟩
    obtain ⟨w1, w2, w3⟩ := z3 (by omega)
    rw [w1, w2, w3]
    exact m_isPayment hM hI.1 (not_pay hp) (fun _ => ⟨fun _ => h σ hM hR (fun _ _ _ _ _ _ _ _ _ => rfl) (fun _ _ _ _ _ _ => rfl), fun q => absurd rfl q⟩)
theorem ao_119 (hI : Inv B) (ha : a < 8) (hb8 : b < 8) : ActOK (119, a, b, x) B := by
  have hN := hI.1.1
  by_cases hp : two (nN B) a b ∧ 1 ≤ x ∧ x ≤ 9999
  · have hf : a < nN B := by omega
    have ht : b < nN B := by omega
    have hne : a ≠ b := by omega
    rcases w_or (s := sp B) (x := x) trivial hf ht with hn | ⟨L, P, hW⟩
    · obtain ⟨W, hWd⟩ := ex_Wd (nN B) (sp B) a b
      refine ao_no (r := -4) hI (by omega) (fun L => ⟨[W], by rw [wa_119]; exact ca_whole0 hI hf ht hne hp.2 hn hWd⟩) ?_
      intro σ Q R j hj hz hM hb hR h
      obtain ⟨z0, z1, z2, z3⟩ := hz
      dsimp only at z0 z1 z2 z3
      unfold wX11_act
      rw [w32n (x := ((4 * j : Nat) : Int) + 1) (4 * j + 1) (by omega) (by omega), w32n (x := ((4 * j : Nat) : Int) + 2) (4 * j + 2) (by omega) (by omega), w32n (x := ((4 * j : Nat) : Int) + 3) (4 * j + 3) (by omega) (by omega), tn, tn, tn, tn]
      refine ⟨by omega, ?_⟩
      rintro _ rfl
      refine ⟨by omega, ?_⟩
      rintro _ rfl
      refine ⟨by omega, ?_⟩
      rintro _ rfl
      rw [z0]
      refine ⟨by omega, fun e => absurd e (by omega), fun e => absurd e (by omega), fun e => absurd e (by omega), fun e => absurd e (by omega), fun e => absurd e (by omega), fun e => absurd e (by omega), fun e => absurd e (by omega), fun _ => ?_, fun e => absurd e (by omega)⟩
      obtain ⟨w1, w2, w3⟩ := z3 (by omega)
      rw [w1, w2, w3]
      refine m_isPayment hM hI.1 (fun _ _ _ _ _ _ _ _ _ => ⟨fun q => absurd q (by decide), fun _ => ?_⟩) (fun q => absurd hp q)
      refine m_findWay (m := 8) (s := sp B) (mn_gm hM) hI.1 hI.2.1 si_sp (nobar hb) hf ht (by omega) (fun σ2 _ f2 => ⟨fun q => absurd rfl q, fun _ => ?_⟩) (fun σ2 L P hW _ _ _ _ => (hW.no hf hn).elim)
      exact h σ2 (by unfold MN; rw [f2 301 (by omega)]; exact hM) (hR.fr (by rw [f2 300 (by omega)]) (f2 304 (by omega))) (fun i _ _ _ b4 _ _ _ _ => f2 i b4) (fun j _ _ _ _ _ => by rw [f2 300 (by omega)])
    · obtain ⟨hL2, hLN, q0, qL, hPn, hinj, he⟩ := hW.sh hf ht hne
      have hsi := whole_si hI hf ht hne hp.2 hW
      refine ao_yes (r := (L : Int)) (B1 := GM 8 B (pushS (sp B) P x (L - 1))) (inv_gm hI (hsi _ (by omega))) (by omega) (fun L0 => ⟨wayR L P, by rw [wa_119]; exact ca_whole1 hI hf ht hne hp.2 hW⟩) ?_
      intro σ Q R j hj hz hM hb hR h
      obtain ⟨z0, z1, z2, z3⟩ := hz
      dsimp only at z0 z1 z2 z3
      unfold wX11_act
      rw [w32n (x := ((4 * j : Nat) : Int) + 1) (4 * j + 1) (by omega) (by omega), w32n (x := ((4 * j : Nat) : Int) + 2) (4 * j + 2) (by omega) (by omega), w32n (x := ((4 * j : Nat) : Int) + 3) (4 * j + 3) (by omega) (by omega), tn, tn, tn, tn]
      refine ⟨by omega, ?_⟩
      rintro _ rfl
      refine ⟨by omega, ?_⟩
      rintro _ rfl
      refine ⟨by omega, ?_⟩
      rintro _ rfl
      rw [z0]
      refine ⟨by omega, fun e => absurd e (by omega), fun e => absurd e (by omega), fun e => absurd e (by omega), fun e => absurd e (by omega), fun e => absurd e (by omega), fun e => absurd e (by omega), fun e => absurd e (by omega), fun _ => ?_, fun e => absurd e (by omega)⟩
      obtain ⟨w1, w2, w3⟩ := z3 (by omega)
      rw [w1, w2, w3]
      refine m_isPayment hM hI.1 (fun _ _ _ _ _ _ _ _ _ => ⟨fun q => absurd q (by decide), fun _ => ?_⟩) (fun q => absurd hp q)
      refine m_findWay (m := 8) (s := sp B) (mn_gm hM) hI.1 hI.2.1 si_sp (nobar hb) hf ht (by omega) (fun σ2 q _ => (hW.no hf q).elim) (fun σ2 L2 P2 hW2 e13 e313 f2 j2 => ⟨fun _ => ?_, fun q => absurd q (by decide)⟩)
      obtain ⟨eL, eP⟩ := hW2.eq hf hW
      subst eL
      have e313' : ∀ i, i < L2 → σ2 313 i = ((P i : Nat) : Int) := fun i hi => by rw [e313 i hi, eP i hi]
      refine m_goOnWay (m := 8) (B := B) (s := sp B) (P := P) (mn_gm (by unfold MN; rw [f2 301 (by omega) (by omega) (by omega)]; exact hM)) hI.1 hI.2.1 ⟨by omega, by omega⟩ e13 e313' (fun i hi => by have := hPn i hi; omega) (fun i hi => by have := hPn i hi; omega) (by omega) hsi (fun σ5 M5 f5 => ?_)
      exact h σ5 M5 (hR.fr (by rw [f5 300 (by omega), j2 4 (by omega)]) (by rw [f5 304 (by omega), f2 304 (by omega) (by omega) (by omega)])) (fun i b1 b2 _ b4 b5 _ _ _ => by rw [f5 i b2]; exact f2 i b1 b4 b5) (fun j _ b2 _ _ _ => by rw [f5 300 (by omega)]; exact j2 j b2)
  · refine ao_no (r := -1) hI (by omega) (fun L => ⟨L, by rw [wa_119]; exact ca_nowhole hp⟩) ?_
    intro σ Q R j hj hz hM hb hR h
    obtain ⟨z0, z1, z2, z3⟩ := hz
    dsimp only at z0 z1 z2 z3
    unfold wX11_act
    rw [w32n (x := ((4 * j : Nat) : Int) + 1) (4 * j + 1) (by omega) (by omega), w32n (x := ((4 * j : Nat) : Int) + 2) (4 * j + 2) (by omega) (by omega), w32n (x := ((4 * j : Nat) : Int) + 3) (4 * j + 3) (by omega) (by omega), tn, tn, tn, tn]
    refine ⟨by omega, ?_⟩
    rintro _ rfl
    refine ⟨by omega, ?_⟩
    rintro _ rfl
    refine ⟨by omega, ?_⟩
    rintro _ rfl
    rw [z0]
    refine ⟨by omega, fun e => absurd e (by omega), fun e => absurd e (by omega), fun e => absurd e (by omega), fun e => absurd e (by omega), fun e => absurd e (by omega), fun e => absurd e (by omega), fun e => absurd e (by omega), fun _ => ?_, fun e => absurd e (by omega)⟩
    obtain ⟨w1, w2, w3⟩ := z3 (by omega)
    rw [w1, w2, w3]
    exact m_isPayment hM hI.1 (not_pay hp) (fun _ => ⟨fun _ => h σ hM hR (fun _ _ _ _ _ _ _ _ _ => rfl) (fun _ _ _ _ _ _ => rfl), fun q => absurd rfl q⟩)
theorem ao_104 (hI : Inv B) (ha : a < 8) (hb8 : b < 8) : ActOK (104, a, b, x) B := by
  have hN := hI.1.1
  by_cases hp : two (nN B) a b ∧ 1 ≤ x ∧ x ≤ 9999
  · have hf : a < nN B := by omega
    have ht : b < nN B := by omega
    have hne : a ≠ b := by omega
    obtain ⟨r, s', v, hr, hr2, hn, v0, v1, hlen, hS'⟩ := snd_most hI.1 hf ht hne (si_sp (B := B))
    obtain ⟨r1, s1, l1, h1, hlen1⟩ := snd_ex hI.1 hf ht hne (si_sp (B := B)) (l := x) (by omega)
    have q1 := Prun.si hI.1 hf ht hne h1.1 si_sp (by omega)
    have hcase := snd_x hI.1 hf ht hne si_sp hr (by omega) h1
    by_cases c4 : freeP B = 4
    · refine ao_no (r := -3) hI (by omega) (fun L => ⟨L, ?_⟩) ?_
      · have ea : aHold a b x B L r1 s1 l1 = (-3, B, L) := by unfold aHold; rw [if_pos c4]
        rw [wa_104, ← ea]
        exact ca_hold hI hf ht hne hp.2 h1
      · intro σ Q R j hj hz hM hb hR h
        obtain ⟨z0, z1, z2, z3⟩ := hz
        dsimp only at z0 z1 z2 z3
        unfold wX11_act
        rw [w32n (x := ((4 * j : Nat) : Int) + 1) (4 * j + 1) (by omega) (by omega), w32n (x := ((4 * j : Nat) : Int) + 2) (4 * j + 2) (by omega) (by omega), w32n (x := ((4 * j : Nat) : Int) + 3) (4 * j + 3) (by omega) (by omega), tn, tn, tn, tn]
        refine ⟨by omega, ?_⟩
        rintro _ rfl
        refine ⟨by omega, ?_⟩
        rintro _ rfl
        refine ⟨by omega, ?_⟩
        rintro _ rfl
        rw [z0]
        refine ⟨by omega, fun e => absurd e (by omega), fun e => absurd e (by omega), fun _ => ?_, fun e => absurd e (by omega), fun e => absurd e (by omega), fun e => absurd e (by omega), fun e => absurd e (by omega), fun e => absurd e (by omega), fun e => absurd e (by omega)⟩
        obtain ⟨w1, w2, w3⟩ := z3 (by omega)
        rw [w1, w2, w3]
        refine m_isPayment hM hI.1 (fun _ _ _ _ _ _ _ _ _ => ⟨fun q => absurd q (by decide), fun _ => m_freePlace hM hI.1 ⟨fun _ => ?_, fun q => absurd (by omega) q⟩⟩) (fun q => absurd hp q)
        exact h σ hM hR (fun _ _ _ _ _ _ _ _ _ => rfl) (fun _ _ _ _ _ _ => rfl)
    · obtain ⟨hp4, hp0⟩ := freeP_0 c4
      have go : ∀ (σ : Mem) (Q : Int → Mem → Prop) (R : List Int) (j : Nat), j < 80 → MZ (104, a, b, x) j σ → MN σ B → σ 300 14 = -1 → MR R σ → (l1 = 0 → ∀ σ', MN σ' (holdB B (freeP B) a b x s1) → MR R σ' → (∀ i, i ≠ 300 → i ≠ 301 → i ≠ 304 → i ≠ 312 → i ≠ 313 → i ≠ 316 → i ≠ 320 → i ≠ 325 → σ' i = σ i) → (∀ j, j ≠ 4 → j ≠ 13 → j ≠ 16 → j ≠ 17 → j ≠ 18 → σ' 300 j = σ 300 j) → Q 1 σ') → (l1 ≠ 0 → ∀ σ', MN σ' B → MR R σ' → (∀ i, i ≠ 300 → i ≠ 301 → i ≠ 304 → i ≠ 312 → i ≠ 313 → i ≠ 316 → i ≠ 320 → i ≠ 325 → σ' i = σ i) → (∀ j, j ≠ 4 → j ≠ 13 → j ≠ 16 → j ≠ 17 → j ≠ 18 → σ' 300 j = σ 300 j) → Q 0 σ') → wX11_act ((4 * j : Nat) : Int) σ Q := by
        intro σ Q R j hj hz hM hb hR hy hno
        obtain ⟨z0, z1, z2, z3⟩ := hz
        dsimp only at z0 z1 z2 z3
        unfold wX11_act
        rw [w32n (x := ((4 * j : Nat) : Int) + 1) (4 * j + 1) (by omega) (by omega), w32n (x := ((4 * j : Nat) : Int) + 2) (4 * j + 2) (by omega) (by omega), w32n (x := ((4 * j : Nat) : Int) + 3) (4 * j + 3) (by omega) (by omega), tn, tn, tn, tn]
        refine ⟨by omega, ?_⟩
        rintro _ rfl
        refine ⟨by omega, ?_⟩
        rintro _ rfl
        refine ⟨by omega, ?_⟩
        rintro _ rfl
        rw [z0]
        refine ⟨by omega, fun e => absurd e (by omega), fun e => absurd e (by omega), fun _ => ?_, fun e => absurd e (by omega), fun e => absurd e (by omega), fun e => absurd e (by omega), fun e => absurd e (by omega), fun e => absurd e (by omega), fun e => absurd e (by omega)⟩
        obtain ⟨w1, w2, w3⟩ := z3 (by omega)
        rw [w1, w2, w3]
        refine m_isPayment hM hI.1 (fun _ _ _ _ _ _ _ _ _ => ⟨fun q => absurd q (by decide), fun _ => m_freePlace hM hI.1 ⟨fun q => absurd q (by omega), fun _ => ?_⟩⟩) (fun q => absurd hp q)
        refine m_mostOf (m := 8) (s := sp B) (R := R) (mn_gm hM) hI.1 hI.2.1 si_sp (nobar hb) hf ht hne hR hr2 (fun σ2 b2 _ M2 R2 _ _ _ f2 _ j2 => ⟨fun z => ?_, fun z => ?_⟩)
        · have hl : l1 = 0 := by omega
          have M2' := mn_gm' M2
          subst hl
          refine m_freePlace M2' hI.1 (m_hold (R := R) M2' hI (by rw [j2 14 (by omega) (by omega) (by omega) (by omega) (by omega)]; exact hb) hp4 hf ht hne hp.2 R2 h1 (fun σ3 M3 R3 _ f3 j3 => ?_))
          exact hy rfl σ3 M3 R3 (fun i b1 b2 b3 b4 b5 b6 b7 b8 => by rw [f3 i b1 b2 b3 b4 b5 b6 b8]; exact f2 i b1 b2 b3 b4 b5 b6) (fun j b1 b2 b3 b4 b5 => by rw [j3 j b1 b2 b3 b4]; exact j2 j b1 b2 b3 b4 b5)
        · have hl : l1 ≠ 0 := by omega
          exact hno hl σ2 (mn_gm' M2) R2 (fun i b1 b2 b3 b4 b5 b6 _ _ => f2 i b1 b2 b3 b4 b5 b6) (fun j b1 b2 b3 b4 b5 => j2 j b1 b2 b3 b4 b5)
      by_cases c : l1 = 0
      · refine ao_yes (r := (freeP B : Int)) (B1 := holdB B (freeP B) a b x s1) (inv_hold hI q1.1 hp4 hp0 hp.2) (by omega) (fun L => ⟨[(r1.length : Int)], ?_⟩) (fun σ Q R j g1 g2 g3 g4 g5 g => go σ Q R j g1 g2 g3 g4 g5 (fun _ => g) (fun q => absurd c q))
        have ea : aHold a b x B L r1 s1 l1 = ((freeP B : Int), holdB B (freeP B) a b x s1, [(r1.length : Int)]) := by unfold aHold; rw [if_neg c4, if_pos c]
        rw [wa_104, ← ea]
        exact ca_hold hI hf ht hne hp.2 h1
      · refine ao_no (r := -4) hI (by omega) (fun L => ⟨[x - l1], ?_⟩) (fun σ Q R j g1 g2 g3 g4 g5 g => go σ Q R j g1 g2 g3 g4 g5 (fun q => absurd q c) (fun _ => g))
        have ea : aHold a b x B L r1 s1 l1 = (-4, B, [x - l1]) := by unfold aHold; rw [if_neg c4, if_neg c]
        rw [wa_104, ← ea]
        exact ca_hold hI hf ht hne hp.2 h1
  · refine ao_no (r := -1) hI (by omega) (fun L => ⟨L, by rw [wa_104]; exact ca_nohold hp⟩) ?_
    intro σ Q R j hj hz hM hb hR h
    obtain ⟨z0, z1, z2, z3⟩ := hz
    dsimp only at z0 z1 z2 z3
    unfold wX11_act
    rw [w32n (x := ((4 * j : Nat) : Int) + 1) (4 * j + 1) (by omega) (by omega), w32n (x := ((4 * j : Nat) : Int) + 2) (4 * j + 2) (by omega) (by omega), w32n (x := ((4 * j : Nat) : Int) + 3) (4 * j + 3) (by omega) (by omega), tn, tn, tn, tn]
    refine ⟨by omega, ?_⟩
    rintro _ rfl
    refine ⟨by omega, ?_⟩
    rintro _ rfl
    refine ⟨by omega, ?_⟩
    rintro _ rfl
    rw [z0]
    refine ⟨by omega, fun e => absurd e (by omega), fun e => absurd e (by omega), fun _ => ?_, fun e => absurd e (by omega), fun e => absurd e (by omega), fun e => absurd e (by omega), fun e => absurd e (by omega), fun e => absurd e (by omega), fun e => absurd e (by omega)⟩
    obtain ⟨w1, w2, w3⟩ := z3 (by omega)
    rw [w1, w2, w3]
    exact m_isPayment hM hI.1 (not_pay hp) (fun _ => ⟨fun _ => h σ hM hR (fun _ _ _ _ _ _ _ _ _ => rfl) (fun _ _ _ _ _ _ => rfl), fun q => absurd rfl q⟩)
theorem ao_115 (hI : Inv B) : ActOK (115, a, b, x) B := by
  obtain ⟨k, B', hS, hk⟩ := ex_Srun 56 B hI.1 hI.2.1 (cnt_62 hI.1 hI.2.1)
  have kp := hS.keep hI.1 hI.2.1
  by_cases hh : heldB B = 0
  · have go : ∀ (σ : Mem) (Q : Int → Mem → Prop) (R : List Int) (j : Nat), j < 80 → MZ (115, a, b, x) j σ → MN σ B → σ 300 14 = -1 → MR R σ → (∀ σ', MN σ' B' → MR R σ' → (∀ i, i ≠ 300 → i ≠ 301 → i ≠ 304 → i ≠ 312 → i ≠ 313 → i ≠ 316 → i ≠ 320 → i ≠ 325 → σ' i = σ i) → (∀ j, j ≠ 4 → j ≠ 13 → j ≠ 16 → j ≠ 17 → j ≠ 18 → σ' 300 j = σ 300 j) → (((k : Nat) : Int) ≤ 0 → Q 0 σ') ∧ (¬ ((k : Nat) : Int) ≤ 0 → Q 1 σ')) → wX11_act ((4 * j : Nat) : Int) σ Q := by
      intro σ Q R j hj hz hM hb hR h
      obtain ⟨z0, z1, z2, z3⟩ := hz
      dsimp only at z0 z1 z2 z3
      unfold wX11_act
      rw [w32n (x := ((4 * j : Nat) : Int) + 1) (4 * j + 1) (by omega) (by omega), w32n (x := ((4 * j : Nat) : Int) + 2) (4 * j + 2) (by omega) (by omega), w32n (x := ((4 * j : Nat) : Int) + 3) (4 * j + 3) (by omega) (by omega), tn, tn, tn, tn]
      refine ⟨by omega, ?_⟩
      rintro _ rfl
      refine ⟨by omega, ?_⟩
      rintro _ rfl
      refine ⟨by omega, ?_⟩
      rintro _ rfl
      rw [z0]
      refine ⟨by omega, fun e => absurd e (by omega), fun e => absurd e (by omega), fun e => absurd e (by omega), fun e => absurd e (by omega), fun e => absurd e (by omega), fun e => absurd e (by omega), fun e => absurd e (by omega), fun e => absurd e (by omega), fun _ => ?_⟩
      refine m_heldBits hM ⟨fun q => absurd hh q, fun _ => m_goSettle (by omega) hI.1 hI.2.1 hM hS (fun σ' M' f' => ?_)⟩
      exact h σ' M' (hR.fr (by rw [f' 300 (by omega) (by omega)]) (f' 304 (by omega) (by omega))) (fun i _ b2 _ _ _ _ b7 _ => f' i b2 b7) (fun j _ _ _ _ _ => by rw [f' 300 (by omega) (by omega)])
    by_cases c : k = 0
    · subst c
      obtain ⟨rfl, _⟩ := hS
      refine ao_no (r := -2) hI (by omega) (fun L => ⟨L, ?_⟩) (fun σ Q R j g1 g2 g3 g4 g5 g => go σ Q R j g1 g2 g3 g4 g5 (fun σ' m1 m2 m3 m4 => ⟨fun _ => g σ' m1 m2 m3 m4, fun q => absurd (Int.le_refl _) q⟩))
      have ea : aSettle B' L 0 B' = (-2, B', L) := by unfold aSettle; rw [if_neg (fun q => q hh), if_pos rfl]
      rw [wa_115, ← ea]
      exact ca_settle hI.1 hI.2.1 (by omega) ⟨rfl, ‹_›⟩
    · refine ao_yes (r := (k : Int)) (B1 := B') (kp.2.2.2.2 hh hI) (by omega) (fun L => ⟨[oweAll B - oweAll B'], ?_⟩) (fun σ Q R j g1 g2 g3 g4 g5 g => go σ Q R j g1 g2 g3 g4 g5 (fun σ' m1 m2 m3 m4 => ⟨fun q => absurd q (by omega), fun _ => g σ' m1 m2 m3 m4⟩))
      have ea : aSettle B L k B' = ((k : Int), B', [oweAll B - oweAll B']) := by unfold aSettle; rw [if_neg (fun q => q hh), if_neg c]
      rw [wa_115, ← ea]
      exact ca_settle hI.1 hI.2.1 (by omega) hS
  · refine ao_no (r := -5) hI (by omega) (fun L => ⟨L, ?_⟩) ?_
    · have ea : aSettle B L k B' = (-5, B, L) := by unfold aSettle; rw [if_pos hh]
      rw [wa_115, ← ea]
      exact ca_settle hI.1 hI.2.1 (by omega) hS
    · intro σ Q R j hj hz hM hb hR h
      obtain ⟨z0, z1, z2, z3⟩ := hz
      dsimp only at z0 z1 z2 z3
      unfold wX11_act
      rw [w32n (x := ((4 * j : Nat) : Int) + 1) (4 * j + 1) (by omega) (by omega), w32n (x := ((4 * j : Nat) : Int) + 2) (4 * j + 2) (by omega) (by omega), w32n (x := ((4 * j : Nat) : Int) + 3) (4 * j + 3) (by omega) (by omega), tn, tn, tn, tn]
      refine ⟨by omega, ?_⟩
      rintro _ rfl
      refine ⟨by omega, ?_⟩
      rintro _ rfl
      refine ⟨by omega, ?_⟩
      rintro _ rfl
      rw [z0]
      refine ⟨by omega, fun e => absurd e (by omega), fun e => absurd e (by omega), fun e => absurd e (by omega), fun e => absurd e (by omega), fun e => absurd e (by omega), fun e => absurd e (by omega), fun e => absurd e (by omega), fun e => absurd e (by omega), fun _ => ?_⟩
      exact m_heldBits hM ⟨fun _ => h σ hM hR (fun _ _ _ _ _ _ _ _ _ => rfl) (fun _ _ _ _ _ _ => rfl), fun q => absurd q hh⟩
theorem act_ok {z : A4} (hz : ZOK z) (hI : Inv B) : ActOK z B := by
  obtain ⟨g, a, b, x⟩ := z
  obtain ⟨h1, h2, h3, _⟩ := hz
  rcases lg_cases h1 with e | e | e | e | e | e | e | e | e <;> (dsimp only at e; subst e)
  · exact ao_102 hI h2 h3
  · exact ao_103 hI
  · exact ao_104 hI h2 h3
  · exact ao_107 hI h2
  · exact ao_108 hI h2 h3
  · exact ao_109 hI
  · exact ao_112 hI h2 h3
  · exact ao_115 hI
  · exact ao_119 hI h2 h3
end ACTS
