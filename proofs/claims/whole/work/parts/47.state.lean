/-! the row, the text, what is kept; all together -/
def CR (L : List Int) (σ : Mem) : Prop := σ 12 1 = (L.length : Int) ∧ ∀ (j : Nat) (v : Int), L[j]? = some v → σ 13 j = v
def MR (L : List Int) (σ : Mem) : Prop := σ 300 4 = (L.length : Int) ∧ ∀ (j : Nat) (v : Int), L[j]? = some v → σ 304 j = v
def CT (T : List Int) (σ : Mem) : Prop := σ 5 1 = (T.length : Int) ∧ ∀ (j : Nat) (v : Int), T[j]? = some v → σ 6 j = v
def MT (T : List Int) (σ : Mem) : Prop := σ 300 2 = (T.length : Int) ∧ ∀ (j : Nat) (v : Int), T[j]? = some v → σ 302 j = i8 v
abbrev Kp : Type := Nat → Option Bk
def kfl (o : Option Bk) : Int := match o with
  | some _ => 1
  | none => 0
def CK (κ : Kp) (σ : Mem) : Prop := ∀ i, i < 2 → σ 2 i = kfl (κ i) ∧ ∀ B, κ i = some B → CB (88 + 16 * i) B σ
def MK (κ : Kp) (σ : Mem) : Prop := ∀ i, i < 2 → σ 332 i = kfl (κ i) ∧ ∀ B, κ i = some B → MB (σ 331) (405 * i) B
abbrev St : Type := Bk × Kp × List Bk × List Int × List Int
def CSt (X : St) (σ : Mem) : Prop := CB 40 X.1 σ ∧ CK X.2.1 σ ∧ CP X.2.2.1 σ ∧ CT X.2.2.2.1 σ ∧ CR X.2.2.2.2 σ
def MSt (X : St) (σ : Mem) : Prop := MN σ X.1 ∧ MK X.2.1 σ ∧ MP X.2.2.1 σ ∧ MT X.2.2.2.1 σ ∧ MR X.2.2.2.2 σ ∧ σ 300 14 = -1
def XInv (X : St) : Prop := Inv X.1 ∧ (∀ i, i < 2 → ∀ B, X.2.1 i = some B → Inv B) ∧ ((∀ B ∈ X.2.2.1, Inv B) ∧ X.2.2.1.length ≤ 8) ∧ ((∀ v ∈ X.2.2.2.1, 0 ≤ v ∧ v ≤ 255) ∧ X.2.2.2.1.length ≤ 80) ∧ ((∀ v ∈ X.2.2.2.2, -2147483648 ≤ v ∧ v < 2147483648) ∧ X.2.2.2.2.length ≤ 512)
def Rel (σ : Mem) : Prop := ∃ X : St, XInv X ∧ CSt X σ ∧ MSt X σ
theorem CR.fr {L : List Int} {σ σ' : Mem} (h : CR L σ) (h1 : σ' 12 = σ 12) (h2 : σ' 13 = σ 13) : CR L σ' := ⟨by rw [h1]; exact h.1, by rw [h2]; exact h.2⟩
theorem CT.fr {L : List Int} {σ σ' : Mem} (h : CT L σ) (h1 : σ' 5 = σ 5) (h2 : σ' 6 = σ 6) : CT L σ' := ⟨by rw [h1]; exact h.1, by rw [h2]; exact h.2⟩
theorem CK.fr {κ : Kp} {σ σ' : Mem} (h : CK κ σ) (h1 : σ' 2 = σ 2) (h2 : ∀ i, 88 ≤ i → i < 120 → σ' i = σ i) : CK κ σ' := fun i hi => ⟨by rw [h1]; exact (h i hi).1, fun B hB => ((h i hi).2 B hB).fr (fun j a1 a2 => h2 j (by omega) (by omega))⟩
theorem CSt.fr {X : St} {σ σ' : Mem} (h : CSt X σ) (hf : ∀ i, ¬ (7 ≤ i ∧ i ≤ 11) → ¬ (14 ≤ i ∧ i ≤ 36) → ¬ (56 ≤ i ∧ i < 88) → i < 300 → σ' i = σ i) : CSt X σ' := by
  obtain ⟨h1, h2, h3, h4, h5⟩ := h
  refine ⟨h1.fr (fun i a1 a2 => hf i (by omega) (by omega) (by omega) (by omega)), h2.fr (hf 2 (by omega) (by omega) (by omega) (by omega)) (fun i a1 a2 => hf i (by omega) (by omega) (by omega) (by omega)), h3.fr (by rw [hf 3 (by omega) (by omega) (by omega) (by omega)]) (hf 4 (by omega) (by omega) (by omega) (by omega)) (fun i a1 a2 => hf i (by omega) (by omega) (by omega) (by omega)), h4.fr (hf 5 (by omega) (by omega) (by omega) (by omega)) (hf 6 (by omega) (by omega) (by omega) (by omega)), h5.fr (hf 12 (by omega) (by omega) (by omega) (by omega)) (hf 13 (by omega) (by omega) (by omega) (by omega))⟩
theorem MR.fr {L : List Int} {σ σ' : Mem} (h : MR L σ) (h1 : σ' 300 4 = σ 300 4) (h2 : σ' 304 = σ 304) : MR L σ' := ⟨by rw [h1]; exact h.1, by rw [h2]; exact h.2⟩
theorem MT.fr {L : List Int} {σ σ' : Mem} (h : MT L σ) (h1 : σ' 300 2 = σ 300 2) (h2 : σ' 302 = σ 302) : MT L σ' := ⟨by rw [h1]; exact h.1, by rw [h2]; exact h.2⟩
theorem MK.fr {κ : Kp} {σ σ' : Mem} (h : MK κ σ) (h1 : σ' 332 = σ 332) (h2 : σ' 331 = σ 331) : MK κ σ' := fun i hi => by rw [h1, h2]; exact h i hi
theorem MP.fr {P : List Bk} {σ σ' : Mem} (h : MP P σ) (h1 : σ' 300 28 = σ 300 28) (h2 : σ' 327 = σ 327) : MP P σ' := ⟨by rw [h1]; exact h.1, by rw [h2]; exact h.2⟩
theorem MSt.fr {X : St} {σ σ' : Mem} (h : MSt X σ) (hj : ∀ j, j = 2 ∨ j = 4 ∨ j = 14 ∨ j = 28 → σ' 300 j = σ 300 j) (hc : ∀ i, i = 301 ∨ i = 302 ∨ i = 304 ∨ i = 327 ∨ i = 331 ∨ i = 332 → σ' i = σ i) : MSt X σ' := by
  obtain ⟨h1, h2, h3, h4, h5, h6⟩ := h
  refine ⟨by unfold MN; rw [hc 301 (by omega)]; exact h1, h2.fr (hc 332 (by omega)) (hc 331 (by omega)), h3.fr (hj 28 (by omega)) (hc 327 (by omega)), h4.fr (hj 2 (by omega)) (hc 302 (by omega)), h5.fr (hj 4 (by omega)) (hc 304 (by omega)), by rw [hj 14 (by omega)]; exact h6⟩
theorem MSt.thr {X : St} {σ : Mem} {v : Int} (h : MSt X σ) : MSt X (up2 σ 300 5 v) := h.fr (fun j hj => up2_nj (by omega)) (fun i hi => up2_ne (by omega))
theorem getE_app {α : Type} {L : List α} {v x : α} {j : Nat} (h : (L ++ [v])[j]? = some x) : L[j]? = some x ∨ (j = L.length ∧ x = v) := by
  by_cases c : j < L.length
  · rw [List.getElem?_append_left c] at h
    exact Or.inl h
  · rw [List.getElem?_append_right (by omega)] at h
    by_cases c2 : j - L.length = 0
    · rw [c2] at h
      simp at h
      exact Or.inr ⟨by omega, h.symm⟩
    · obtain ⟨n, hn⟩ := Nat.exists_eq_succ_of_ne_zero c2
      rw [hn] at h
      simp at h
section ROWS
variable {L : List Int} {σ : Mem} {v : Int} {Q : Mem → Prop}
theorem c_begin (h : ∀ σ', CR [] σ' → (∀ i, i ≠ 12 → σ' i = σ i) → Q σ') : wX5_begin σ Q := by
  unfold wX5_begin
  rintro _ rfl
  exact h _ ⟨by rw [up2_eq]; rfl, fun j v hj => by simp at hj⟩ (fun i hi => up2_ne hi)
theorem c_addn (hR : CR L σ) (hl : L.length < 512) (h : ∀ σ', CR (L ++ [v]) σ' → (∀ i, i ≠ 12 → i ≠ 13 → σ' i = σ i) → Q σ') : wX5_add v σ Q := by
  unfold wX5_add
  rw [hR.1, tn]
  refine ⟨(fun hno => absurd hno (by omega)), fun _ => ⟨⟨by omega, by omega⟩, ?_⟩⟩
  rintro _ rfl _ rfl
  refine h _ ⟨?_, fun j x hj => ?_⟩ (fun i h1 h2 => by rw [up2_ne h1, up2_ne h2])
  · rw [up2_eq, up2_ne (by omega), hR.1, w32_id (by omega) (by omega)]; simp
  · rw [up2_ne (by omega), up2_app]
    rcases getE_app hj with h1 | ⟨h1, h2⟩
    · rw [if_neg (fun z => by have := (List.getElem?_eq_some_iff.mp h1).1; omega)]; exact hR.2 j x h1
    · rw [if_pos ⟨rfl, h1⟩, h2]
theorem c_tell1 {a : Int} (h : ∀ σ', CR [a] σ' → (∀ i, i ≠ 12 → i ≠ 13 → σ' i = σ i) → Q σ') : wX5_tellOne a σ Q := by
  unfold wX5_tellOne
  exact c_begin (fun σ1 h1 f1 => c_addn h1 (by simp) (fun σ2 h2 f2 => h σ2 h2 (fun i a1 a2 => by rw [f2 i a1 a2, f1 i a1])))
theorem c_tell2 {a b : Int} (h : ∀ σ', CR [a, b] σ' → (∀ i, i ≠ 12 → i ≠ 13 → σ' i = σ i) → Q σ') : wX5_tellTwo a b σ Q := by
  unfold wX5_tellTwo
  exact c_tell1 (fun σ1 h1 f1 => c_addn h1 (by simp) (fun σ2 h2 f2 => h σ2 h2 (fun i a1 a2 => by rw [f2 i a1 a2, f1 i a1 a2])))
theorem c_tell3 {a b c : Int} (h : ∀ σ', CR [a, b, c] σ' → (∀ i, i ≠ 12 → i ≠ 13 → σ' i = σ i) → Q σ') : wX5_tellThree a b c σ Q := by
  unfold wX5_tellThree
  exact c_tell2 (fun σ1 h1 f1 => c_addn h1 (by simp) (fun σ2 h2 f2 => h σ2 h2 (fun i a1 a2 => by rw [f2 i a1 a2, f1 i a1 a2])))
theorem m_tell (hR : MR L σ) (hl : L.length < 2400) (h : ∀ σ', MR (L ++ [v]) σ' → (∀ i, i ≠ 300 → i ≠ 304 → σ' i = σ i) → (∀ j, j ≠ 4 → σ' 300 j = σ 300 j) → Q σ') : wX11_tell v σ Q := by
  unfold wX11_tell
  rw [hR.1, tn]
  refine ⟨⟨by omega, by omega⟩, ?_⟩
  rintro _ rfl _ rfl
  refine h _ ⟨?_, fun j x hj => ?_⟩ (fun i h1 h2 => by rw [up2_ne h1, up2_ne h2]) (fun j hj => by rw [up2_nj hj, up2_ne (by omega)])
  · rw [up2_eq, up2_ne (by omega), hR.1, w32_id (by omega) (by omega)]; simp
  · rw [up2_ne (by omega), up2_app]
    rcases getE_app hj with h1 | ⟨h1, h2⟩
    · rw [if_neg (fun z => by have := (List.getElem?_eq_some_iff.mp h1).1; omega)]; exact hR.2 j x h1
    · rw [if_pos ⟨rfl, h1⟩, h2]
theorem m_row0 : MR [] (up2 σ 300 4 0) := ⟨by rw [up2_eq]; rfl, fun j v hj => by simp at hj⟩
end ROWS
/-! acts that are remembered -/
abbrev wB (X : St) (B : Bk) : St := (B, X.2.1, X.2.2.1, X.2.2.2.1, X.2.2.2.2)
abbrev wBP (X : St) (B : Bk) (P : List Bk) : St := (B, X.2.1, P, X.2.2.2.1, X.2.2.2.2)
abbrev wL (X : St) (L : List Int) : St := (X.1, X.2.1, X.2.2.1, X.2.2.2.1, L)
/-- an act's answer, the books behind it, the row behind it -/
abbrev Act : Type := Int × Bk × List Int
def remX (X : St) (a : Act) : St := (a.2.1, X.2.1, if a.1 < 0 then X.2.2.1 else pushP X.2.2.1 X.1, X.2.2.2.1, a.2.2)
def CAct (B : Bk) (L : List Int) (w : Mem → (Int → Mem → Prop) → Prop) (a : Act) : Prop := ∀ (τ : Mem) (Q : Int → Mem → Prop), CB 40 B τ → CR L τ → (∀ τ', CB 40 a.2.1 τ' → CR a.2.2 τ' → (∀ i, ¬ (40 ≤ i ∧ i < 53) → ¬ (12 ≤ i ∧ i ≤ 36) → τ' i = τ i) → Q a.1 τ') → w τ Q
theorem c_rem {X : St} {σ : Mem} {w : Mem → (Int → Mem → Prop) → Prop} {a : Act} {Q : Int → Mem → Prop} (hw : CAct X.1 X.2.2.2.2 w a) (hC : CSt X σ) (h : ∀ σ', CSt (remX X a) σ' → (∀ i, 300 ≤ i → σ' i = σ i) → Q a.1 σ') : wX1_copyFrom 56 40 σ (fun m1 => (w m1 (fun y3 m2 => (wX10_remembered y3 m2 (fun y5 m4 => Q y5 m4))))) := by
  obtain ⟨h1, h2, h3, h4, h5⟩ := hC
  refine s_copyFrom (b := 56) (by omega) h1 (fun σ1 c1 f1 => ?_)
  have g1 : ∀ i, ¬ (56 ≤ i ∧ i < 69) → σ1 i = σ i := fun i hi => f1 i (by omega)
  refine hw σ1 _ (h1.fr (fun i a1 a2 => g1 i (by omega))) (h5.fr (g1 12 (by omega)) (g1 13 (by omega))) (fun σ2 c2 r2 f2 => ?_)
  have g2 : ∀ i, ¬ (40 ≤ i ∧ i < 53) → ¬ (12 ≤ i ∧ i ≤ 36) → ¬ (56 ≤ i ∧ i < 69) → σ2 i = σ i := fun i a1 a2 a3 => by rw [f2 i a1 a2, g1 i a3]
  have k2 : CK X.2.1 σ2 := h2.fr (g2 2 (by omega) (by omega) (by omega)) (fun i a1 a2 => g2 i (by omega) (by omega) (by omega))
  have p2 : CP X.2.2.1 σ2 := h3.fr (by rw [g2 3 (by omega) (by omega) (by omega)]) (g2 4 (by omega) (by omega) (by omega)) (fun i a1 a2 => g2 i (by omega) (by omega) (by omega))
  have t2 : CT X.2.2.2.1 σ2 := h4.fr (g2 5 (by omega) (by omega) (by omega)) (g2 6 (by omega) (by omega) (by omega))
  unfold wX10_remembered
  refine ⟨fun z => h σ2 ⟨c2, k2, by show CP (if a.1 < 0 then _ else _) σ2; rw [if_pos z]; exact p2, t2, r2⟩ (fun i hi => g2 i (by omega) (by omega) (by omega)), fun z => ?_⟩
  refine c_add (b1 := 56) (B := X.1) (by omega) (by omega) p2 (c1.fr (fun i a1 a2 => f2 i (by omega) (by omega))) (fun σ3 p3 f3 => ?_)
  refine h σ3 ⟨c2.fr (fun i a1 a2 => f3 i (by omega) (by omega) (by omega)), k2.fr (f3 2 (by omega) (by omega) (by omega)) (fun i a1 a2 => f3 i (by omega) (by omega) (by omega)), by show CP (if a.1 < 0 then _ else _) σ3; rw [if_neg z]; exact p3, t2.fr (f3 5 (by omega) (by omega) (by omega)) (f3 6 (by omega) (by omega) (by omega)), r2.fr (f3 12 (by omega) (by omega) (by omega)) (f3 13 (by omega) (by omega) (by omega))⟩ (fun i hi => by rw [f3 i (by omega) (by omega) (by omega), g2 i (by omega) (by omega) (by omega)])
