/-! the pure part: numbers, memory, loops -/
theorem lp_for {α : Type} {F : (α → Mem → Prop) → α → Mem → Prop} (J : Nat → α → Mem → Prop) (n : Nat) (step : ∀ k, k < n → ∀ x σ, J k x σ → ∀ K : α → Mem → Prop, (∀ x' σ', J (k + 1) x' σ' → K x' σ') → F K x σ) (fin : ∀ x σ, J n x σ → ∀ K : α → Mem → Prop, F K x σ) (x : α) (σ : Mem) (h : J 0 x σ) : ∃ m, lp F m x σ := by
  have key : ∀ d k x σ, k + d = n → J k x σ → lp F (d + 1) x σ := by
    intro d
    induction d with
    | zero => intro k x σ e h; obtain rfl : k = n := by omega
              exact fin x σ h _
    | succ d ih => intro k x σ e h
                   exact step k (by omega) x σ h _ (fun x' σ' h' => ih (k + 1) x' σ' (by omega) h')
  exact ⟨n + 1, key n 0 x σ (by omega) h⟩
/-- the same with a start other than 0 -/
theorem lp_from {α : Type} {F : (α → Mem → Prop) → α → Mem → Prop} (J : Nat → α → Mem → Prop) (a n : Nat) (han : a ≤ n) (step : ∀ k, a ≤ k → k < n → ∀ x σ, J k x σ → ∀ K : α → Mem → Prop, (∀ x' σ', J (k + 1) x' σ' → K x' σ') → F K x σ) (fin : ∀ x σ, J n x σ → ∀ K : α → Mem → Prop, F K x σ) (x : α) (σ : Mem) (h : J a x σ) : ∃ m, lp F m x σ := by
  refine lp_for (J := fun k => J (a + k)) (n - a) (fun k hk x σ hJ K hK => step (a + k) (by omega) (by omega) x σ hJ K hK) (fun x σ hJ K => fin x σ (by rw [show a + (n - a) = n by omega] at hJ; exact hJ) K) x σ h
def sumTo (f : Nat → Int) : Nat → Int
  | 0 => 0
  | n + 1 => sumTo f n + f n
theorem sumTo_s (f : Nat → Int) (n : Nat) : sumTo f (n + 1) = sumTo f n + f n := rfl
theorem sumTo_congr {f g : Nat → Int} {n : Nat} (h : ∀ i, i < n → f i = g i) : sumTo f n = sumTo g n := by
  induction n with
  | zero => rfl
  | succ n ih => rw [sumTo_s, sumTo_s, ih (fun i hi => h i (by omega)), h n (by omega)]
theorem sumTo_le {f : Nat → Int} {n : Nat} {a b : Int} (h : ∀ i, i < n → a ≤ f i ∧ f i ≤ b) : a * n ≤ sumTo f n ∧ sumTo f n ≤ b * n := by
  induction n with
  | zero => simp [sumTo]
  | succ n ih =>
    have h1 := ih (fun i hi => h i (by omega))
    have h2 := h n (by omega)
    have e1 : a * ((n + 1 : Nat) : Int) = a * n + a := by rw [Int.natCast_add, Int.mul_add]; simp
    have e2 : b * ((n + 1 : Nat) : Int) = b * n + b := by rw [Int.natCast_add, Int.mul_add]; simp
    rw [sumTo_s, e1, e2]
    omega
theorem sumTo_nn {f : Nat → Int} {n : Nat} (h : ∀ i, i < n → 0 ≤ f i) : 0 ≤ sumTo f n := by
  induction n with
  | zero => simp [sumTo]
  | succ n ih =>
    have h1 := ih (fun i hi => h i (by omega))
    have h2 := h n (by omega)
    rw [sumTo_s]
    omega
theorem sumTo_add {f g : Nat → Int} {n : Nat} : sumTo (fun i => f i + g i) n = sumTo f n + sumTo g n := by
  induction n with
  | zero => rfl
  | succ n ih => rw [sumTo_s, sumTo_s, sumTo_s, ih]; omega
theorem sumTo_z {f : Nat → Int} {n : Nat} (h : ∀ i, i < n → f i = 0) : sumTo f n = 0 := by
  induction n with
  | zero => rfl
  | succ n ih => rw [sumTo_s, ih (fun i hi => h i (by omega)), h n (by omega)]; rfl
theorem sumTo_ext {f : Nat → Int} {n m : Nat} (hnm : n ≤ m) (h : ∀ i, n ≤ i → i < m → f i = 0) : sumTo f m = sumTo f n := by
  induction m with
  | zero => obtain rfl : n = 0 := by omega
            rfl
  | succ m ih =>
    by_cases c : n = m + 1
    · rw [c]
    · rw [sumTo_s, ih (by omega) (fun i h1 h2 => h i h1 (by omega)), h m (by omega) (by omega)]; omega
theorem up2_app (σ : Mem) (i j : Nat) (v : Int) (a b : Nat) : up2 σ i j v a b = if a = i ∧ b = j then v else σ a b := by
  unfold up2 upA up1
  by_cases c : a = i
  · subst c
    by_cases d : b = j
    · simp [d]
    · simp [d]
  · simp [c]
theorem up2_ne {σ : Mem} {i j : Nat} {v : Int} {a : Nat} (h : a ≠ i) : up2 σ i j v a = σ a := if_neg h
theorem up2_eq {σ : Mem} {i j : Nat} {v : Int} : up2 σ i j v i j = v := by rw [up2_app, if_pos ⟨rfl, rfl⟩]
theorem up2_nj {σ : Mem} {i j : Nat} {v : Int} {a b : Nat} (h : b ≠ j) : up2 σ i j v a b = σ a b := by rw [up2_app, if_neg (fun z => h z.2)]
theorem acp_64 {f g : Nat → Int} {n j : Nat} (h : j < n) : acp f g 0 0 n j = f j := by
  unfold acp
  rw [if_pos ⟨by omega, by omega⟩]
  congr 1
  omega
theorem at_all : ∀ u, u < 8 → ∀ v, v < 8 → bor (bshl (band ((u : Nat) : Int) 7) 3) (band ((v : Nat) : Int) 7) = ((8 * u + v : Nat) : Int) := by decide +kernel
theorem band7_all : ∀ u, u < 8 → band ((u : Nat) : Int) 7 = (u : Int) := by decide +kernel
theorem s_at {σ : Mem} {Q : Int → Mem → Prop} {u v : Nat} (hu : u < 8) (hv : v < 8) (h : Q ((8 * u + v : Nat) : Int) σ) : wX10_at u v σ Q := by
  unfold wX10_at
  rw [at_all u hu v hv]
  exact h
theorem tn (k : Nat) : ((k : Nat) : Int).toNat = k := Int.toNat_natCast k
theorem lt64 {u v : Nat} (hu : u < 8) (hv : v < 8) : 8 * u + v < 64 := by omega
theorem rg64 {u v : Nat} (hu : u < 8) (hv : v < 8) : (0 : Int) ≤ ((8 * u + v : Nat) : Int) ∧ ((8 * u + v : Nat) : Int) < 64 := by omega
