def wlaw_220 (L : Nat) (xi : Nat → Int) (K : Int → Mem → Prop) (l4 : Int) (σ : Mem) : Prop := ((0 ≤ w32 (l4 + 1) ∧ w32 (l4 + 1) < L) ∧ (wX10_sign (xi (w32 (l4 + 1)).toNat) σ (fun y1 m2 => ((0 ≤ w32 (l4 + 1) ∧ w32 (l4 + 1) < L) ∧ (wX11_sign (xi (w32 (l4 + 1)).toNat) m2 (fun y3 m4 => ((y1 = y3 → (∀ x5 : Int, x5 = w32 (l4 + 7) → K x5 m4)) ∧ (¬ y1 = y3 → False))))))))
def wlaw_245 (L : Nat) (xi : Nat → Int) (K : Int → Mem → Prop) (l4 : Int) (σ : Mem) : Prop := ((0 ≤ w32 (l4 + 1) ∧ w32 (l4 + 1) < L) ∧ (wX10_end (xi (w32 (l4 + 1)).toNat) σ (fun y1 m2 => ((0 ≤ w32 (l4 + 1) ∧ w32 (l4 + 1) < L) ∧ (wX11_end (xi (w32 (l4 + 1)).toNat) m2 (fun y3 m4 => ((y1 = y3 → (∀ x5 : Int, x5 = w32 (l4 + 7) → K x5 m4)) ∧ (¬ y1 = y3 → False))))))))
def wlaw_270 (L : Nat) (xi : Nat → Int) (K : Int → Mem → Prop) (l4 : Int) (σ : Mem) : Prop := (wX10_club σ (fun y1 m2 => (wX11_club m2 (fun y3 m4 => ((y1 = y3 → (∀ x5 : Int, x5 = w32 (l4 + 7) → K x5 m4)) ∧ (¬ y1 = y3 → False))))))
def wlaw_283 (L : Nat) (xi : Nat → Int) (K : Int → Mem → Prop) (l4 : Int) (σ : Mem) : Prop := ((0 ≤ w32 (l4 + 1) ∧ w32 (l4 + 1) < L) ∧ ((0 ≤ w32 (l4 + 2) ∧ w32 (l4 + 2) < L) ∧ ((0 ≤ w32 (l4 + 3) ∧ w32 (l4 + 3) < L) ∧ ((0 ≤ w32 (l4 + 4) ∧ w32 (l4 + 4) < L) ∧ ((0 ≤ w32 (l4 + 5) ∧ w32 (l4 + 5) < L) ∧ (wX10_sheet (xi (w32 (l4 + 1)).toNat) (xi (w32 (l4 + 2)).toNat) (xi (w32 (l4 + 3)).toNat) (xi (w32 (l4 + 4)).toNat) (xi (w32 (l4 + 5)).toNat) σ (fun y1 m2 => ((0 ≤ w32 (l4 + 1) ∧ w32 (l4 + 1) < L) ∧ ((0 ≤ w32 (l4 + 2) ∧ w32 (l4 + 2) < L) ∧ ((0 ≤ w32 (l4 + 3) ∧ w32 (l4 + 3) < L) ∧ ((0 ≤ w32 (l4 + 4) ∧ w32 (l4 + 4) < L) ∧ ((0 ≤ w32 (l4 + 5) ∧ w32 (l4 + 5) < L) ∧ (wX11_sheet (xi (w32 (l4 + 1)).toNat) (xi (w32 (l4 + 2)).toNat) (xi (w32 (l4 + 3)).toNat) (xi (w32 (l4 + 4)).toNat) (xi (w32 (l4 + 5)).toNat) m2 (fun y3 m4 => ((y1 = y3 → (∀ x5 : Int, x5 = w32 (l4 + 7) → K x5 m4)) ∧ (¬ y1 = y3 → False))))))))))))))))
def wlaw_356 (L : Nat) (xi : Nat → Int) (K : Int → Mem → Prop) (l4 : Int) (σ : Mem) : Prop := ((0 ≤ w32 (l4 + 1) ∧ w32 (l4 + 1) < L) ∧ ((0 ≤ w32 (l4 + 2) ∧ w32 (l4 + 2) < L) ∧ (wX10_line (xi (w32 (l4 + 1)).toNat) (xi (w32 (l4 + 2)).toNat) σ (fun y1 m2 => ((0 ≤ w32 (l4 + 1) ∧ w32 (l4 + 1) < L) ∧ ((0 ≤ w32 (l4 + 2) ∧ w32 (l4 + 2) < L) ∧ (wX11_line (xi (w32 (l4 + 1)).toNat) (xi (w32 (l4 + 2)).toNat) m2 (fun y3 m4 => ((y1 = y3 → (∀ x5 : Int, x5 = w32 (l4 + 7) → K x5 m4)) ∧ (¬ y1 = y3 → False))))))))))
def wlaw_393 (L : Nat) (xi : Nat → Int) (K : Int → Mem → Prop) (l4 : Int) (σ : Mem) : Prop := ((0 ≤ w32 (l4 + 1) ∧ w32 (l4 + 1) < L) ∧ (wL_net (xi (w32 (l4 + 1)).toNat) σ (fun y1 m2 => ((0 ≤ w32 (l4 + 1) ∧ w32 (l4 + 1) < L) ∧ (wX11_net (xi (w32 (l4 + 1)).toNat) m2 (fun y3 m4 => (wX11_thrown m4 (fun y5 m6 => ((y5 = y1 → ((¬ y1 = 0 → (∀ x7 : Int, x7 = w32 (l4 + 7) → K x7 m6)) ∧ (y1 = 0 → ((lcmpI (m6 340 0) y3 = 0 → (∀ x8 : Int, x8 = w32 (l4 + 7) → K x8 m6)) ∧ (¬ lcmpI (m6 340 0) y3 = 0 → False))))) ∧ (¬ y5 = y1 → False))))))))))
def wlaw_449 (L : Nat) (xi : Nat → Int) (K : Int → Mem → Prop) (l4 : Int) (σ : Mem) : Prop := (wX10_debts σ (fun y1 m2 => (wX11_debts m2 (fun y3 m4 => ((y1 = y3 → (∀ x5 : Int, x5 = w32 (l4 + 7) → K x5 m4)) ∧ (¬ y1 = y3 → False))))))
def wlaw_462 (L : Nat) (xi : Nat → Int) (K : Int → Mem → Prop) (l4 : Int) (σ : Mem) : Prop := ((0 ≤ w32 (l4 + 1) ∧ w32 (l4 + 1) < L) ∧ ((0 ≤ w32 (l4 + 2) ∧ w32 (l4 + 2) < L) ∧ ((0 ≤ w32 (l4 + 3) ∧ w32 (l4 + 3) < L) ∧ (wX10_way (xi (w32 (l4 + 1)).toNat) (xi (w32 (l4 + 2)).toNat) (xi (w32 (l4 + 3)).toNat) σ (fun y1 m2 => ((0 ≤ w32 (l4 + 1) ∧ w32 (l4 + 1) < L) ∧ ((0 ≤ w32 (l4 + 2) ∧ w32 (l4 + 2) < L) ∧ ((0 ≤ w32 (l4 + 3) ∧ w32 (l4 + 3) < L) ∧ (wX11_way (xi (w32 (l4 + 1)).toNat) (xi (w32 (l4 + 2)).toNat) (xi (w32 (l4 + 3)).toNat) m2 (fun y3 m4 => ((y1 = y3 → (∀ x5 : Int, x5 = w32 (l4 + 7) → K x5 m4)) ∧ (¬ y1 = y3 → False))))))))))))
def wlaw_511 (L : Nat) (xi : Nat → Int) (K : Int → Mem → Prop) (l4 : Int) (σ : Mem) : Prop := ((0 ≤ w32 (l4 + 1) ∧ w32 (l4 + 1) < L) ∧ ((0 ≤ w32 (l4 + 2) ∧ w32 (l4 + 2) < L) ∧ (wX10_reach (xi (w32 (l4 + 1)).toNat) (xi (w32 (l4 + 2)).toNat) σ (fun y1 m2 => ((0 ≤ w32 (l4 + 1) ∧ w32 (l4 + 1) < L) ∧ ((0 ≤ w32 (l4 + 2) ∧ w32 (l4 + 2) < L) ∧ (wX11_reach (xi (w32 (l4 + 1)).toNat) (xi (w32 (l4 + 2)).toNat) m2 (fun y3 m4 => ((y1 = y3 → (∀ x5 : Int, x5 = w32 (l4 + 7) → K x5 m4)) ∧ (¬ y1 = y3 → False))))))))))
def wlaw_548 (L : Nat) (xi : Nat → Int) (K : Int → Mem → Prop) (l4 : Int) (σ : Mem) : Prop := ((0 ≤ w32 (l4 + 1) ∧ w32 (l4 + 1) < L) ∧ ((0 ≤ w32 (l4 + 2) ∧ w32 (l4 + 2) < L) ∧ (wX10_most (xi (w32 (l4 + 1)).toNat) (xi (w32 (l4 + 2)).toNat) σ (fun y1 m2 => ((0 ≤ w32 (l4 + 1) ∧ w32 (l4 + 1) < L) ∧ ((0 ≤ w32 (l4 + 2) ∧ w32 (l4 + 2) < L) ∧ (wX11_most (xi (w32 (l4 + 1)).toNat) (xi (w32 (l4 + 2)).toNat) m2 (fun y3 m4 => ((y1 = y3 → (∀ x5 : Int, x5 = w32 (l4 + 7) → K x5 m4)) ∧ (¬ y1 = y3 → False))))))))))
def wlaw_585 (L : Nat) (xi : Nat → Int) (K : Int → Mem → Prop) (l4 : Int) (σ : Mem) : Prop := (wX10_ring σ (fun y1 m2 => (wX11_ring m2 (fun y3 m4 => ((y1 = y3 → (∀ x5 : Int, x5 = w32 (l4 + 7) → K x5 m4)) ∧ (¬ y1 = y3 → False))))))
def wlaw_598 (L : Nat) (xi : Nat → Int) (K : Int → Mem → Prop) (l4 : Int) (σ : Mem) : Prop := (wX10_rings σ (fun y1 m2 => (wX11_rings m2 (fun y3 m4 => ((y1 = y3 → (∀ x5 : Int, x5 = w32 (l4 + 7) → K x5 m4)) ∧ (¬ y1 = y3 → False))))))
def wlaw_611 (L : Nat) (xi : Nat → Int) (K : Int → Mem → Prop) (l4 : Int) (σ : Mem) : Prop := ((0 ≤ w32 (l4 + 1) ∧ w32 (l4 + 1) < L) ∧ ((0 ≤ w32 (l4 + 2) ∧ w32 (l4 + 2) < L) ∧ ((0 ≤ w32 (l4 + 3) ∧ w32 (l4 + 3) < L) ∧ (wX10_pays (xi (w32 (l4 + 1)).toNat) (xi (w32 (l4 + 2)).toNat) (xi (w32 (l4 + 3)).toNat) σ (fun y1 m2 => ((0 ≤ w32 (l4 + 1) ∧ w32 (l4 + 1) < L) ∧ ((0 ≤ w32 (l4 + 2) ∧ w32 (l4 + 2) < L) ∧ ((0 ≤ w32 (l4 + 3) ∧ w32 (l4 + 3) < L) ∧ (wX11_pays (xi (w32 (l4 + 1)).toNat) (xi (w32 (l4 + 2)).toNat) (xi (w32 (l4 + 3)).toNat) m2 (fun y3 m4 => ((y1 = y3 → (∀ x5 : Int, x5 = w32 (l4 + 7) → K x5 m4)) ∧ (¬ y1 = y3 → False))))))))))))
def wlaw_660 (L : Nat) (xi : Nat → Int) (K : Int → Mem → Prop) (l4 : Int) (σ : Mem) : Prop := ((0 ≤ w32 (l4 + 1) ∧ w32 (l4 + 1) < L) ∧ ((0 ≤ w32 (l4 + 2) ∧ w32 (l4 + 2) < L) ∧ ((0 ≤ w32 (l4 + 3) ∧ w32 (l4 + 3) < L) ∧ (wX10_whole (xi (w32 (l4 + 1)).toNat) (xi (w32 (l4 + 2)).toNat) (xi (w32 (l4 + 3)).toNat) σ (fun y1 m2 => ((0 ≤ w32 (l4 + 1) ∧ w32 (l4 + 1) < L) ∧ ((0 ≤ w32 (l4 + 2) ∧ w32 (l4 + 2) < L) ∧ ((0 ≤ w32 (l4 + 3) ∧ w32 (l4 + 3) < L) ∧ (wX11_whole (xi (w32 (l4 + 1)).toNat) (xi (w32 (l4 + 2)).toNat) (xi (w32 (l4 + 3)).toNat) m2 (fun y3 m4 => ((y1 = y3 → (∀ x5 : Int, x5 = w32 (l4 + 7) → K x5 m4)) ∧ (¬ y1 = y3 → False))))))))))))
def wlaw_709 (L : Nat) (xi : Nat → Int) (K : Int → Mem → Prop) (l4 : Int) (σ : Mem) : Prop := ((0 ≤ w32 (l4 + 1) ∧ w32 (l4 + 1) < L) ∧ ((0 ≤ w32 (l4 + 2) ∧ w32 (l4 + 2) < L) ∧ ((0 ≤ w32 (l4 + 3) ∧ w32 (l4 + 3) < L) ∧ (wX10_holds (xi (w32 (l4 + 1)).toNat) (xi (w32 (l4 + 2)).toNat) (xi (w32 (l4 + 3)).toNat) σ (fun y1 m2 => ((0 ≤ w32 (l4 + 1) ∧ w32 (l4 + 1) < L) ∧ ((0 ≤ w32 (l4 + 2) ∧ w32 (l4 + 2) < L) ∧ ((0 ≤ w32 (l4 + 3) ∧ w32 (l4 + 3) < L) ∧ (wX11_holds (xi (w32 (l4 + 1)).toNat) (xi (w32 (l4 + 2)).toNat) (xi (w32 (l4 + 3)).toNat) m2 (fun y3 m4 => ((y1 = y3 → (∀ x5 : Int, x5 = w32 (l4 + 7) → K x5 m4)) ∧ (¬ y1 = y3 → False))))))))))))
def wlaw_758 (L : Nat) (xi : Nat → Int) (K : Int → Mem → Prop) (l4 : Int) (σ : Mem) : Prop := ((0 ≤ w32 (l4 + 1) ∧ w32 (l4 + 1) < L) ∧ (wX10_makes (xi (w32 (l4 + 1)).toNat) σ (fun y1 m2 => ((0 ≤ w32 (l4 + 1) ∧ w32 (l4 + 1) < L) ∧ (wX11_makes (xi (w32 (l4 + 1)).toNat) m2 (fun y3 m4 => ((y1 = y3 → (∀ x5 : Int, x5 = w32 (l4 + 7) → K x5 m4)) ∧ (¬ y1 = y3 → False))))))))
def wlaw_783 (L : Nat) (xi : Nat → Int) (K : Int → Mem → Prop) (l4 : Int) (σ : Mem) : Prop := ((0 ≤ w32 (l4 + 1) ∧ w32 (l4 + 1) < L) ∧ (wX10_letsGo (xi (w32 (l4 + 1)).toNat) σ (fun y1 m2 => ((0 ≤ w32 (l4 + 1) ∧ w32 (l4 + 1) < L) ∧ (wX11_letsGo (xi (w32 (l4 + 1)).toNat) m2 (fun y3 m4 => ((y1 = y3 → (∀ x5 : Int, x5 = w32 (l4 + 7) → K x5 m4)) ∧ (¬ y1 = y3 → False))))))))
def wlaw_808 (L : Nat) (xi : Nat → Int) (K : Int → Mem → Prop) (l4 : Int) (σ : Mem) : Prop := ((0 ≤ w32 (l4 + 1) ∧ w32 (l4 + 1) < L) ∧ ((0 ≤ w32 (l4 + 2) ∧ w32 (l4 + 2) < L) ∧ (wL_held (xi (w32 (l4 + 1)).toNat) (xi (w32 (l4 + 2)).toNat) σ (fun y1 m2 => ((0 ≤ w32 (l4 + 1) ∧ w32 (l4 + 1) < L) ∧ ((0 ≤ w32 (l4 + 2) ∧ w32 (l4 + 2) < L) ∧ (wX11_held (xi (w32 (l4 + 1)).toNat) (xi (w32 (l4 + 2)).toNat) m2 (fun y3 m4 => (wX11_thrown m4 (fun y5 m6 => ((y5 = y1 → ((¬ y1 = 0 → (∀ x7 : Int, x7 = w32 (l4 + 7) → K x7 m6)) ∧ (y1 = 0 → ((lcmpI (m6 340 0) y3 = 0 → (∀ x8 : Int, x8 = w32 (l4 + 7) → K x8 m6)) ∧ (¬ lcmpI (m6 340 0) y3 = 0 → False))))) ∧ (¬ y5 = y1 → False))))))))))))
def wlaw_876 (L : Nat) (xi : Nat → Int) (K : Int → Mem → Prop) (l4 : Int) (σ : Mem) : Prop := ((0 ≤ w32 (l4 + 1) ∧ w32 (l4 + 1) < L) ∧ ((0 ≤ w32 (l4 + 2) ∧ w32 (l4 + 2) < L) ∧ ((0 ≤ w32 (l4 + 3) ∧ w32 (l4 + 3) < L) ∧ (wX10_mostThen (xi (w32 (l4 + 1)).toNat) (xi (w32 (l4 + 2)).toNat) (xi (w32 (l4 + 3)).toNat) σ (fun y1 m2 => ((0 ≤ w32 (l4 + 1) ∧ w32 (l4 + 1) < L) ∧ ((0 ≤ w32 (l4 + 2) ∧ w32 (l4 + 2) < L) ∧ ((0 ≤ w32 (l4 + 3) ∧ w32 (l4 + 3) < L) ∧ (wX11_mostThen (xi (w32 (l4 + 1)).toNat) (xi (w32 (l4 + 2)).toNat) (xi (w32 (l4 + 3)).toNat) m2 (fun y3 m4 => ((y1 = y3 → (∀ x5 : Int, x5 = w32 (l4 + 7) → K x5 m4)) ∧ (¬ y1 = y3 → False))))))))))))
def wlaw_925 (L : Nat) (xi : Nat → Int) (K : Int → Mem → Prop) (l4 : Int) (σ : Mem) : Prop := (wX10_batch σ (fun y1 m2 => (wX11_batch m2 (fun y3 m4 => ((y1 = y3 → (∀ x5 : Int, x5 = w32 (l4 + 7) → K x5 m4)) ∧ (¬ y1 = y3 → False))))))
def wlaw_938 (L : Nat) (xi : Nat → Int) (K : Int → Mem → Prop) (l4 : Int) (σ : Mem) : Prop := (wX10_orders σ (fun y1 m2 => (wX11_orders m2 (fun y3 m4 => ((y1 = y3 → (∀ x5 : Int, x5 = w32 (l4 + 7) → K x5 m4)) ∧ (¬ y1 = y3 → False))))))
def wlaw_951 (L : Nat) (xi : Nat → Int) (K : Int → Mem → Prop) (l4 : Int) (σ : Mem) : Prop := (wX10_settles σ (fun y1 m2 => (wX11_settles m2 (fun y3 m4 => ((y1 = y3 → (∀ x5 : Int, x5 = w32 (l4 + 7) → K x5 m4)) ∧ (¬ y1 = y3 → False))))))
def wlaw_964 (L : Nat) (xi : Nat → Int) (K : Int → Mem → Prop) (l4 : Int) (σ : Mem) : Prop := ((0 ≤ w32 (l4 + 1) ∧ w32 (l4 + 1) < L) ∧ ((0 ≤ w32 (l4 + 2) ∧ w32 (l4 + 2) < L) ∧ ((0 ≤ w32 (l4 + 3) ∧ w32 (l4 + 3) < L) ∧ (wX10_raise (xi (w32 (l4 + 1)).toNat) (xi (w32 (l4 + 2)).toNat) (xi (w32 (l4 + 3)).toNat) σ (fun y1 m2 => ((0 ≤ w32 (l4 + 1) ∧ w32 (l4 + 1) < L) ∧ ((0 ≤ w32 (l4 + 2) ∧ w32 (l4 + 2) < L) ∧ ((0 ≤ w32 (l4 + 3) ∧ w32 (l4 + 3) < L) ∧ (wX11_raise (xi (w32 (l4 + 1)).toNat) (xi (w32 (l4 + 2)).toNat) (xi (w32 (l4 + 3)).toNat) m2 (fun y3 m4 => ((y1 = y3 → (∀ x5 : Int, x5 = w32 (l4 + 7) → K x5 m4)) ∧ (¬ y1 = y3 → False))))))))))))
def wlaw_1013 (L : Nat) (xi : Nat → Int) (K : Int → Mem → Prop) (l4 : Int) (σ : Mem) : Prop := ((0 ≤ w32 (l4 + 1) ∧ w32 (l4 + 1) < L) ∧ (wX10_fails (xi (w32 (l4 + 1)).toNat) σ (fun y1 m2 => ((0 ≤ w32 (l4 + 1) ∧ w32 (l4 + 1) < L) ∧ (wX11_fails (xi (w32 (l4 + 1)).toNat) m2 (fun y3 m4 => ((y1 = y3 → (∀ x5 : Int, x5 = w32 (l4 + 7) → K x5 m4)) ∧ (¬ y1 = y3 → False))))))))
def wlaw_1038 (L : Nat) (xi : Nat → Int) (K : Int → Mem → Prop) (l4 : Int) (σ : Mem) : Prop := (wX10_worst σ (fun y1 m2 => (wX11_worst m2 (fun y3 m4 => ((y1 = y3 → (∀ x5 : Int, x5 = w32 (l4 + 7) → K x5 m4)) ∧ (¬ y1 = y3 → False))))))
def wlaw_1051 (L : Nat) (xi : Nat → Int) (K : Int → Mem → Prop) (l4 : Int) (σ : Mem) : Prop := ((0 ≤ w32 (l4 + 1) ∧ w32 (l4 + 1) < L) ∧ (wX10_enough (xi (w32 (l4 + 1)).toNat) σ (fun y1 m2 => ((0 ≤ w32 (l4 + 1) ∧ w32 (l4 + 1) < L) ∧ (wX11_enough (xi (w32 (l4 + 1)).toNat) m2 (fun y3 m4 => ((y1 = y3 → (∀ x5 : Int, x5 = w32 (l4 + 7) → K x5 m4)) ∧ (¬ y1 = y3 → False))))))))
def wlaw_1076 (L : Nat) (xi : Nat → Int) (K : Int → Mem → Prop) (l4 : Int) (σ : Mem) : Prop := ((0 ≤ w32 (l4 + 1) ∧ w32 (l4 + 1) < L) ∧ ((0 ≤ w32 (l4 + 2) ∧ w32 (l4 + 2) < L) ∧ ((0 ≤ w32 (l4 + 3) ∧ w32 (l4 + 3) < L) ∧ (wX10_without (xi (w32 (l4 + 1)).toNat) (xi (w32 (l4 + 2)).toNat) (xi (w32 (l4 + 3)).toNat) σ (fun y1 m2 => ((0 ≤ w32 (l4 + 1) ∧ w32 (l4 + 1) < L) ∧ ((0 ≤ w32 (l4 + 2) ∧ w32 (l4 + 2) < L) ∧ ((0 ≤ w32 (l4 + 3) ∧ w32 (l4 + 3) < L) ∧ (wX11_without (xi (w32 (l4 + 1)).toNat) (xi (w32 (l4 + 2)).toNat) (xi (w32 (l4 + 3)).toNat) m2 (fun y3 m4 => ((y1 = y3 → (∀ x5 : Int, x5 = w32 (l4 + 7) → K x5 m4)) ∧ (¬ y1 = y3 → False))))))))))))
def wlaw_1125 (L : Nat) (xi : Nat → Int) (K : Int → Mem → Prop) (l4 : Int) (σ : Mem) : Prop := ((0 ≤ w32 (l4 + 1) ∧ w32 (l4 + 1) < L) ∧ ((0 ≤ w32 (l4 + 2) ∧ w32 (l4 + 2) < L) ∧ (wX10_key (xi (w32 (l4 + 1)).toNat) (xi (w32 (l4 + 2)).toNat) σ (fun y1 m2 => ((0 ≤ w32 (l4 + 1) ∧ w32 (l4 + 1) < L) ∧ ((0 ≤ w32 (l4 + 2) ∧ w32 (l4 + 2) < L) ∧ (wX11_key (xi (w32 (l4 + 1)).toNat) (xi (w32 (l4 + 2)).toNat) m2 (fun y3 m4 => ((y1 = y3 → (∀ x5 : Int, x5 = w32 (l4 + 7) → K x5 m4)) ∧ (¬ y1 = y3 → False))))))))))
def wlaw_1162 (L : Nat) (xi : Nat → Int) (K : Int → Mem → Prop) (l4 : Int) (σ : Mem) : Prop := ((0 ≤ w32 (l4 + 1) ∧ w32 (l4 + 1) < L) ∧ ((0 ≤ w32 (l4 + 2) ∧ w32 (l4 + 2) < L) ∧ ((0 ≤ w32 (l4 + 3) ∧ w32 (l4 + 3) < L) ∧ ((0 ≤ w32 (l4 + 4) ∧ w32 (l4 + 4) < L) ∧ ((0 ≤ w32 (l4 + 5) ∧ w32 (l4 + 5) < L) ∧ (wX10_were (xi (w32 (l4 + 1)).toNat) (xi (w32 (l4 + 2)).toNat) (xi (w32 (l4 + 3)).toNat) (xi (w32 (l4 + 4)).toNat) (xi (w32 (l4 + 5)).toNat) σ (fun y1 m2 => ((0 ≤ w32 (l4 + 1) ∧ w32 (l4 + 1) < L) ∧ ((0 ≤ w32 (l4 + 2) ∧ w32 (l4 + 2) < L) ∧ ((0 ≤ w32 (l4 + 3) ∧ w32 (l4 + 3) < L) ∧ ((0 ≤ w32 (l4 + 4) ∧ w32 (l4 + 4) < L) ∧ ((0 ≤ w32 (l4 + 5) ∧ w32 (l4 + 5) < L) ∧ (wX11_were (xi (w32 (l4 + 1)).toNat) (xi (w32 (l4 + 2)).toNat) (xi (w32 (l4 + 3)).toNat) (xi (w32 (l4 + 4)).toNat) (xi (w32 (l4 + 5)).toNat) m2 (fun y3 m4 => ((y1 = y3 → (∀ x5 : Int, x5 = w32 (l4 + 7) → K x5 m4)) ∧ (¬ y1 = y3 → False))))))))))))))))
def wlaw_1235 (L : Nat) (xi : Nat → Int) (K : Int → Mem → Prop) (l4 : Int) (σ : Mem) : Prop := ((0 ≤ w32 (l4 + 1) ∧ w32 (l4 + 1) < L) ∧ ((0 ≤ w32 (l4 + 2) ∧ w32 (l4 + 2) < L) ∧ ((0 ≤ w32 (l4 + 3) ∧ w32 (l4 + 3) < L) ∧ ((0 ≤ w32 (l4 + 4) ∧ w32 (l4 + 4) < L) ∧ ((0 ≤ w32 (l4 + 5) ∧ w32 (l4 + 5) < L) ∧ ((0 ≤ w32 (l4 + 6) ∧ w32 (l4 + 6) < L) ∧ (wX10_both (xi (w32 (l4 + 1)).toNat) (xi (w32 (l4 + 2)).toNat) (xi (w32 (l4 + 3)).toNat) (xi (w32 (l4 + 4)).toNat) (xi (w32 (l4 + 5)).toNat) (xi (w32 (l4 + 6)).toNat) σ (fun y1 m2 => ((0 ≤ w32 (l4 + 1) ∧ w32 (l4 + 1) < L) ∧ ((0 ≤ w32 (l4 + 2) ∧ w32 (l4 + 2) < L) ∧ ((0 ≤ w32 (l4 + 3) ∧ w32 (l4 + 3) < L) ∧ ((0 ≤ w32 (l4 + 4) ∧ w32 (l4 + 4) < L) ∧ ((0 ≤ w32 (l4 + 5) ∧ w32 (l4 + 5) < L) ∧ ((0 ≤ w32 (l4 + 6) ∧ w32 (l4 + 6) < L) ∧ (wX11_both (xi (w32 (l4 + 1)).toNat) (xi (w32 (l4 + 2)).toNat) (xi (w32 (l4 + 3)).toNat) (xi (w32 (l4 + 4)).toNat) (xi (w32 (l4 + 5)).toNat) (xi (w32 (l4 + 6)).toNat) m2 (fun y3 m4 => ((y1 = y3 → (∀ x5 : Int, x5 = w32 (l4 + 7) → K x5 m4)) ∧ (¬ y1 = y3 → False))))))))))))))))))
def wlaw_1322 (L : Nat) (xi : Nat → Int) (K : Int → Mem → Prop) (l4 : Int) (σ : Mem) : Prop := ((0 ≤ w32 (l4 + 1) ∧ w32 (l4 + 1) < L) ∧ ((0 ≤ w32 (l4 + 2) ∧ w32 (l4 + 2) < L) ∧ ((0 ≤ w32 (l4 + 3) ∧ w32 (l4 + 3) < L) ∧ (wX10_limits (xi (w32 (l4 + 1)).toNat) (xi (w32 (l4 + 2)).toNat) (xi (w32 (l4 + 3)).toNat) σ (fun y1 m2 => ((0 ≤ w32 (l4 + 1) ∧ w32 (l4 + 1) < L) ∧ ((0 ≤ w32 (l4 + 2) ∧ w32 (l4 + 2) < L) ∧ ((0 ≤ w32 (l4 + 3) ∧ w32 (l4 + 3) < L) ∧ (wX11_limits (xi (w32 (l4 + 1)).toNat) (xi (w32 (l4 + 2)).toNat) (xi (w32 (l4 + 3)).toNat) m2 (fun y3 m4 => ((y1 = y3 → (∀ x5 : Int, x5 = w32 (l4 + 7) → K x5 m4)) ∧ (¬ y1 = y3 → False))))))))))))
def wlaw_1371 (L : Nat) (xi : Nat → Int) (K : Int → Mem → Prop) (l4 : Int) (σ : Mem) : Prop := ((0 ≤ w32 (l4 + 1) ∧ w32 (l4 + 1) < L) ∧ ((0 ≤ w32 (l4 + 2) ∧ w32 (l4 + 2) < L) ∧ (wX10_stocks (xi (w32 (l4 + 1)).toNat) (xi (w32 (l4 + 2)).toNat) σ (fun y1 m2 => ((0 ≤ w32 (l4 + 1) ∧ w32 (l4 + 1) < L) ∧ ((0 ≤ w32 (l4 + 2) ∧ w32 (l4 + 2) < L) ∧ (wX11_stocks (xi (w32 (l4 + 1)).toNat) (xi (w32 (l4 + 2)).toNat) m2 (fun y3 m4 => ((y1 = y3 → (∀ x5 : Int, x5 = w32 (l4 + 7) → K x5 m4)) ∧ (¬ y1 = y3 → False))))))))))
def wlaw_1408 (L : Nat) (xi : Nat → Int) (K : Int → Mem → Prop) (l4 : Int) (σ : Mem) : Prop := ((0 ≤ w32 (l4 + 1) ∧ w32 (l4 + 1) < L) ∧ ((0 ≤ w32 (l4 + 2) ∧ w32 (l4 + 2) < L) ∧ ((0 ≤ w32 (l4 + 3) ∧ w32 (l4 + 3) < L) ∧ (wX10_lets (xi (w32 (l4 + 1)).toNat) (xi (w32 (l4 + 2)).toNat) (xi (w32 (l4 + 3)).toNat) σ (fun y1 m2 => ((0 ≤ w32 (l4 + 1) ∧ w32 (l4 + 1) < L) ∧ ((0 ≤ w32 (l4 + 2) ∧ w32 (l4 + 2) < L) ∧ ((0 ≤ w32 (l4 + 3) ∧ w32 (l4 + 3) < L) ∧ (wX11_lets (xi (w32 (l4 + 1)).toNat) (xi (w32 (l4 + 2)).toNat) (xi (w32 (l4 + 3)).toNat) m2 (fun y3 m4 => ((y1 = y3 → (∀ x5 : Int, x5 = w32 (l4 + 7) → K x5 m4)) ∧ (¬ y1 = y3 → False))))))))))))
def wlaw_1457 (L : Nat) (xi : Nat → Int) (K : Int → Mem → Prop) (l4 : Int) (σ : Mem) : Prop := ((0 ≤ w32 (l4 + 1) ∧ w32 (l4 + 1) < L) ∧ (wX10_leaves (xi (w32 (l4 + 1)).toNat) σ (fun y1 m2 => ((0 ≤ w32 (l4 + 1) ∧ w32 (l4 + 1) < L) ∧ (wX11_leaves (xi (w32 (l4 + 1)).toNat) m2 (fun y3 m4 => ((y1 = y3 → (∀ x5 : Int, x5 = w32 (l4 + 7) → K x5 m4)) ∧ (¬ y1 = y3 → False))))))))
def wlaw_1482 (L : Nat) (xi : Nat → Int) (K : Int → Mem → Prop) (l4 : Int) (σ : Mem) : Prop := (wX10_day σ (fun y1 m2 => (wX11_day m2 (fun y3 m4 => ((y1 = y3 → (∀ x5 : Int, x5 = w32 (l4 + 7) → K x5 m4)) ∧ (¬ y1 = y3 → False))))))
def wlaw_1495 (L : Nat) (xi : Nat → Int) (K : Int → Mem → Prop) (l4 : Int) (σ : Mem) : Prop := (wX10_undo σ (fun y1 m2 => (wX11_undo m2 (fun y3 m4 => ((y1 = y3 → (∀ x5 : Int, x5 = w32 (l4 + 7) → K x5 m4)) ∧ (¬ y1 = y3 → False))))))
def wlaw_1508 (L : Nat) (xi : Nat → Int) (K : Int → Mem → Prop) (l4 : Int) (σ : Mem) : Prop := ((0 ≤ w32 (l4 + 1) ∧ w32 (l4 + 1) < L) ∧ ((0 ≤ w32 (l4 + 2) ∧ w32 (l4 + 2) < L) ∧ (wX10_years (xi (w32 (l4 + 1)).toNat) (xi (w32 (l4 + 2)).toNat) σ (fun y1 m2 => ((0 ≤ w32 (l4 + 1) ∧ w32 (l4 + 1) < L) ∧ ((0 ≤ w32 (l4 + 2) ∧ w32 (l4 + 2) < L) ∧ (wX11_years (xi (w32 (l4 + 1)).toNat) (xi (w32 (l4 + 2)).toNat) m2 (fun y3 m4 => ((y1 = y3 → (∀ x5 : Int, x5 = w32 (l4 + 7) → K x5 m4)) ∧ (¬ y1 = y3 → False))))))))))
def wlaw_1545 (L : Nat) (xi : Nat → Int) (K : Int → Mem → Prop) (l4 : Int) (σ : Mem) : Prop := ((0 ≤ w32 (l4 + 1) ∧ w32 (l4 + 1) < L) ∧ (wX10_keep (xi (w32 (l4 + 1)).toNat) σ (fun y1 m2 => ((0 ≤ w32 (l4 + 1) ∧ w32 (l4 + 1) < L) ∧ (wX11_keep (xi (w32 (l4 + 1)).toNat) m2 (fun y3 m4 => ((y1 = y3 → (∀ x5 : Int, x5 = w32 (l4 + 7) → K x5 m4)) ∧ (¬ y1 = y3 → False))))))))
def wlaw_1570 (L : Nat) (xi : Nat → Int) (K : Int → Mem → Prop) (l4 : Int) (σ : Mem) : Prop := ((0 ≤ w32 (l4 + 1) ∧ w32 (l4 + 1) < L) ∧ (wX10_again (xi (w32 (l4 + 1)).toNat) σ (fun y1 m2 => ((0 ≤ w32 (l4 + 1) ∧ w32 (l4 + 1) < L) ∧ (wX11_again (xi (w32 (l4 + 1)).toNat) m2 (fun y3 m4 => ((y1 = y3 → (∀ x5 : Int, x5 = w32 (l4 + 7) → K x5 m4)) ∧ (¬ y1 = y3 → False))))))))
def wlaw_1595 (L : Nat) (xi : Nat → Int) (K : Int → Mem → Prop) (l4 : Int) (σ : Mem) : Prop := ((0 ≤ w32 (l4 + 1) ∧ w32 (l4 + 1) < L) ∧ (wX10_count (xi (w32 (l4 + 1)).toNat) σ (fun y1 m2 => ((0 ≤ w32 (l4 + 1) ∧ w32 (l4 + 1) < L) ∧ (wX11_count (xi (w32 (l4 + 1)).toNat) m2 (fun y3 m4 => ((y1 = y3 → (∀ x5 : Int, x5 = w32 (l4 + 7) → K x5 m4)) ∧ (¬ y1 = y3 → False))))))))
def wlaw_1620 (L : Nat) (xi : Nat → Int) (K : Int → Mem → Prop) (l4 : Int) (σ : Mem) : Prop := ((0 ≤ w32 (l4 + 1) ∧ w32 (l4 + 1) < L) ∧ (wL_row (xi (w32 (l4 + 1)).toNat) σ (fun y1 m2 => ((0 ≤ w32 (l4 + 1) ∧ w32 (l4 + 1) < L) ∧ (wX11_row (xi (w32 (l4 + 1)).toNat) m2 (fun y3 m4 => (wX11_thrown m4 (fun y5 m6 => ((y5 = y1 → ((¬ y1 = 0 → (∀ x7 : Int, x7 = w32 (l4 + 7) → K x7 m6)) ∧ (y1 = 0 → ((lcmpI (m6 340 0) y3 = 0 → (∀ x8 : Int, x8 = w32 (l4 + 7) → K x8 m6)) ∧ (¬ lcmpI (m6 340 0) y3 = 0 → False))))) ∧ (¬ y5 = y1 → False))))))))))
def wlaw_23 (L : Nat) (xi : Nat → Int) (K : Int → Mem → Prop) (l4 : Int) (σ : Mem) : Prop := ((w32 (((L : Int)) - 7) < l4 → True) ∧ (¬ w32 (((L : Int)) - 7) < l4 → ((0 ≤ l4 ∧ l4 < L) ∧ ((band (xi l4.toNat) 63 = 0 → wlaw_220 L xi K l4 σ) ∧ (band (xi l4.toNat) 63 = 1 → wlaw_245 L xi K l4 σ) ∧ (band (xi l4.toNat) 63 = 2 → wlaw_270 L xi K l4 σ) ∧ (band (xi l4.toNat) 63 = 3 → wlaw_283 L xi K l4 σ) ∧ (band (xi l4.toNat) 63 = 4 → wlaw_356 L xi K l4 σ) ∧ (band (xi l4.toNat) 63 = 5 → wlaw_393 L xi K l4 σ) ∧ (band (xi l4.toNat) 63 = 6 → wlaw_449 L xi K l4 σ) ∧ (band (xi l4.toNat) 63 = 7 → wlaw_462 L xi K l4 σ) ∧ (band (xi l4.toNat) 63 = 8 → wlaw_511 L xi K l4 σ) ∧ (band (xi l4.toNat) 63 = 9 → wlaw_548 L xi K l4 σ) ∧ (band (xi l4.toNat) 63 = 10 → wlaw_585 L xi K l4 σ) ∧ (band (xi l4.toNat) 63 = 11 → wlaw_598 L xi K l4 σ) ∧ (band (xi l4.toNat) 63 = 12 → wlaw_611 L xi K l4 σ) ∧ (band (xi l4.toNat) 63 = 13 → wlaw_660 L xi K l4 σ) ∧ (band (xi l4.toNat) 63 = 14 → wlaw_709 L xi K l4 σ) ∧ (band (xi l4.toNat) 63 = 15 → wlaw_758 L xi K l4 σ) ∧ (band (xi l4.toNat) 63 = 16 → wlaw_783 L xi K l4 σ) ∧ (band (xi l4.toNat) 63 = 17 → wlaw_808 L xi K l4 σ) ∧ (band (xi l4.toNat) 63 = 18 → wlaw_876 L xi K l4 σ) ∧ (band (xi l4.toNat) 63 = 19 → wlaw_925 L xi K l4 σ) ∧ (band (xi l4.toNat) 63 = 20 → wlaw_938 L xi K l4 σ) ∧ (band (xi l4.toNat) 63 = 21 → wlaw_951 L xi K l4 σ) ∧ (band (xi l4.toNat) 63 = 22 → wlaw_964 L xi K l4 σ) ∧ (band (xi l4.toNat) 63 = 23 → wlaw_1013 L xi K l4 σ) ∧ (band (xi l4.toNat) 63 = 24 → wlaw_1038 L xi K l4 σ) ∧ (band (xi l4.toNat) 63 = 25 → wlaw_1051 L xi K l4 σ) ∧ (band (xi l4.toNat) 63 = 26 → wlaw_1076 L xi K l4 σ) ∧ (band (xi l4.toNat) 63 = 27 → wlaw_1125 L xi K l4 σ) ∧ (band (xi l4.toNat) 63 = 28 → wlaw_1162 L xi K l4 σ) ∧ (band (xi l4.toNat) 63 = 29 → wlaw_1235 L xi K l4 σ) ∧ (band (xi l4.toNat) 63 = 30 → wlaw_1322 L xi K l4 σ) ∧ (band (xi l4.toNat) 63 = 31 → wlaw_1371 L xi K l4 σ) ∧ (band (xi l4.toNat) 63 = 32 → wlaw_1408 L xi K l4 σ) ∧ (band (xi l4.toNat) 63 = 33 → wlaw_1457 L xi K l4 σ) ∧ (band (xi l4.toNat) 63 = 34 → wlaw_1482 L xi K l4 σ) ∧ (band (xi l4.toNat) 63 = 35 → wlaw_1495 L xi K l4 σ) ∧ (band (xi l4.toNat) 63 = 36 → wlaw_1508 L xi K l4 σ) ∧ (band (xi l4.toNat) 63 = 37 → wlaw_1545 L xi K l4 σ) ∧ (band (xi l4.toNat) 63 = 38 → wlaw_1570 L xi K l4 σ) ∧ (band (xi l4.toNat) 63 = 39 → wlaw_1595 L xi K l4 σ) ∧ (band (xi l4.toNat) 63 = 40 → wlaw_1620 L xi K l4 σ) ∧ (band (xi l4.toNat) 63 ≠ 0 ∧ band (xi l4.toNat) 63 ≠ 1 ∧ band (xi l4.toNat) 63 ≠ 2 ∧ band (xi l4.toNat) 63 ≠ 3 ∧ band (xi l4.toNat) 63 ≠ 4 ∧ band (xi l4.toNat) 63 ≠ 5 ∧ band (xi l4.toNat) 63 ≠ 6 ∧ band (xi l4.toNat) 63 ≠ 7 ∧ band (xi l4.toNat) 63 ≠ 8 ∧ band (xi l4.toNat) 63 ≠ 9 ∧ band (xi l4.toNat) 63 ≠ 10 ∧ band (xi l4.toNat) 63 ≠ 11 ∧ band (xi l4.toNat) 63 ≠ 12 ∧ band (xi l4.toNat) 63 ≠ 13 ∧ band (xi l4.toNat) 63 ≠ 14 ∧ band (xi l4.toNat) 63 ≠ 15 ∧ band (xi l4.toNat) 63 ≠ 16 ∧ band (xi l4.toNat) 63 ≠ 17 ∧ band (xi l4.toNat) 63 ≠ 18 ∧ band (xi l4.toNat) 63 ≠ 19 ∧ band (xi l4.toNat) 63 ≠ 20 ∧ band (xi l4.toNat) 63 ≠ 21 ∧ band (xi l4.toNat) 63 ≠ 22 ∧ band (xi l4.toNat) 63 ≠ 23 ∧ band (xi l4.toNat) 63 ≠ 24 ∧ band (xi l4.toNat) 63 ≠ 25 ∧ band (xi l4.toNat) 63 ≠ 26 ∧ band (xi l4.toNat) 63 ≠ 27 ∧ band (xi l4.toNat) 63 ≠ 28 ∧ band (xi l4.toNat) 63 ≠ 29 ∧ band (xi l4.toNat) 63 ≠ 30 ∧ band (xi l4.toNat) 63 ≠ 31 ∧ band (xi l4.toNat) 63 ≠ 32 ∧ band (xi l4.toNat) 63 ≠ 33 ∧ band (xi l4.toNat) 63 ≠ 34 ∧ band (xi l4.toNat) 63 ≠ 35 ∧ band (xi l4.toNat) 63 ≠ 36 ∧ band (xi l4.toNat) 63 ≠ 37 ∧ band (xi l4.toNat) 63 ≠ 38 ∧ band (xi l4.toNat) 63 ≠ 39 ∧ band (xi l4.toNat) 63 ≠ 40 → (∀ x1 : Int, x1 = w32 (l4 + 7) → K x1 σ))))))
section LAWW
variable {p : Program} {l : Launch} {e : Env} {R : Room} {s : State} {m : MethodId} {args : Array Value} {below : List Frame} {meth : Method} {c : Code} {Q : State → Prop} {D : va_G} {cy : Nat → ClassId} {ad : Nat → Nat} {A : Nat → Prop} {b L : Nat} {xi : Nat → Int}
set_option maxHeartbeats 4000000 in
theorem blaw_220 (hTr : l.stackTraces = false) (hcap : R.cells = 601024 ∧ R.slots = 7293034) (hX : SXq s A b L xi) (hE : ∀ (k0 n0 : Nat) (σ : Mem) (lv : List (Nat × AV)) {x : Int}, bnd x k0 n0 → GW (p, l, e, R, s, m, args, below, meth, c, Q, D, cy, ad, A, k0, n0) cL_law 8 RL 2048 84000 σ 1682 lv [vI 1]) {K : Int → Mem → Prop} (hK : ∀ (x : Int) (σ : Mem), K x σ → ∀ k0 n0, bnd x k0 n0 → GW (p, l, e, R, s, m, args, below, meth, c, Q, D, cy, ad, A, k0, n0) cL_law 8 RL 2048 84000 σ 23 [(0, vX b), (1, vR 0), (2, vR 300), (3, vR 340), (4, vI x)] []) {l4 : Int} {σ : Mem} {k0 n0 : Nat} (hb : bnd2 l4 k0 n0) (h : wlaw_220 L xi K l4 σ) : GW (p, l, e, R, s, m, args, below, meth, c, Q, D, cy, ad, A, k0, n0) cL_law 8 RL 2048 84000 σ 220 [(0, vX b), (1, vR 0), (2, vR 300), (3, vR 340), (4, vI l4)] [] := by
  unfold wlaw_220 at h
  refine g_aload_n dL_law_220 rfl ?_
  refine g_xload dL_law_221 rfl ?_
  refine g_iload dL_law_222 rfl ?_
  refine g_iconst dL_law_224 1 rfl (by decide) ?_
  refine g_iadd dL_law_225 ?_
  obtain ⟨hin, h⟩ := h
  refine g_sld hX hin dL_law_226 ?_
  refine g_cVi (st := []) (av := [vI (xi (w32 (l4 + 1)).toNat)]) (kX10_sign h) kd_0 rfl cw_RL_27 (by decide) (by decide) (Nat.le_of_ble_eq_true rfl) rfl dL_law_227 (fun y1 m2 h => ?_)
  refine g_aload_n dL_law_230 rfl ?_
  refine g_xload dL_law_231 rfl ?_
  refine g_iload dL_law_232 rfl ?_
  refine g_iconst dL_law_234 1 rfl (by decide) ?_
  refine g_iadd dL_law_235 ?_
  obtain ⟨hin, h⟩ := h
  refine g_sld hX hin dL_law_236 ?_
  refine g_cVi (st := [vI y1]) (av := [vI (xi (w32 (l4 + 1)).toNat)]) (kX11_sign h) kd_300 rfl cw_RL_30 (by decide) (by decide) (Nat.le_of_ble_eq_true rfl) rfl dL_law_237 (fun y3 m4 h => ?_)
  obtain ⟨hA, hB⟩ := h
  refine g_icmp_eq (tgt := 1675) dL_law_240 (by decide) (fun hc => ?_) (fun hc => ?_)
  · replace h := hA hc
    refine g_iinc (lv' := [(4, vI (w32 (l4 + 7))), (0, vX b), (1, vR 0), (2, vR 300), (3, vR 340)]) dL_law_1675 rfl (by decide) rfl ?_
    refine g_loc (a := w32 (l4 + 7)) (i := 4) (lv := [(0, vX b), (1, vR 0), (2, vR 300), (3, vR 340)]) (fun x5 ex5 => ?_)
    replace h := h x5 ex5
    refine g_goto (tgt := 23) dL_law_1678 (by decide) ?_
    refine g_lv (lv' := [(0, vX b), (1, vR 0), (2, vR 300), (3, vR 340), (4, vI x5)]) [1, 2, 3, 4, 0] rfl ?_
    first | exact hK x5 m4 h _ _ (bnd_s0 hb ex5) | exact hK x5 m4 h _ _ (bnd_s1 hb ex5)
  · replace h := hB hc
    refine g_iconst dL_law_243 0 rfl (by decide) ?_
    exact h.elim
set_option maxHeartbeats 4000000 in
theorem blaw_245 (hTr : l.stackTraces = false) (hcap : R.cells = 601024 ∧ R.slots = 7293034) (hX : SXq s A b L xi) (hE : ∀ (k0 n0 : Nat) (σ : Mem) (lv : List (Nat × AV)) {x : Int}, bnd x k0 n0 → GW (p, l, e, R, s, m, args, below, meth, c, Q, D, cy, ad, A, k0, n0) cL_law 8 RL 2048 84000 σ 1682 lv [vI 1]) {K : Int → Mem → Prop} (hK : ∀ (x : Int) (σ : Mem), K x σ → ∀ k0 n0, bnd x k0 n0 → GW (p, l, e, R, s, m, args, below, meth, c, Q, D, cy, ad, A, k0, n0) cL_law 8 RL 2048 84000 σ 23 [(0, vX b), (1, vR 0), (2, vR 300), (3, vR 340), (4, vI x)] []) {l4 : Int} {σ : Mem} {k0 n0 : Nat} (hb : bnd2 l4 k0 n0) (h : wlaw_245 L xi K l4 σ) : GW (p, l, e, R, s, m, args, below, meth, c, Q, D, cy, ad, A, k0, n0) cL_law 8 RL 2048 84000 σ 245 [(0, vX b), (1, vR 0), (2, vR 300), (3, vR 340), (4, vI l4)] [] := by
  unfold wlaw_245 at h
  refine g_aload_n dL_law_245 rfl ?_
  refine g_xload dL_law_246 rfl ?_
  refine g_iload dL_law_247 rfl ?_
  refine g_iconst dL_law_249 1 rfl (by decide) ?_
  refine g_iadd dL_law_250 ?_
  obtain ⟨hin, h⟩ := h
  refine g_sld hX hin dL_law_251 ?_
  refine g_cVi (st := []) (av := [vI (xi (w32 (l4 + 1)).toNat)]) (kX10_end h) kd_0 rfl cw_RL_31 (by decide) (by decide) (Nat.le_of_ble_eq_true rfl) rfl dL_law_252 (fun y1 m2 h => ?_)
  refine g_aload_n dL_law_255 rfl ?_
  refine g_xload dL_law_256 rfl ?_
  refine g_iload dL_law_257 rfl ?_
  refine g_iconst dL_law_259 1 rfl (by decide) ?_
  refine g_iadd dL_law_260 ?_
  obtain ⟨hin, h⟩ := h
  refine g_sld hX hin dL_law_261 ?_
  refine g_cVi (st := [vI y1]) (av := [vI (xi (w32 (l4 + 1)).toNat)]) (kX11_end h) kd_300 rfl cw_RL_35 (by decide) (by decide) (Nat.le_of_ble_eq_true rfl) rfl dL_law_262 (fun y3 m4 h => ?_)
  obtain ⟨hA, hB⟩ := h
  refine g_icmp_eq (tgt := 1675) dL_law_265 (by decide) (fun hc => ?_) (fun hc => ?_)
  · replace h := hA hc
    refine g_iinc (lv' := [(4, vI (w32 (l4 + 7))), (0, vX b), (1, vR 0), (2, vR 300), (3, vR 340)]) dL_law_1675 rfl (by decide) rfl ?_
    refine g_loc (a := w32 (l4 + 7)) (i := 4) (lv := [(0, vX b), (1, vR 0), (2, vR 300), (3, vR 340)]) (fun x5 ex5 => ?_)
    replace h := h x5 ex5
    refine g_goto (tgt := 23) dL_law_1678 (by decide) ?_
    refine g_lv (lv' := [(0, vX b), (1, vR 0), (2, vR 300), (3, vR 340), (4, vI x5)]) [1, 2, 3, 4, 0] rfl ?_
    first | exact hK x5 m4 h _ _ (bnd_s0 hb ex5) | exact hK x5 m4 h _ _ (bnd_s1 hb ex5)
  · replace h := hB hc
    refine g_iconst dL_law_268 0 rfl (by decide) ?_
    exact h.elim
set_option maxHeartbeats 4000000 in
theorem blaw_270 (hTr : l.stackTraces = false) (hcap : R.cells = 601024 ∧ R.slots = 7293034) (hX : SXq s A b L xi) (hE : ∀ (k0 n0 : Nat) (σ : Mem) (lv : List (Nat × AV)) {x : Int}, bnd x k0 n0 → GW (p, l, e, R, s, m, args, below, meth, c, Q, D, cy, ad, A, k0, n0) cL_law 8 RL 2048 84000 σ 1682 lv [vI 1]) {K : Int → Mem → Prop} (hK : ∀ (x : Int) (σ : Mem), K x σ → ∀ k0 n0, bnd x k0 n0 → GW (p, l, e, R, s, m, args, below, meth, c, Q, D, cy, ad, A, k0, n0) cL_law 8 RL 2048 84000 σ 23 [(0, vX b), (1, vR 0), (2, vR 300), (3, vR 340), (4, vI x)] []) {l4 : Int} {σ : Mem} {k0 n0 : Nat} (hb : bnd2 l4 k0 n0) (h : wlaw_270 L xi K l4 σ) : GW (p, l, e, R, s, m, args, below, meth, c, Q, D, cy, ad, A, k0, n0) cL_law 8 RL 2048 84000 σ 270 [(0, vX b), (1, vR 0), (2, vR 300), (3, vR 340), (4, vI l4)] [] := by
  unfold wlaw_270 at h
  refine g_aload_n dL_law_270 rfl ?_
  refine g_cVi (st := []) (av := []) (kX10_club h) kd_0 rfl cw_RL_36 (by decide) (by decide) (Nat.le_of_ble_eq_true rfl) rfl dL_law_271 (fun y1 m2 h => ?_)
  refine g_aload_n dL_law_274 rfl ?_
  refine g_cVi (st := [vI y1]) (av := []) (kX11_club h) kd_300 rfl cw_RL_40 (by decide) (by decide) (Nat.le_of_ble_eq_true rfl) rfl dL_law_275 (fun y3 m4 h => ?_)
  obtain ⟨hA, hB⟩ := h
  refine g_icmp_eq (tgt := 1675) dL_law_278 (by decide) (fun hc => ?_) (fun hc => ?_)
  · replace h := hA hc
    refine g_iinc (lv' := [(4, vI (w32 (l4 + 7))), (0, vX b), (1, vR 0), (2, vR 300), (3, vR 340)]) dL_law_1675 rfl (by decide) rfl ?_
    refine g_loc (a := w32 (l4 + 7)) (i := 4) (lv := [(0, vX b), (1, vR 0), (2, vR 300), (3, vR 340)]) (fun x5 ex5 => ?_)
    replace h := h x5 ex5
    refine g_goto (tgt := 23) dL_law_1678 (by decide) ?_
    refine g_lv (lv' := [(0, vX b), (1, vR 0), (2, vR 300), (3, vR 340), (4, vI x5)]) [1, 2, 3, 4, 0] rfl ?_
    first | exact hK x5 m4 h _ _ (bnd_s0 hb ex5) | exact hK x5 m4 h _ _ (bnd_s1 hb ex5)
  · replace h := hB hc
    refine g_iconst dL_law_281 0 rfl (by decide) ?_
    exact h.elim
set_option maxHeartbeats 4000000 in
theorem blaw_283 (hTr : l.stackTraces = false) (hcap : R.cells = 601024 ∧ R.slots = 7293034) (hX : SXq s A b L xi) (hE : ∀ (k0 n0 : Nat) (σ : Mem) (lv : List (Nat × AV)) {x : Int}, bnd x k0 n0 → GW (p, l, e, R, s, m, args, below, meth, c, Q, D, cy, ad, A, k0, n0) cL_law 8 RL 2048 84000 σ 1682 lv [vI 1]) {K : Int → Mem → Prop} (hK : ∀ (x : Int) (σ : Mem), K x σ → ∀ k0 n0, bnd x k0 n0 → GW (p, l, e, R, s, m, args, below, meth, c, Q, D, cy, ad, A, k0, n0) cL_law 8 RL 2048 84000 σ 23 [(0, vX b), (1, vR 0), (2, vR 300), (3, vR 340), (4, vI x)] []) {l4 : Int} {σ : Mem} {k0 n0 : Nat} (hb : bnd2 l4 k0 n0) (h : wlaw_283 L xi K l4 σ) : GW (p, l, e, R, s, m, args, below, meth, c, Q, D, cy, ad, A, k0, n0) cL_law 8 RL 2048 84000 σ 283 [(0, vX b), (1, vR 0), (2, vR 300), (3, vR 340), (4, vI l4)] [] := by
  unfold wlaw_283 at h
  refine g_aload_n dL_law_283 rfl ?_
  refine g_xload dL_law_284 rfl ?_
  refine g_iload dL_law_285 rfl ?_
  refine g_iconst dL_law_287 1 rfl (by decide) ?_
  refine g_iadd dL_law_288 ?_
  obtain ⟨hin, h⟩ := h
  refine g_sld hX hin dL_law_289 ?_
  refine g_xload dL_law_290 rfl ?_
  refine g_iload dL_law_291 rfl ?_
  refine g_iconst dL_law_293 2 rfl (by decide) ?_
  refine g_iadd dL_law_294 ?_
  obtain ⟨hin, h⟩ := h
  refine g_sld hX hin dL_law_295 ?_
  refine g_xload dL_law_296 rfl ?_
  refine g_iload dL_law_297 rfl ?_
  refine g_iconst dL_law_299 3 rfl (by decide) ?_
  refine g_iadd dL_law_300 ?_
  obtain ⟨hin, h⟩ := h
  refine g_sld hX hin dL_law_301 ?_
  refine g_xload dL_law_302 rfl ?_
  refine g_iload dL_law_303 rfl ?_
  refine g_iconst dL_law_305 4 rfl (by decide) ?_
  refine g_iadd dL_law_306 ?_
  obtain ⟨hin, h⟩ := h
  refine g_sld hX hin dL_law_307 ?_
  refine g_xload dL_law_308 rfl ?_
  refine g_iload dL_law_309 rfl ?_
  refine g_iconst dL_law_311 5 rfl (by decide) ?_
  refine g_iadd dL_law_312 ?_
  obtain ⟨hin, h⟩ := h
  refine g_sld hX hin dL_law_313 ?_
  refine g_cVi (st := []) (av := [vI (xi (w32 (l4 + 1)).toNat), vI (xi (w32 (l4 + 2)).toNat), vI (xi (w32 (l4 + 3)).toNat), vI (xi (w32 (l4 + 4)).toNat), vI (xi (w32 (l4 + 5)).toNat)]) (kX10_sheet h) kd_0 rfl cw_RL_41 (by decide) (by decide) (Nat.le_of_ble_eq_true rfl) rfl dL_law_314 (fun y1 m2 h => ?_)
  refine g_aload_n dL_law_317 rfl ?_
  refine g_xload dL_law_318 rfl ?_
  refine g_iload dL_law_319 rfl ?_
  refine g_iconst dL_law_321 1 rfl (by decide) ?_
  refine g_iadd dL_law_322 ?_
  obtain ⟨hin, h⟩ := h
  refine g_sld hX hin dL_law_323 ?_
  refine g_xload dL_law_324 rfl ?_
  refine g_iload dL_law_325 rfl ?_
  refine g_iconst dL_law_327 2 rfl (by decide) ?_
  refine g_iadd dL_law_328 ?_
  obtain ⟨hin, h⟩ := h
  refine g_sld hX hin dL_law_329 ?_
  refine g_xload dL_law_330 rfl ?_
  refine g_iload dL_law_331 rfl ?_
  refine g_iconst dL_law_333 3 rfl (by decide) ?_
  refine g_iadd dL_law_334 ?_
  obtain ⟨hin, h⟩ := h
  refine g_sld hX hin dL_law_335 ?_
  refine g_xload dL_law_336 rfl ?_
  refine g_iload dL_law_337 rfl ?_
  refine g_iconst dL_law_339 4 rfl (by decide) ?_
  refine g_iadd dL_law_340 ?_
  obtain ⟨hin, h⟩ := h
  refine g_sld hX hin dL_law_341 ?_
  refine g_xload dL_law_342 rfl ?_
  refine g_iload dL_law_343 rfl ?_
  refine g_iconst dL_law_345 5 rfl (by decide) ?_
  refine g_iadd dL_law_346 ?_
  obtain ⟨hin, h⟩ := h
  refine g_sld hX hin dL_law_347 ?_
  refine g_cVi (st := [vI y1]) (av := [vI (xi (w32 (l4 + 1)).toNat), vI (xi (w32 (l4 + 2)).toNat), vI (xi (w32 (l4 + 3)).toNat), vI (xi (w32 (l4 + 4)).toNat), vI (xi (w32 (l4 + 5)).toNat)]) (kX11_sheet h) kd_300 rfl cw_RL_45 (by decide) (by decide) (Nat.le_of_ble_eq_true rfl) rfl dL_law_348 (fun y3 m4 h => ?_)
  obtain ⟨hA, hB⟩ := h
  refine g_icmp_eq (tgt := 1675) dL_law_351 (by decide) (fun hc => ?_) (fun hc => ?_)
  · replace h := hA hc
    refine g_iinc (lv' := [(4, vI (w32 (l4 + 7))), (0, vX b), (1, vR 0), (2, vR 300), (3, vR 340)]) dL_law_1675 rfl (by decide) rfl ?_
    refine g_loc (a := w32 (l4 + 7)) (i := 4) (lv := [(0, vX b), (1, vR 0), (2, vR 300), (3, vR 340)]) (fun x5 ex5 => ?_)
    replace h := h x5 ex5
    refine g_goto (tgt := 23) dL_law_1678 (by decide) ?_
    refine g_lv (lv' := [(0, vX b), (1, vR 0), (2, vR 300), (3, vR 340), (4, vI x5)]) [1, 2, 3, 4, 0] rfl ?_
    first | exact hK x5 m4 h _ _ (bnd_s0 hb ex5) | exact hK x5 m4 h _ _ (bnd_s1 hb ex5)
  · replace h := hB hc
    refine g_iconst dL_law_354 0 rfl (by decide) ?_
    exact h.elim
set_option maxHeartbeats 4000000 in
theorem blaw_356 (hTr : l.stackTraces = false) (hcap : R.cells = 601024 ∧ R.slots = 7293034) (hX : SXq s A b L xi) (hE : ∀ (k0 n0 : Nat) (σ : Mem) (lv : List (Nat × AV)) {x : Int}, bnd x k0 n0 → GW (p, l, e, R, s, m, args, below, meth, c, Q, D, cy, ad, A, k0, n0) cL_law 8 RL 2048 84000 σ 1682 lv [vI 1]) {K : Int → Mem → Prop} (hK : ∀ (x : Int) (σ : Mem), K x σ → ∀ k0 n0, bnd x k0 n0 → GW (p, l, e, R, s, m, args, below, meth, c, Q, D, cy, ad, A, k0, n0) cL_law 8 RL 2048 84000 σ 23 [(0, vX b), (1, vR 0), (2, vR 300), (3, vR 340), (4, vI x)] []) {l4 : Int} {σ : Mem} {k0 n0 : Nat} (hb : bnd2 l4 k0 n0) (h : wlaw_356 L xi K l4 σ) : GW (p, l, e, R, s, m, args, below, meth, c, Q, D, cy, ad, A, k0, n0) cL_law 8 RL 2048 84000 σ 356 [(0, vX b), (1, vR 0), (2, vR 300), (3, vR 340), (4, vI l4)] [] := by
  unfold wlaw_356 at h
  refine g_aload_n dL_law_356 rfl ?_
  refine g_xload dL_law_357 rfl ?_
  refine g_iload dL_law_358 rfl ?_
  refine g_iconst dL_law_360 1 rfl (by decide) ?_
  refine g_iadd dL_law_361 ?_
  obtain ⟨hin, h⟩ := h
  refine g_sld hX hin dL_law_362 ?_
  refine g_xload dL_law_363 rfl ?_
  refine g_iload dL_law_364 rfl ?_
  refine g_iconst dL_law_366 2 rfl (by decide) ?_
  refine g_iadd dL_law_367 ?_
  obtain ⟨hin, h⟩ := h
  refine g_sld hX hin dL_law_368 ?_
  refine g_cVi (st := []) (av := [vI (xi (w32 (l4 + 1)).toNat), vI (xi (w32 (l4 + 2)).toNat)]) (kX10_line h) kd_0 rfl cw_RL_46 (by decide) (by decide) (Nat.le_of_ble_eq_true rfl) rfl dL_law_369 (fun y1 m2 h => ?_)
  refine g_aload_n dL_law_372 rfl ?_
  refine g_xload dL_law_373 rfl ?_
  refine g_iload dL_law_374 rfl ?_
  refine g_iconst dL_law_376 1 rfl (by decide) ?_
  refine g_iadd dL_law_377 ?_
  obtain ⟨hin, h⟩ := h
  refine g_sld hX hin dL_law_378 ?_
  refine g_xload dL_law_379 rfl ?_
  refine g_iload dL_law_380 rfl ?_
  refine g_iconst dL_law_382 2 rfl (by decide) ?_
  refine g_iadd dL_law_383 ?_
  obtain ⟨hin, h⟩ := h
  refine g_sld hX hin dL_law_384 ?_
  refine g_cVi (st := [vI y1]) (av := [vI (xi (w32 (l4 + 1)).toNat), vI (xi (w32 (l4 + 2)).toNat)]) (kX11_line h) kd_300 rfl cw_RL_49 (by decide) (by decide) (Nat.le_of_ble_eq_true rfl) rfl dL_law_385 (fun y3 m4 h => ?_)
  obtain ⟨hA, hB⟩ := h
  refine g_icmp_eq (tgt := 1675) dL_law_388 (by decide) (fun hc => ?_) (fun hc => ?_)
  · replace h := hA hc
    refine g_iinc (lv' := [(4, vI (w32 (l4 + 7))), (0, vX b), (1, vR 0), (2, vR 300), (3, vR 340)]) dL_law_1675 rfl (by decide) rfl ?_
    refine g_loc (a := w32 (l4 + 7)) (i := 4) (lv := [(0, vX b), (1, vR 0), (2, vR 300), (3, vR 340)]) (fun x5 ex5 => ?_)
    replace h := h x5 ex5
    refine g_goto (tgt := 23) dL_law_1678 (by decide) ?_
    refine g_lv (lv' := [(0, vX b), (1, vR 0), (2, vR 300), (3, vR 340), (4, vI x5)]) [1, 2, 3, 4, 0] rfl ?_
    first | exact hK x5 m4 h _ _ (bnd_s0 hb ex5) | exact hK x5 m4 h _ _ (bnd_s1 hb ex5)
  · replace h := hB hc
    refine g_iconst dL_law_391 0 rfl (by decide) ?_
    exact h.elim
set_option maxHeartbeats 4000000 in
theorem blaw_393 (hTr : l.stackTraces = false) (hcap : R.cells = 601024 ∧ R.slots = 7293034) (hX : SXq s A b L xi) (hE : ∀ (k0 n0 : Nat) (σ : Mem) (lv : List (Nat × AV)) {x : Int}, bnd x k0 n0 → GW (p, l, e, R, s, m, args, below, meth, c, Q, D, cy, ad, A, k0, n0) cL_law 8 RL 2048 84000 σ 1682 lv [vI 1]) {K : Int → Mem → Prop} (hK : ∀ (x : Int) (σ : Mem), K x σ → ∀ k0 n0, bnd x k0 n0 → GW (p, l, e, R, s, m, args, below, meth, c, Q, D, cy, ad, A, k0, n0) cL_law 8 RL 2048 84000 σ 23 [(0, vX b), (1, vR 0), (2, vR 300), (3, vR 340), (4, vI x)] []) {l4 : Int} {σ : Mem} {k0 n0 : Nat} (hb : bnd2 l4 k0 n0) (h : wlaw_393 L xi K l4 σ) : GW (p, l, e, R, s, m, args, below, meth, c, Q, D, cy, ad, A, k0, n0) cL_law 8 RL 2048 84000 σ 393 [(0, vX b), (1, vR 0), (2, vR 300), (3, vR 340), (4, vI l4)] [] := by
  unfold wlaw_393 at h
  refine g_aload_n dL_law_393 rfl ?_
  refine g_xload dL_law_394 rfl ?_
  refine g_iload dL_law_395 rfl ?_
  refine g_iconst dL_law_397 1 rfl (by decide) ?_
  refine g_iadd dL_law_398 ?_
  obtain ⟨hin, h⟩ := h
  refine g_sld hX hin dL_law_399 ?_
  refine g_aload_n dL_law_400 rfl ?_
  refine g_cL (st := []) (av := [vR 0, vI (xi (w32 (l4 + 1)).toNat), vR 340]) hTr (kL_net h) cwh_net (by decide) (by decide) (Nat.le_of_ble_eq_true rfl) rfl dL_law_401 ⟨by have := hb.1; unfold bnd at this; rw [hcap.1]; omega, by have := hb.1; unfold bnd at this; rw [hcap.2]; omega⟩ (fun y1 m2 h => ?_)
  refine g_istore (lv' := [(5, vI y1), (0, vX b), (1, vR 0), (2, vR 300), (3, vR 340), (4, vI l4)]) dL_law_404 (by decide) rfl ?_
  refine g_aload_n dL_law_406 rfl ?_
  refine g_xload dL_law_407 rfl ?_
  refine g_iload dL_law_408 rfl ?_
  refine g_iconst dL_law_410 1 rfl (by decide) ?_
  refine g_iadd dL_law_411 ?_
  obtain ⟨hin, h⟩ := h
  refine g_sld hX hin dL_law_412 ?_
  refine g_cVi (st := []) (av := [vI (xi (w32 (l4 + 1)).toNat)]) (kX11_net h) kd_300 rfl cw_RL_55 (by decide) (by decide) (Nat.le_of_ble_eq_true rfl) rfl dL_law_413 (fun y3 m4 h => ?_)
  refine g_istore (lv' := [(6, vI y3), (5, vI y1), (0, vX b), (1, vR 0), (2, vR 300), (3, vR 340), (4, vI l4)]) dL_law_416 (by decide) rfl ?_
  refine g_aload_n dL_law_418 rfl ?_
  refine g_cVi (st := []) (av := []) (kX11_thrown h) kd_300 rfl cw_RL_56 (by decide) (by decide) (Nat.le_of_ble_eq_true rfl) rfl dL_law_419 (fun y5 m6 h => ?_)
  refine g_iload dL_law_422 rfl ?_
  obtain ⟨hA, hB⟩ := h
  refine g_icmp_eq (tgt := 429) dL_law_424 (by decide) (fun hc => ?_) (fun hc => ?_)
  · replace h := hA hc
    refine g_iload dL_law_429 rfl ?_
    obtain ⟨hA, hB⟩ := h
    refine g_if_ne (tgt := 446) dL_law_431 (by decide) (fun hc => ?_) (fun hc => ?_)
    · replace h := hA hc
      refine g_goto (tgt := 1675) dL_law_446 (by decide) ?_
      refine g_iinc (lv' := [(4, vI (w32 (l4 + 7))), (6, vI y3), (5, vI y1), (0, vX b), (1, vR 0), (2, vR 300), (3, vR 340)]) dL_law_1675 rfl (by decide) rfl ?_
      refine g_loc (a := w32 (l4 + 7)) (i := 4) (lv := [(6, vI y3), (5, vI y1), (0, vX b), (1, vR 0), (2, vR 300), (3, vR 340)]) (fun x7 ex7 => ?_)
      replace h := h x7 ex7
      refine g_goto (tgt := 23) dL_law_1678 (by decide) ?_
      refine g_lv (lv' := [(0, vX b), (1, vR 0), (2, vR 300), (3, vR 340), (4, vI x7)]) [3, 4, 5, 6, 0] rfl ?_
      first | exact hK x7 m6 h _ _ (bnd_s0 hb ex7) | exact hK x7 m6 h _ _ (bnd_s1 hb ex7)
    · replace h := hB hc
      refine g_aload_n dL_law_434 rfl ?_
      refine g_iconst dL_law_435 0 rfl (by decide) ?_
      refine g_lald kd_340 (by decide) dL_law_436 ?_
      refine g_iload dL_law_437 rfl ?_
      refine g_i2l dL_law_439 ?_
      refine g_lcmp dL_law_440 ?_
      obtain ⟨hA, hB⟩ := h
      refine g_if_eq (tgt := 446) dL_law_441 (by decide) (fun hc => ?_) (fun hc => ?_)
      · replace h := hA hc
        refine g_goto (tgt := 1675) dL_law_446 (by decide) ?_
        refine g_iinc (lv' := [(4, vI (w32 (l4 + 7))), (6, vI y3), (5, vI y1), (0, vX b), (1, vR 0), (2, vR 300), (3, vR 340)]) dL_law_1675 rfl (by decide) rfl ?_
        refine g_loc (a := w32 (l4 + 7)) (i := 4) (lv := [(6, vI y3), (5, vI y1), (0, vX b), (1, vR 0), (2, vR 300), (3, vR 340)]) (fun x8 ex8 => ?_)
        replace h := h x8 ex8
        refine g_goto (tgt := 23) dL_law_1678 (by decide) ?_
        refine g_lv (lv' := [(0, vX b), (1, vR 0), (2, vR 300), (3, vR 340), (4, vI x8)]) [3, 4, 5, 6, 0] rfl ?_
        first | exact hK x8 m6 h _ _ (bnd_s0 hb ex8) | exact hK x8 m6 h _ _ (bnd_s1 hb ex8)
      · replace h := hB hc
        refine g_iconst dL_law_444 0 rfl (by decide) ?_
        exact h.elim
  · replace h := hB hc
    refine g_iconst dL_law_427 0 rfl (by decide) ?_
    exact h.elim
set_option maxHeartbeats 4000000 in
theorem blaw_449 (hTr : l.stackTraces = false) (hcap : R.cells = 601024 ∧ R.slots = 7293034) (hX : SXq s A b L xi) (hE : ∀ (k0 n0 : Nat) (σ : Mem) (lv : List (Nat × AV)) {x : Int}, bnd x k0 n0 → GW (p, l, e, R, s, m, args, below, meth, c, Q, D, cy, ad, A, k0, n0) cL_law 8 RL 2048 84000 σ 1682 lv [vI 1]) {K : Int → Mem → Prop} (hK : ∀ (x : Int) (σ : Mem), K x σ → ∀ k0 n0, bnd x k0 n0 → GW (p, l, e, R, s, m, args, below, meth, c, Q, D, cy, ad, A, k0, n0) cL_law 8 RL 2048 84000 σ 23 [(0, vX b), (1, vR 0), (2, vR 300), (3, vR 340), (4, vI x)] []) {l4 : Int} {σ : Mem} {k0 n0 : Nat} (hb : bnd2 l4 k0 n0) (h : wlaw_449 L xi K l4 σ) : GW (p, l, e, R, s, m, args, below, meth, c, Q, D, cy, ad, A, k0, n0) cL_law 8 RL 2048 84000 σ 449 [(0, vX b), (1, vR 0), (2, vR 300), (3, vR 340), (4, vI l4)] [] := by
  unfold wlaw_449 at h
  refine g_aload_n dL_law_449 rfl ?_
  refine g_cVi (st := []) (av := []) (kX10_debts h) kd_0 rfl cw_RL_59 (by decide) (by decide) (Nat.le_of_ble_eq_true rfl) rfl dL_law_450 (fun y1 m2 h => ?_)
  refine g_aload_n dL_law_453 rfl ?_
  refine g_cVi (st := [vI y1]) (av := []) (kX11_debts h) kd_300 rfl cw_RL_62 (by decide) (by decide) (Nat.le_of_ble_eq_true rfl) rfl dL_law_454 (fun y3 m4 h => ?_)
  obtain ⟨hA, hB⟩ := h
  refine g_icmp_eq (tgt := 1675) dL_law_457 (by decide) (fun hc => ?_) (fun hc => ?_)
  · replace h := hA hc
    refine g_iinc (lv' := [(4, vI (w32 (l4 + 7))), (0, vX b), (1, vR 0), (2, vR 300), (3, vR 340)]) dL_law_1675 rfl (by decide) rfl ?_
    refine g_loc (a := w32 (l4 + 7)) (i := 4) (lv := [(0, vX b), (1, vR 0), (2, vR 300), (3, vR 340)]) (fun x5 ex5 => ?_)
    replace h := h x5 ex5
    refine g_goto (tgt := 23) dL_law_1678 (by decide) ?_
    refine g_lv (lv' := [(0, vX b), (1, vR 0), (2, vR 300), (3, vR 340), (4, vI x5)]) [1, 2, 3, 4, 0] rfl ?_
    first | exact hK x5 m4 h _ _ (bnd_s0 hb ex5) | exact hK x5 m4 h _ _ (bnd_s1 hb ex5)
  · replace h := hB hc
    refine g_iconst dL_law_460 0 rfl (by decide) ?_
    exact h.elim
set_option maxHeartbeats 4000000 in
theorem blaw_462 (hTr : l.stackTraces = false) (hcap : R.cells = 601024 ∧ R.slots = 7293034) (hX : SXq s A b L xi) (hE : ∀ (k0 n0 : Nat) (σ : Mem) (lv : List (Nat × AV)) {x : Int}, bnd x k0 n0 → GW (p, l, e, R, s, m, args, below, meth, c, Q, D, cy, ad, A, k0, n0) cL_law 8 RL 2048 84000 σ 1682 lv [vI 1]) {K : Int → Mem → Prop} (hK : ∀ (x : Int) (σ : Mem), K x σ → ∀ k0 n0, bnd x k0 n0 → GW (p, l, e, R, s, m, args, below, meth, c, Q, D, cy, ad, A, k0, n0) cL_law 8 RL 2048 84000 σ 23 [(0, vX b), (1, vR 0), (2, vR 300), (3, vR 340), (4, vI x)] []) {l4 : Int} {σ : Mem} {k0 n0 : Nat} (hb : bnd2 l4 k0 n0) (h : wlaw_462 L xi K l4 σ) : GW (p, l, e, R, s, m, args, below, meth, c, Q, D, cy, ad, A, k0, n0) cL_law 8 RL 2048 84000 σ 462 [(0, vX b), (1, vR 0), (2, vR 300), (3, vR 340), (4, vI l4)] [] := by
  unfold wlaw_462 at h
  refine g_aload_n dL_law_462 rfl ?_
  refine g_xload dL_law_463 rfl ?_
  refine g_iload dL_law_464 rfl ?_
  refine g_iconst dL_law_466 1 rfl (by decide) ?_
  refine g_iadd dL_law_467 ?_
  obtain ⟨hin, h⟩ := h
  refine g_sld hX hin dL_law_468 ?_
  refine g_xload dL_law_469 rfl ?_
  refine g_iload dL_law_470 rfl ?_
  refine g_iconst dL_law_472 2 rfl (by decide) ?_
  refine g_iadd dL_law_473 ?_
  obtain ⟨hin, h⟩ := h
  refine g_sld hX hin dL_law_474 ?_
  refine g_xload dL_law_475 rfl ?_
  refine g_iload dL_law_476 rfl ?_
  refine g_iconst dL_law_478 3 rfl (by decide) ?_
  refine g_iadd dL_law_479 ?_
  obtain ⟨hin, h⟩ := h
  refine g_sld hX hin dL_law_480 ?_
  refine g_cVi (st := []) (av := [vI (xi (w32 (l4 + 1)).toNat), vI (xi (w32 (l4 + 2)).toNat), vI (xi (w32 (l4 + 3)).toNat)]) (kX10_way h) kd_0 rfl cw_RL_63 (by decide) (by decide) (Nat.le_of_ble_eq_true rfl) rfl dL_law_481 (fun y1 m2 h => ?_)
  refine g_aload_n dL_law_484 rfl ?_
  refine g_xload dL_law_485 rfl ?_
  refine g_iload dL_law_486 rfl ?_
  refine g_iconst dL_law_488 1 rfl (by decide) ?_
  refine g_iadd dL_law_489 ?_
  obtain ⟨hin, h⟩ := h
  refine g_sld hX hin dL_law_490 ?_
  refine g_xload dL_law_491 rfl ?_
  refine g_iload dL_law_492 rfl ?_
  refine g_iconst dL_law_494 2 rfl (by decide) ?_
  refine g_iadd dL_law_495 ?_
  obtain ⟨hin, h⟩ := h
  refine g_sld hX hin dL_law_496 ?_
  refine g_xload dL_law_497 rfl ?_
  refine g_iload dL_law_498 rfl ?_
  refine g_iconst dL_law_500 3 rfl (by decide) ?_
  refine g_iadd dL_law_501 ?_
  obtain ⟨hin, h⟩ := h
  refine g_sld hX hin dL_law_502 ?_
  refine g_cVi (st := [vI y1]) (av := [vI (xi (w32 (l4 + 1)).toNat), vI (xi (w32 (l4 + 2)).toNat), vI (xi (w32 (l4 + 3)).toNat)]) (kX11_way h) kd_300 rfl cw_RL_67 (by decide) (by decide) (Nat.le_of_ble_eq_true rfl) rfl dL_law_503 (fun y3 m4 h => ?_)
  obtain ⟨hA, hB⟩ := h
  refine g_icmp_eq (tgt := 1675) dL_law_506 (by decide) (fun hc => ?_) (fun hc => ?_)
  · replace h := hA hc
    refine g_iinc (lv' := [(4, vI (w32 (l4 + 7))), (0, vX b), (1, vR 0), (2, vR 300), (3, vR 340)]) dL_law_1675 rfl (by decide) rfl ?_
    refine g_loc (a := w32 (l4 + 7)) (i := 4) (lv := [(0, vX b), (1, vR 0), (2, vR 300), (3, vR 340)]) (fun x5 ex5 => ?_)
    replace h := h x5 ex5
    refine g_goto (tgt := 23) dL_law_1678 (by decide) ?_
    refine g_lv (lv' := [(0, vX b), (1, vR 0), (2, vR 300), (3, vR 340), (4, vI x5)]) [1, 2, 3, 4, 0] rfl ?_
    first | exact hK x5 m4 h _ _ (bnd_s0 hb ex5) | exact hK x5 m4 h _ _ (bnd_s1 hb ex5)
  · replace h := hB hc
    refine g_iconst dL_law_509 0 rfl (by decide) ?_
    exact h.elim
set_option maxHeartbeats 4000000 in
theorem blaw_511 (hTr : l.stackTraces = false) (hcap : R.cells = 601024 ∧ R.slots = 7293034) (hX : SXq s A b L xi) (hE : ∀ (k0 n0 : Nat) (σ : Mem) (lv : List (Nat × AV)) {x : Int}, bnd x k0 n0 → GW (p, l, e, R, s, m, args, below, meth, c, Q, D, cy, ad, A, k0, n0) cL_law 8 RL 2048 84000 σ 1682 lv [vI 1]) {K : Int → Mem → Prop} (hK : ∀ (x : Int) (σ : Mem), K x σ → ∀ k0 n0, bnd x k0 n0 → GW (p, l, e, R, s, m, args, below, meth, c, Q, D, cy, ad, A, k0, n0) cL_law 8 RL 2048 84000 σ 23 [(0, vX b), (1, vR 0), (2, vR 300), (3, vR 340), (4, vI x)] []) {l4 : Int} {σ : Mem} {k0 n0 : Nat} (hb : bnd2 l4 k0 n0) (h : wlaw_511 L xi K l4 σ) : GW (p, l, e, R, s, m, args, below, meth, c, Q, D, cy, ad, A, k0, n0) cL_law 8 RL 2048 84000 σ 511 [(0, vX b), (1, vR 0), (2, vR 300), (3, vR 340), (4, vI l4)] [] := by
  unfold wlaw_511 at h
  refine g_aload_n dL_law_511 rfl ?_
  refine g_xload dL_law_512 rfl ?_
  refine g_iload dL_law_513 rfl ?_
  refine g_iconst dL_law_515 1 rfl (by decide) ?_
  refine g_iadd dL_law_516 ?_
  obtain ⟨hin, h⟩ := h
  refine g_sld hX hin dL_law_517 ?_
  refine g_xload dL_law_518 rfl ?_
  refine g_iload dL_law_519 rfl ?_
  refine g_iconst dL_law_521 2 rfl (by decide) ?_
  refine g_iadd dL_law_522 ?_
  obtain ⟨hin, h⟩ := h
  refine g_sld hX hin dL_law_523 ?_
  refine g_cVi (st := []) (av := [vI (xi (w32 (l4 + 1)).toNat), vI (xi (w32 (l4 + 2)).toNat)]) (kX10_reach h) kd_0 rfl cw_RL_68 (by decide) (by decide) (Nat.le_of_ble_eq_true rfl) rfl dL_law_524 (fun y1 m2 h => ?_)
  refine g_aload_n dL_law_527 rfl ?_
  refine g_xload dL_law_528 rfl ?_
  refine g_iload dL_law_529 rfl ?_
  refine g_iconst dL_law_531 1 rfl (by decide) ?_
  refine g_iadd dL_law_532 ?_
  obtain ⟨hin, h⟩ := h
  refine g_sld hX hin dL_law_533 ?_
  refine g_xload dL_law_534 rfl ?_
  refine g_iload dL_law_535 rfl ?_
  refine g_iconst dL_law_537 2 rfl (by decide) ?_
  refine g_iadd dL_law_538 ?_
  obtain ⟨hin, h⟩ := h
  refine g_sld hX hin dL_law_539 ?_
  refine g_cVi (st := [vI y1]) (av := [vI (xi (w32 (l4 + 1)).toNat), vI (xi (w32 (l4 + 2)).toNat)]) (kX11_reach h) kd_300 rfl cw_RL_71 (by decide) (by decide) (Nat.le_of_ble_eq_true rfl) rfl dL_law_540 (fun y3 m4 h => ?_)
  obtain ⟨hA, hB⟩ := h
  refine g_icmp_eq (tgt := 1675) dL_law_543 (by decide) (fun hc => ?_) (fun hc => ?_)
  · replace h := hA hc
    refine g_iinc (lv' := [(4, vI (w32 (l4 + 7))), (0, vX b), (1, vR 0), (2, vR 300), (3, vR 340)]) dL_law_1675 rfl (by decide) rfl ?_
    refine g_loc (a := w32 (l4 + 7)) (i := 4) (lv := [(0, vX b), (1, vR 0), (2, vR 300), (3, vR 340)]) (fun x5 ex5 => ?_)
    replace h := h x5 ex5
    refine g_goto (tgt := 23) dL_law_1678 (by decide) ?_
    refine g_lv (lv' := [(0, vX b), (1, vR 0), (2, vR 300), (3, vR 340), (4, vI x5)]) [1, 2, 3, 4, 0] rfl ?_
    first | exact hK x5 m4 h _ _ (bnd_s0 hb ex5) | exact hK x5 m4 h _ _ (bnd_s1 hb ex5)
  · replace h := hB hc
    refine g_iconst dL_law_546 0 rfl (by decide) ?_
    exact h.elim
set_option maxHeartbeats 4000000 in
theorem blaw_548 (hTr : l.stackTraces = false) (hcap : R.cells = 601024 ∧ R.slots = 7293034) (hX : SXq s A b L xi) (hE : ∀ (k0 n0 : Nat) (σ : Mem) (lv : List (Nat × AV)) {x : Int}, bnd x k0 n0 → GW (p, l, e, R, s, m, args, below, meth, c, Q, D, cy, ad, A, k0, n0) cL_law 8 RL 2048 84000 σ 1682 lv [vI 1]) {K : Int → Mem → Prop} (hK : ∀ (x : Int) (σ : Mem), K x σ → ∀ k0 n0, bnd x k0 n0 → GW (p, l, e, R, s, m, args, below, meth, c, Q, D, cy, ad, A, k0, n0) cL_law 8 RL 2048 84000 σ 23 [(0, vX b), (1, vR 0), (2, vR 300), (3, vR 340), (4, vI x)] []) {l4 : Int} {σ : Mem} {k0 n0 : Nat} (hb : bnd2 l4 k0 n0) (h : wlaw_548 L xi K l4 σ) : GW (p, l, e, R, s, m, args, below, meth, c, Q, D, cy, ad, A, k0, n0) cL_law 8 RL 2048 84000 σ 548 [(0, vX b), (1, vR 0), (2, vR 300), (3, vR 340), (4, vI l4)] [] := by
  unfold wlaw_548 at h
  refine g_aload_n dL_law_548 rfl ?_
  refine g_xload dL_law_549 rfl ?_
  refine g_iload dL_law_550 rfl ?_
  refine g_iconst dL_law_552 1 rfl (by decide) ?_
  refine g_iadd dL_law_553 ?_
  obtain ⟨hin, h⟩ := h
  refine g_sld hX hin dL_law_554 ?_
  refine g_xload dL_law_555 rfl ?_
  refine g_iload dL_law_556 rfl ?_
  refine g_iconst dL_law_558 2 rfl (by decide) ?_
  refine g_iadd dL_law_559 ?_
  obtain ⟨hin, h⟩ := h
  refine g_sld hX hin dL_law_560 ?_
  refine g_cVi (st := []) (av := [vI (xi (w32 (l4 + 1)).toNat), vI (xi (w32 (l4 + 2)).toNat)]) (kX10_most h) kd_0 rfl cw_RL_72 (by decide) (by decide) (Nat.le_of_ble_eq_true rfl) rfl dL_law_561 (fun y1 m2 h => ?_)
  refine g_aload_n dL_law_564 rfl ?_
  refine g_xload dL_law_565 rfl ?_
  refine g_iload dL_law_566 rfl ?_
  refine g_iconst dL_law_568 1 rfl (by decide) ?_
  refine g_iadd dL_law_569 ?_
  obtain ⟨hin, h⟩ := h
  refine g_sld hX hin dL_law_570 ?_
  refine g_xload dL_law_571 rfl ?_
  refine g_iload dL_law_572 rfl ?_
  refine g_iconst dL_law_574 2 rfl (by decide) ?_
  refine g_iadd dL_law_575 ?_
  obtain ⟨hin, h⟩ := h
  refine g_sld hX hin dL_law_576 ?_
  refine g_cVi (st := [vI y1]) (av := [vI (xi (w32 (l4 + 1)).toNat), vI (xi (w32 (l4 + 2)).toNat)]) (kX11_most h) kd_300 rfl cw_RL_75 (by decide) (by decide) (Nat.le_of_ble_eq_true rfl) rfl dL_law_577 (fun y3 m4 h => ?_)
  obtain ⟨hA, hB⟩ := h
  refine g_icmp_eq (tgt := 1675) dL_law_580 (by decide) (fun hc => ?_) (fun hc => ?_)
  · replace h := hA hc
    refine g_iinc (lv' := [(4, vI (w32 (l4 + 7))), (0, vX b), (1, vR 0), (2, vR 300), (3, vR 340)]) dL_law_1675 rfl (by decide) rfl ?_
    refine g_loc (a := w32 (l4 + 7)) (i := 4) (lv := [(0, vX b), (1, vR 0), (2, vR 300), (3, vR 340)]) (fun x5 ex5 => ?_)
    replace h := h x5 ex5
    refine g_goto (tgt := 23) dL_law_1678 (by decide) ?_
    refine g_lv (lv' := [(0, vX b), (1, vR 0), (2, vR 300), (3, vR 340), (4, vI x5)]) [1, 2, 3, 4, 0] rfl ?_
    first | exact hK x5 m4 h _ _ (bnd_s0 hb ex5) | exact hK x5 m4 h _ _ (bnd_s1 hb ex5)
  · replace h := hB hc
    refine g_iconst dL_law_583 0 rfl (by decide) ?_
    exact h.elim
set_option maxHeartbeats 4000000 in
theorem blaw_585 (hTr : l.stackTraces = false) (hcap : R.cells = 601024 ∧ R.slots = 7293034) (hX : SXq s A b L xi) (hE : ∀ (k0 n0 : Nat) (σ : Mem) (lv : List (Nat × AV)) {x : Int}, bnd x k0 n0 → GW (p, l, e, R, s, m, args, below, meth, c, Q, D, cy, ad, A, k0, n0) cL_law 8 RL 2048 84000 σ 1682 lv [vI 1]) {K : Int → Mem → Prop} (hK : ∀ (x : Int) (σ : Mem), K x σ → ∀ k0 n0, bnd x k0 n0 → GW (p, l, e, R, s, m, args, below, meth, c, Q, D, cy, ad, A, k0, n0) cL_law 8 RL 2048 84000 σ 23 [(0, vX b), (1, vR 0), (2, vR 300), (3, vR 340), (4, vI x)] []) {l4 : Int} {σ : Mem} {k0 n0 : Nat} (hb : bnd2 l4 k0 n0) (h : wlaw_585 L xi K l4 σ) : GW (p, l, e, R, s, m, args, below, meth, c, Q, D, cy, ad, A, k0, n0) cL_law 8 RL 2048 84000 σ 585 [(0, vX b), (1, vR 0), (2, vR 300), (3, vR 340), (4, vI l4)] [] := by
  unfold wlaw_585 at h
  refine g_aload_n dL_law_585 rfl ?_
  refine g_cVi (st := []) (av := []) (kX10_ring h) kd_0 rfl cw_RL_76 (by decide) (by decide) (Nat.le_of_ble_eq_true rfl) rfl dL_law_586 (fun y1 m2 h => ?_)
  refine g_aload_n dL_law_589 rfl ?_
  refine g_cVi (st := [vI y1]) (av := []) (kX11_ring h) kd_300 rfl cw_RL_79 (by decide) (by decide) (Nat.le_of_ble_eq_true rfl) rfl dL_law_590 (fun y3 m4 h => ?_)
  obtain ⟨hA, hB⟩ := h
  refine g_icmp_eq (tgt := 1675) dL_law_593 (by decide) (fun hc => ?_) (fun hc => ?_)
  · replace h := hA hc
    refine g_iinc (lv' := [(4, vI (w32 (l4 + 7))), (0, vX b), (1, vR 0), (2, vR 300), (3, vR 340)]) dL_law_1675 rfl (by decide) rfl ?_
    refine g_loc (a := w32 (l4 + 7)) (i := 4) (lv := [(0, vX b), (1, vR 0), (2, vR 300), (3, vR 340)]) (fun x5 ex5 => ?_)
    replace h := h x5 ex5
    refine g_goto (tgt := 23) dL_law_1678 (by decide) ?_
    refine g_lv (lv' := [(0, vX b), (1, vR 0), (2, vR 300), (3, vR 340), (4, vI x5)]) [1, 2, 3, 4, 0] rfl ?_
    first | exact hK x5 m4 h _ _ (bnd_s0 hb ex5) | exact hK x5 m4 h _ _ (bnd_s1 hb ex5)
  · replace h := hB hc
    refine g_iconst dL_law_596 0 rfl (by decide) ?_
    exact h.elim
set_option maxHeartbeats 4000000 in
theorem blaw_598 (hTr : l.stackTraces = false) (hcap : R.cells = 601024 ∧ R.slots = 7293034) (hX : SXq s A b L xi) (hE : ∀ (k0 n0 : Nat) (σ : Mem) (lv : List (Nat × AV)) {x : Int}, bnd x k0 n0 → GW (p, l, e, R, s, m, args, below, meth, c, Q, D, cy, ad, A, k0, n0) cL_law 8 RL 2048 84000 σ 1682 lv [vI 1]) {K : Int → Mem → Prop} (hK : ∀ (x : Int) (σ : Mem), K x σ → ∀ k0 n0, bnd x k0 n0 → GW (p, l, e, R, s, m, args, below, meth, c, Q, D, cy, ad, A, k0, n0) cL_law 8 RL 2048 84000 σ 23 [(0, vX b), (1, vR 0), (2, vR 300), (3, vR 340), (4, vI x)] []) {l4 : Int} {σ : Mem} {k0 n0 : Nat} (hb : bnd2 l4 k0 n0) (h : wlaw_598 L xi K l4 σ) : GW (p, l, e, R, s, m, args, below, meth, c, Q, D, cy, ad, A, k0, n0) cL_law 8 RL 2048 84000 σ 598 [(0, vX b), (1, vR 0), (2, vR 300), (3, vR 340), (4, vI l4)] [] := by
  unfold wlaw_598 at h
  refine g_aload_n dL_law_598 rfl ?_
  refine g_cVi (st := []) (av := []) (kX10_rings h) kd_0 rfl cw_RL_80 (by decide) (by decide) (Nat.le_of_ble_eq_true rfl) rfl dL_law_599 (fun y1 m2 h => ?_)
  refine g_aload_n dL_law_602 rfl ?_
  refine g_cVi (st := [vI y1]) (av := []) (kX11_rings h) kd_300 rfl cw_RL_83 (by decide) (by decide) (Nat.le_of_ble_eq_true rfl) rfl dL_law_603 (fun y3 m4 h => ?_)
  obtain ⟨hA, hB⟩ := h
  refine g_icmp_eq (tgt := 1675) dL_law_606 (by decide) (fun hc => ?_) (fun hc => ?_)
  · replace h := hA hc
    refine g_iinc (lv' := [(4, vI (w32 (l4 + 7))), (0, vX b), (1, vR 0), (2, vR 300), (3, vR 340)]) dL_law_1675 rfl (by decide) rfl ?_
    refine g_loc (a := w32 (l4 + 7)) (i := 4) (lv := [(0, vX b), (1, vR 0), (2, vR 300), (3, vR 340)]) (fun x5 ex5 => ?_)
    replace h := h x5 ex5
    refine g_goto (tgt := 23) dL_law_1678 (by decide) ?_
    refine g_lv (lv' := [(0, vX b), (1, vR 0), (2, vR 300), (3, vR 340), (4, vI x5)]) [1, 2, 3, 4, 0] rfl ?_
    first | exact hK x5 m4 h _ _ (bnd_s0 hb ex5) | exact hK x5 m4 h _ _ (bnd_s1 hb ex5)
  · replace h := hB hc
    refine g_iconst dL_law_609 0 rfl (by decide) ?_
    exact h.elim
set_option maxHeartbeats 4000000 in
theorem blaw_611 (hTr : l.stackTraces = false) (hcap : R.cells = 601024 ∧ R.slots = 7293034) (hX : SXq s A b L xi) (hE : ∀ (k0 n0 : Nat) (σ : Mem) (lv : List (Nat × AV)) {x : Int}, bnd x k0 n0 → GW (p, l, e, R, s, m, args, below, meth, c, Q, D, cy, ad, A, k0, n0) cL_law 8 RL 2048 84000 σ 1682 lv [vI 1]) {K : Int → Mem → Prop} (hK : ∀ (x : Int) (σ : Mem), K x σ → ∀ k0 n0, bnd x k0 n0 → GW (p, l, e, R, s, m, args, below, meth, c, Q, D, cy, ad, A, k0, n0) cL_law 8 RL 2048 84000 σ 23 [(0, vX b), (1, vR 0), (2, vR 300), (3, vR 340), (4, vI x)] []) {l4 : Int} {σ : Mem} {k0 n0 : Nat} (hb : bnd2 l4 k0 n0) (h : wlaw_611 L xi K l4 σ) : GW (p, l, e, R, s, m, args, below, meth, c, Q, D, cy, ad, A, k0, n0) cL_law 8 RL 2048 84000 σ 611 [(0, vX b), (1, vR 0), (2, vR 300), (3, vR 340), (4, vI l4)] [] := by
  unfold wlaw_611 at h
  refine g_aload_n dL_law_611 rfl ?_
  refine g_xload dL_law_612 rfl ?_
  refine g_iload dL_law_613 rfl ?_
  refine g_iconst dL_law_615 1 rfl (by decide) ?_
  refine g_iadd dL_law_616 ?_
  obtain ⟨hin, h⟩ := h
  refine g_sld hX hin dL_law_617 ?_
  refine g_xload dL_law_618 rfl ?_
  refine g_iload dL_law_619 rfl ?_
  refine g_iconst dL_law_621 2 rfl (by decide) ?_
  refine g_iadd dL_law_622 ?_
  obtain ⟨hin, h⟩ := h
  refine g_sld hX hin dL_law_623 ?_
  refine g_xload dL_law_624 rfl ?_
  refine g_iload dL_law_625 rfl ?_
  refine g_iconst dL_law_627 3 rfl (by decide) ?_
  refine g_iadd dL_law_628 ?_
  obtain ⟨hin, h⟩ := h
  refine g_sld hX hin dL_law_629 ?_
  refine g_cVi (st := []) (av := [vI (xi (w32 (l4 + 1)).toNat), vI (xi (w32 (l4 + 2)).toNat), vI (xi (w32 (l4 + 3)).toNat)]) (kX10_pays h) kd_0 rfl cw_RL_84 (by decide) (by decide) (Nat.le_of_ble_eq_true rfl) rfl dL_law_630 (fun y1 m2 h => ?_)
  refine g_aload_n dL_law_633 rfl ?_
  refine g_xload dL_law_634 rfl ?_
  refine g_iload dL_law_635 rfl ?_
  refine g_iconst dL_law_637 1 rfl (by decide) ?_
  refine g_iadd dL_law_638 ?_
  obtain ⟨hin, h⟩ := h
  refine g_sld hX hin dL_law_639 ?_
  refine g_xload dL_law_640 rfl ?_
  refine g_iload dL_law_641 rfl ?_
  refine g_iconst dL_law_643 2 rfl (by decide) ?_
  refine g_iadd dL_law_644 ?_
  obtain ⟨hin, h⟩ := h
  refine g_sld hX hin dL_law_645 ?_
  refine g_xload dL_law_646 rfl ?_
  refine g_iload dL_law_647 rfl ?_
  refine g_iconst dL_law_649 3 rfl (by decide) ?_
  refine g_iadd dL_law_650 ?_
  obtain ⟨hin, h⟩ := h
  refine g_sld hX hin dL_law_651 ?_
  refine g_cVi (st := [vI y1]) (av := [vI (xi (w32 (l4 + 1)).toNat), vI (xi (w32 (l4 + 2)).toNat), vI (xi (w32 (l4 + 3)).toNat)]) (kX11_pays h) kd_300 rfl cw_RL_87 (by decide) (by decide) (Nat.le_of_ble_eq_true rfl) rfl dL_law_652 (fun y3 m4 h => ?_)
  obtain ⟨hA, hB⟩ := h
  refine g_icmp_eq (tgt := 1675) dL_law_655 (by decide) (fun hc => ?_) (fun hc => ?_)
  · replace h := hA hc
    refine g_iinc (lv' := [(4, vI (w32 (l4 + 7))), (0, vX b), (1, vR 0), (2, vR 300), (3, vR 340)]) dL_law_1675 rfl (by decide) rfl ?_
    refine g_loc (a := w32 (l4 + 7)) (i := 4) (lv := [(0, vX b), (1, vR 0), (2, vR 300), (3, vR 340)]) (fun x5 ex5 => ?_)
    replace h := h x5 ex5
    refine g_goto (tgt := 23) dL_law_1678 (by decide) ?_
    refine g_lv (lv' := [(0, vX b), (1, vR 0), (2, vR 300), (3, vR 340), (4, vI x5)]) [1, 2, 3, 4, 0] rfl ?_
    first | exact hK x5 m4 h _ _ (bnd_s0 hb ex5) | exact hK x5 m4 h _ _ (bnd_s1 hb ex5)
  · replace h := hB hc
    refine g_iconst dL_law_658 0 rfl (by decide) ?_
    exact h.elim
set_option maxHeartbeats 4000000 in
theorem blaw_660 (hTr : l.stackTraces = false) (hcap : R.cells = 601024 ∧ R.slots = 7293034) (hX : SXq s A b L xi) (hE : ∀ (k0 n0 : Nat) (σ : Mem) (lv : List (Nat × AV)) {x : Int}, bnd x k0 n0 → GW (p, l, e, R, s, m, args, below, meth, c, Q, D, cy, ad, A, k0, n0) cL_law 8 RL 2048 84000 σ 1682 lv [vI 1]) {K : Int → Mem → Prop} (hK : ∀ (x : Int) (σ : Mem), K x σ → ∀ k0 n0, bnd x k0 n0 → GW (p, l, e, R, s, m, args, below, meth, c, Q, D, cy, ad, A, k0, n0) cL_law 8 RL 2048 84000 σ 23 [(0, vX b), (1, vR 0), (2, vR 300), (3, vR 340), (4, vI x)] []) {l4 : Int} {σ : Mem} {k0 n0 : Nat} (hb : bnd2 l4 k0 n0) (h : wlaw_660 L xi K l4 σ) : GW (p, l, e, R, s, m, args, below, meth, c, Q, D, cy, ad, A, k0, n0) cL_law 8 RL 2048 84000 σ 660 [(0, vX b), (1, vR 0), (2, vR 300), (3, vR 340), (4, vI l4)] [] := by
  unfold wlaw_660 at h
  refine g_aload_n dL_law_660 rfl ?_
  refine g_xload dL_law_661 rfl ?_
  refine g_iload dL_law_662 rfl ?_
  refine g_iconst dL_law_664 1 rfl (by decide) ?_
  refine g_iadd dL_law_665 ?_
  obtain ⟨hin, h⟩ := h
  refine g_sld hX hin dL_law_666 ?_
  refine g_xload dL_law_667 rfl ?_
  refine g_iload dL_law_668 rfl ?_
  refine g_iconst dL_law_670 2 rfl (by decide) ?_
  refine g_iadd dL_law_671 ?_
  obtain ⟨hin, h⟩ := h
  refine g_sld hX hin dL_law_672 ?_
  refine g_xload dL_law_673 rfl ?_
  refine g_iload dL_law_674 rfl ?_
  refine g_iconst dL_law_676 3 rfl (by decide) ?_
  refine g_iadd dL_law_677 ?_
  obtain ⟨hin, h⟩ := h
  refine g_sld hX hin dL_law_678 ?_
  refine g_cVi (st := []) (av := [vI (xi (w32 (l4 + 1)).toNat), vI (xi (w32 (l4 + 2)).toNat), vI (xi (w32 (l4 + 3)).toNat)]) (kX10_whole h) kd_0 rfl cw_RL_88 (by decide) (by decide) (Nat.le_of_ble_eq_true rfl) rfl dL_law_679 (fun y1 m2 h => ?_)
  refine g_aload_n dL_law_682 rfl ?_
  refine g_xload dL_law_683 rfl ?_
  refine g_iload dL_law_684 rfl ?_
  refine g_iconst dL_law_686 1 rfl (by decide) ?_
  refine g_iadd dL_law_687 ?_
  obtain ⟨hin, h⟩ := h
  refine g_sld hX hin dL_law_688 ?_
  refine g_xload dL_law_689 rfl ?_
  refine g_iload dL_law_690 rfl ?_
  refine g_iconst dL_law_692 2 rfl (by decide) ?_
  refine g_iadd dL_law_693 ?_
  obtain ⟨hin, h⟩ := h
  refine g_sld hX hin dL_law_694 ?_
  refine g_xload dL_law_695 rfl ?_
  refine g_iload dL_law_696 rfl ?_
  refine g_iconst dL_law_698 3 rfl (by decide) ?_
  refine g_iadd dL_law_699 ?_
  obtain ⟨hin, h⟩ := h
  refine g_sld hX hin dL_law_700 ?_
  refine g_cVi (st := [vI y1]) (av := [vI (xi (w32 (l4 + 1)).toNat), vI (xi (w32 (l4 + 2)).toNat), vI (xi (w32 (l4 + 3)).toNat)]) (kX11_whole h) kd_300 rfl cw_RL_91 (by decide) (by decide) (Nat.le_of_ble_eq_true rfl) rfl dL_law_701 (fun y3 m4 h => ?_)
  obtain ⟨hA, hB⟩ := h
  refine g_icmp_eq (tgt := 1675) dL_law_704 (by decide) (fun hc => ?_) (fun hc => ?_)
  · replace h := hA hc
    refine g_iinc (lv' := [(4, vI (w32 (l4 + 7))), (0, vX b), (1, vR 0), (2, vR 300), (3, vR 340)]) dL_law_1675 rfl (by decide) rfl ?_
    refine g_loc (a := w32 (l4 + 7)) (i := 4) (lv := [(0, vX b), (1, vR 0), (2, vR 300), (3, vR 340)]) (fun x5 ex5 => ?_)
    replace h := h x5 ex5
    refine g_goto (tgt := 23) dL_law_1678 (by decide) ?_
    refine g_lv (lv' := [(0, vX b), (1, vR 0), (2, vR 300), (3, vR 340), (4, vI x5)]) [1, 2, 3, 4, 0] rfl ?_
    first | exact hK x5 m4 h _ _ (bnd_s0 hb ex5) | exact hK x5 m4 h _ _ (bnd_s1 hb ex5)
  · replace h := hB hc
    refine g_iconst dL_law_707 0 rfl (by decide) ?_
    exact h.elim
set_option maxHeartbeats 4000000 in
theorem blaw_709 (hTr : l.stackTraces = false) (hcap : R.cells = 601024 ∧ R.slots = 7293034) (hX : SXq s A b L xi) (hE : ∀ (k0 n0 : Nat) (σ : Mem) (lv : List (Nat × AV)) {x : Int}, bnd x k0 n0 → GW (p, l, e, R, s, m, args, below, meth, c, Q, D, cy, ad, A, k0, n0) cL_law 8 RL 2048 84000 σ 1682 lv [vI 1]) {K : Int → Mem → Prop} (hK : ∀ (x : Int) (σ : Mem), K x σ → ∀ k0 n0, bnd x k0 n0 → GW (p, l, e, R, s, m, args, below, meth, c, Q, D, cy, ad, A, k0, n0) cL_law 8 RL 2048 84000 σ 23 [(0, vX b), (1, vR 0), (2, vR 300), (3, vR 340), (4, vI x)] []) {l4 : Int} {σ : Mem} {k0 n0 : Nat} (hb : bnd2 l4 k0 n0) (h : wlaw_709 L xi K l4 σ) : GW (p, l, e, R, s, m, args, below, meth, c, Q, D, cy, ad, A, k0, n0) cL_law 8 RL 2048 84000 σ 709 [(0, vX b), (1, vR 0), (2, vR 300), (3, vR 340), (4, vI l4)] [] := by
  unfold wlaw_709 at h
  refine g_aload_n dL_law_709 rfl ?_
  refine g_xload dL_law_710 rfl ?_
  refine g_iload dL_law_711 rfl ?_
  refine g_iconst dL_law_713 1 rfl (by decide) ?_
  refine g_iadd dL_law_714 ?_
  obtain ⟨hin, h⟩ := h
  refine g_sld hX hin dL_law_715 ?_
  refine g_xload dL_law_716 rfl ?_
  refine g_iload dL_law_717 rfl ?_
  refine g_iconst dL_law_719 2 rfl (by decide) ?_
  refine g_iadd dL_law_720 ?_
  obtain ⟨hin, h⟩ := h
  refine g_sld hX hin dL_law_721 ?_
  refine g_xload dL_law_722 rfl ?_
  refine g_iload dL_law_723 rfl ?_
  refine g_iconst dL_law_725 3 rfl (by decide) ?_
  refine g_iadd dL_law_726 ?_
  obtain ⟨hin, h⟩ := h
  refine g_sld hX hin dL_law_727 ?_
  refine g_cVi (st := []) (av := [vI (xi (w32 (l4 + 1)).toNat), vI (xi (w32 (l4 + 2)).toNat), vI (xi (w32 (l4 + 3)).toNat)]) (kX10_holds h) kd_0 rfl cw_RL_92 (by decide) (by decide) (Nat.le_of_ble_eq_true rfl) rfl dL_law_728 (fun y1 m2 h => ?_)
  refine g_aload_n dL_law_731 rfl ?_
  refine g_xload dL_law_732 rfl ?_
  refine g_iload dL_law_733 rfl ?_
  refine g_iconst dL_law_735 1 rfl (by decide) ?_
  refine g_iadd dL_law_736 ?_
  obtain ⟨hin, h⟩ := h
  refine g_sld hX hin dL_law_737 ?_
  refine g_xload dL_law_738 rfl ?_
  refine g_iload dL_law_739 rfl ?_
  refine g_iconst dL_law_741 2 rfl (by decide) ?_
  refine g_iadd dL_law_742 ?_
  obtain ⟨hin, h⟩ := h
  refine g_sld hX hin dL_law_743 ?_
  refine g_xload dL_law_744 rfl ?_
  refine g_iload dL_law_745 rfl ?_
  refine g_iconst dL_law_747 3 rfl (by decide) ?_
  refine g_iadd dL_law_748 ?_
  obtain ⟨hin, h⟩ := h
  refine g_sld hX hin dL_law_749 ?_
  refine g_cVi (st := [vI y1]) (av := [vI (xi (w32 (l4 + 1)).toNat), vI (xi (w32 (l4 + 2)).toNat), vI (xi (w32 (l4 + 3)).toNat)]) (kX11_holds h) kd_300 rfl cw_RL_95 (by decide) (by decide) (Nat.le_of_ble_eq_true rfl) rfl dL_law_750 (fun y3 m4 h => ?_)
  obtain ⟨hA, hB⟩ := h
  refine g_icmp_eq (tgt := 1675) dL_law_753 (by decide) (fun hc => ?_) (fun hc => ?_)
  · replace h := hA hc
    refine g_iinc (lv' := [(4, vI (w32 (l4 + 7))), (0, vX b), (1, vR 0), (2, vR 300), (3, vR 340)]) dL_law_1675 rfl (by decide) rfl ?_
    refine g_loc (a := w32 (l4 + 7)) (i := 4) (lv := [(0, vX b), (1, vR 0), (2, vR 300), (3, vR 340)]) (fun x5 ex5 => ?_)
    replace h := h x5 ex5
    refine g_goto (tgt := 23) dL_law_1678 (by decide) ?_
    refine g_lv (lv' := [(0, vX b), (1, vR 0), (2, vR 300), (3, vR 340), (4, vI x5)]) [1, 2, 3, 4, 0] rfl ?_
    first | exact hK x5 m4 h _ _ (bnd_s0 hb ex5) | exact hK x5 m4 h _ _ (bnd_s1 hb ex5)
  · replace h := hB hc
    refine g_iconst dL_law_756 0 rfl (by decide) ?_
    exact h.elim
set_option maxHeartbeats 4000000 in
theorem blaw_758 (hTr : l.stackTraces = false) (hcap : R.cells = 601024 ∧ R.slots = 7293034) (hX : SXq s A b L xi) (hE : ∀ (k0 n0 : Nat) (σ : Mem) (lv : List (Nat × AV)) {x : Int}, bnd x k0 n0 → GW (p, l, e, R, s, m, args, below, meth, c, Q, D, cy, ad, A, k0, n0) cL_law 8 RL 2048 84000 σ 1682 lv [vI 1]) {K : Int → Mem → Prop} (hK : ∀ (x : Int) (σ : Mem), K x σ → ∀ k0 n0, bnd x k0 n0 → GW (p, l, e, R, s, m, args, below, meth, c, Q, D, cy, ad, A, k0, n0) cL_law 8 RL 2048 84000 σ 23 [(0, vX b), (1, vR 0), (2, vR 300), (3, vR 340), (4, vI x)] []) {l4 : Int} {σ : Mem} {k0 n0 : Nat} (hb : bnd2 l4 k0 n0) (h : wlaw_758 L xi K l4 σ) : GW (p, l, e, R, s, m, args, below, meth, c, Q, D, cy, ad, A, k0, n0) cL_law 8 RL 2048 84000 σ 758 [(0, vX b), (1, vR 0), (2, vR 300), (3, vR 340), (4, vI l4)] [] := by
  unfold wlaw_758 at h
  refine g_aload_n dL_law_758 rfl ?_
  refine g_xload dL_law_759 rfl ?_
  refine g_iload dL_law_760 rfl ?_
  refine g_iconst dL_law_762 1 rfl (by decide) ?_
  refine g_iadd dL_law_763 ?_
  obtain ⟨hin, h⟩ := h
  refine g_sld hX hin dL_law_764 ?_
  refine g_cVi (st := []) (av := [vI (xi (w32 (l4 + 1)).toNat)]) (kX10_makes h) kd_0 rfl cw_RL_96 (by decide) (by decide) (Nat.le_of_ble_eq_true rfl) rfl dL_law_765 (fun y1 m2 h => ?_)
  refine g_aload_n dL_law_768 rfl ?_
  refine g_xload dL_law_769 rfl ?_
  refine g_iload dL_law_770 rfl ?_
  refine g_iconst dL_law_772 1 rfl (by decide) ?_
  refine g_iadd dL_law_773 ?_
  obtain ⟨hin, h⟩ := h
  refine g_sld hX hin dL_law_774 ?_
  refine g_cVi (st := [vI y1]) (av := [vI (xi (w32 (l4 + 1)).toNat)]) (kX11_makes h) kd_300 rfl cw_RL_99 (by decide) (by decide) (Nat.le_of_ble_eq_true rfl) rfl dL_law_775 (fun y3 m4 h => ?_)
  obtain ⟨hA, hB⟩ := h
  refine g_icmp_eq (tgt := 1675) dL_law_778 (by decide) (fun hc => ?_) (fun hc => ?_)
  · replace h := hA hc
    refine g_iinc (lv' := [(4, vI (w32 (l4 + 7))), (0, vX b), (1, vR 0), (2, vR 300), (3, vR 340)]) dL_law_1675 rfl (by decide) rfl ?_
    refine g_loc (a := w32 (l4 + 7)) (i := 4) (lv := [(0, vX b), (1, vR 0), (2, vR 300), (3, vR 340)]) (fun x5 ex5 => ?_)
    replace h := h x5 ex5
    refine g_goto (tgt := 23) dL_law_1678 (by decide) ?_
    refine g_lv (lv' := [(0, vX b), (1, vR 0), (2, vR 300), (3, vR 340), (4, vI x5)]) [1, 2, 3, 4, 0] rfl ?_
    first | exact hK x5 m4 h _ _ (bnd_s0 hb ex5) | exact hK x5 m4 h _ _ (bnd_s1 hb ex5)
  · replace h := hB hc
    refine g_iconst dL_law_781 0 rfl (by decide) ?_
    exact h.elim
set_option maxHeartbeats 4000000 in
theorem blaw_783 (hTr : l.stackTraces = false) (hcap : R.cells = 601024 ∧ R.slots = 7293034) (hX : SXq s A b L xi) (hE : ∀ (k0 n0 : Nat) (σ : Mem) (lv : List (Nat × AV)) {x : Int}, bnd x k0 n0 → GW (p, l, e, R, s, m, args, below, meth, c, Q, D, cy, ad, A, k0, n0) cL_law 8 RL 2048 84000 σ 1682 lv [vI 1]) {K : Int → Mem → Prop} (hK : ∀ (x : Int) (σ : Mem), K x σ → ∀ k0 n0, bnd x k0 n0 → GW (p, l, e, R, s, m, args, below, meth, c, Q, D, cy, ad, A, k0, n0) cL_law 8 RL 2048 84000 σ 23 [(0, vX b), (1, vR 0), (2, vR 300), (3, vR 340), (4, vI x)] []) {l4 : Int} {σ : Mem} {k0 n0 : Nat} (hb : bnd2 l4 k0 n0) (h : wlaw_783 L xi K l4 σ) : GW (p, l, e, R, s, m, args, below, meth, c, Q, D, cy, ad, A, k0, n0) cL_law 8 RL 2048 84000 σ 783 [(0, vX b), (1, vR 0), (2, vR 300), (3, vR 340), (4, vI l4)] [] := by
  unfold wlaw_783 at h
  refine g_aload_n dL_law_783 rfl ?_
  refine g_xload dL_law_784 rfl ?_
  refine g_iload dL_law_785 rfl ?_
  refine g_iconst dL_law_787 1 rfl (by decide) ?_
  refine g_iadd dL_law_788 ?_
  obtain ⟨hin, h⟩ := h
  refine g_sld hX hin dL_law_789 ?_
  refine g_cVi (st := []) (av := [vI (xi (w32 (l4 + 1)).toNat)]) (kX10_letsGo h) kd_0 rfl cw_RL_100 (by decide) (by decide) (Nat.le_of_ble_eq_true rfl) rfl dL_law_790 (fun y1 m2 h => ?_)
  refine g_aload_n dL_law_793 rfl ?_
  refine g_xload dL_law_794 rfl ?_
  refine g_iload dL_law_795 rfl ?_
  refine g_iconst dL_law_797 1 rfl (by decide) ?_
  refine g_iadd dL_law_798 ?_
  obtain ⟨hin, h⟩ := h
  refine g_sld hX hin dL_law_799 ?_
  refine g_cVi (st := [vI y1]) (av := [vI (xi (w32 (l4 + 1)).toNat)]) (kX11_letsGo h) kd_300 rfl cw_RL_103 (by decide) (by decide) (Nat.le_of_ble_eq_true rfl) rfl dL_law_800 (fun y3 m4 h => ?_)
  obtain ⟨hA, hB⟩ := h
  refine g_icmp_eq (tgt := 1675) dL_law_803 (by decide) (fun hc => ?_) (fun hc => ?_)
  · replace h := hA hc
    refine g_iinc (lv' := [(4, vI (w32 (l4 + 7))), (0, vX b), (1, vR 0), (2, vR 300), (3, vR 340)]) dL_law_1675 rfl (by decide) rfl ?_
    refine g_loc (a := w32 (l4 + 7)) (i := 4) (lv := [(0, vX b), (1, vR 0), (2, vR 300), (3, vR 340)]) (fun x5 ex5 => ?_)
    replace h := h x5 ex5
    refine g_goto (tgt := 23) dL_law_1678 (by decide) ?_
    refine g_lv (lv' := [(0, vX b), (1, vR 0), (2, vR 300), (3, vR 340), (4, vI x5)]) [1, 2, 3, 4, 0] rfl ?_
    first | exact hK x5 m4 h _ _ (bnd_s0 hb ex5) | exact hK x5 m4 h _ _ (bnd_s1 hb ex5)
  · replace h := hB hc
    refine g_iconst dL_law_806 0 rfl (by decide) ?_
    exact h.elim
set_option maxHeartbeats 4000000 in
theorem blaw_808 (hTr : l.stackTraces = false) (hcap : R.cells = 601024 ∧ R.slots = 7293034) (hX : SXq s A b L xi) (hE : ∀ (k0 n0 : Nat) (σ : Mem) (lv : List (Nat × AV)) {x : Int}, bnd x k0 n0 → GW (p, l, e, R, s, m, args, below, meth, c, Q, D, cy, ad, A, k0, n0) cL_law 8 RL 2048 84000 σ 1682 lv [vI 1]) {K : Int → Mem → Prop} (hK : ∀ (x : Int) (σ : Mem), K x σ → ∀ k0 n0, bnd x k0 n0 → GW (p, l, e, R, s, m, args, below, meth, c, Q, D, cy, ad, A, k0, n0) cL_law 8 RL 2048 84000 σ 23 [(0, vX b), (1, vR 0), (2, vR 300), (3, vR 340), (4, vI x)] []) {l4 : Int} {σ : Mem} {k0 n0 : Nat} (hb : bnd2 l4 k0 n0) (h : wlaw_808 L xi K l4 σ) : GW (p, l, e, R, s, m, args, below, meth, c, Q, D, cy, ad, A, k0, n0) cL_law 8 RL 2048 84000 σ 808 [(0, vX b), (1, vR 0), (2, vR 300), (3, vR 340), (4, vI l4)] [] := by
  unfold wlaw_808 at h
  refine g_aload_n dL_law_808 rfl ?_
  refine g_xload dL_law_809 rfl ?_
  refine g_iload dL_law_810 rfl ?_
  refine g_iconst dL_law_812 1 rfl (by decide) ?_
  refine g_iadd dL_law_813 ?_
  obtain ⟨hin, h⟩ := h
  refine g_sld hX hin dL_law_814 ?_
  refine g_xload dL_law_815 rfl ?_
  refine g_iload dL_law_816 rfl ?_
  refine g_iconst dL_law_818 2 rfl (by decide) ?_
  refine g_iadd dL_law_819 ?_
  obtain ⟨hin, h⟩ := h
  refine g_sld hX hin dL_law_820 ?_
  refine g_aload_n dL_law_821 rfl ?_
  refine g_cL (st := []) (av := [vR 0, vI (xi (w32 (l4 + 1)).toNat), vI (xi (w32 (l4 + 2)).toNat), vR 340]) hTr (kL_held h) cwh_held (by decide) (by decide) (Nat.le_of_ble_eq_true rfl) rfl dL_law_822 ⟨by have := hb.1; unfold bnd at this; rw [hcap.1]; omega, by have := hb.1; unfold bnd at this; rw [hcap.2]; omega⟩ (fun y1 m2 h => ?_)
  refine g_istore (lv' := [(5, vI y1), (0, vX b), (1, vR 0), (2, vR 300), (3, vR 340), (4, vI l4)]) dL_law_825 (by decide) rfl ?_
  refine g_aload_n dL_law_827 rfl ?_
  refine g_xload dL_law_828 rfl ?_
  refine g_iload dL_law_829 rfl ?_
  refine g_iconst dL_law_831 1 rfl (by decide) ?_
  refine g_iadd dL_law_832 ?_
  obtain ⟨hin, h⟩ := h
  refine g_sld hX hin dL_law_833 ?_
  refine g_xload dL_law_834 rfl ?_
  refine g_iload dL_law_835 rfl ?_
  refine g_iconst dL_law_837 2 rfl (by decide) ?_
  refine g_iadd dL_law_838 ?_
  obtain ⟨hin, h⟩ := h
  refine g_sld hX hin dL_law_839 ?_
  refine g_cVi (st := []) (av := [vI (xi (w32 (l4 + 1)).toNat), vI (xi (w32 (l4 + 2)).toNat)]) (kX11_held h) kd_300 rfl cw_RL_107 (by decide) (by decide) (Nat.le_of_ble_eq_true rfl) rfl dL_law_840 (fun y3 m4 h => ?_)
  refine g_istore (lv' := [(6, vI y3), (5, vI y1), (0, vX b), (1, vR 0), (2, vR 300), (3, vR 340), (4, vI l4)]) dL_law_843 (by decide) rfl ?_
  refine g_aload_n dL_law_845 rfl ?_
  refine g_cVi (st := []) (av := []) (kX11_thrown h) kd_300 rfl cw_RL_56 (by decide) (by decide) (Nat.le_of_ble_eq_true rfl) rfl dL_law_846 (fun y5 m6 h => ?_)
  refine g_iload dL_law_849 rfl ?_
  obtain ⟨hA, hB⟩ := h
  refine g_icmp_eq (tgt := 856) dL_law_851 (by decide) (fun hc => ?_) (fun hc => ?_)
  · replace h := hA hc
    refine g_iload dL_law_856 rfl ?_
    obtain ⟨hA, hB⟩ := h
    refine g_if_ne (tgt := 873) dL_law_858 (by decide) (fun hc => ?_) (fun hc => ?_)
    · replace h := hA hc
      refine g_goto (tgt := 1675) dL_law_873 (by decide) ?_
      refine g_iinc (lv' := [(4, vI (w32 (l4 + 7))), (6, vI y3), (5, vI y1), (0, vX b), (1, vR 0), (2, vR 300), (3, vR 340)]) dL_law_1675 rfl (by decide) rfl ?_
      refine g_loc (a := w32 (l4 + 7)) (i := 4) (lv := [(6, vI y3), (5, vI y1), (0, vX b), (1, vR 0), (2, vR 300), (3, vR 340)]) (fun x7 ex7 => ?_)
      replace h := h x7 ex7
      refine g_goto (tgt := 23) dL_law_1678 (by decide) ?_
      refine g_lv (lv' := [(0, vX b), (1, vR 0), (2, vR 300), (3, vR 340), (4, vI x7)]) [3, 4, 5, 6, 0] rfl ?_
      first | exact hK x7 m6 h _ _ (bnd_s0 hb ex7) | exact hK x7 m6 h _ _ (bnd_s1 hb ex7)
    · replace h := hB hc
      refine g_aload_n dL_law_861 rfl ?_
      refine g_iconst dL_law_862 0 rfl (by decide) ?_
      refine g_lald kd_340 (by decide) dL_law_863 ?_
      refine g_iload dL_law_864 rfl ?_
      refine g_i2l dL_law_866 ?_
      refine g_lcmp dL_law_867 ?_
      obtain ⟨hA, hB⟩ := h
      refine g_if_eq (tgt := 873) dL_law_868 (by decide) (fun hc => ?_) (fun hc => ?_)
      · replace h := hA hc
        refine g_goto (tgt := 1675) dL_law_873 (by decide) ?_
        refine g_iinc (lv' := [(4, vI (w32 (l4 + 7))), (6, vI y3), (5, vI y1), (0, vX b), (1, vR 0), (2, vR 300), (3, vR 340)]) dL_law_1675 rfl (by decide) rfl ?_
        refine g_loc (a := w32 (l4 + 7)) (i := 4) (lv := [(6, vI y3), (5, vI y1), (0, vX b), (1, vR 0), (2, vR 300), (3, vR 340)]) (fun x8 ex8 => ?_)
        replace h := h x8 ex8
        refine g_goto (tgt := 23) dL_law_1678 (by decide) ?_
        refine g_lv (lv' := [(0, vX b), (1, vR 0), (2, vR 300), (3, vR 340), (4, vI x8)]) [3, 4, 5, 6, 0] rfl ?_
        first | exact hK x8 m6 h _ _ (bnd_s0 hb ex8) | exact hK x8 m6 h _ _ (bnd_s1 hb ex8)
      · replace h := hB hc
        refine g_iconst dL_law_871 0 rfl (by decide) ?_
        exact h.elim
  · replace h := hB hc
    refine g_iconst dL_law_854 0 rfl (by decide) ?_
    exact h.elim
set_option maxHeartbeats 4000000 in
theorem blaw_876 (hTr : l.stackTraces = false) (hcap : R.cells = 601024 ∧ R.slots = 7293034) (hX : SXq s A b L xi) (hE : ∀ (k0 n0 : Nat) (σ : Mem) (lv : List (Nat × AV)) {x : Int}, bnd x k0 n0 → GW (p, l, e, R, s, m, args, below, meth, c, Q, D, cy, ad, A, k0, n0) cL_law 8 RL 2048 84000 σ 1682 lv [vI 1]) {K : Int → Mem → Prop} (hK : ∀ (x : Int) (σ : Mem), K x σ → ∀ k0 n0, bnd x k0 n0 → GW (p, l, e, R, s, m, args, below, meth, c, Q, D, cy, ad, A, k0, n0) cL_law 8 RL 2048 84000 σ 23 [(0, vX b), (1, vR 0), (2, vR 300), (3, vR 340), (4, vI x)] []) {l4 : Int} {σ : Mem} {k0 n0 : Nat} (hb : bnd2 l4 k0 n0) (h : wlaw_876 L xi K l4 σ) : GW (p, l, e, R, s, m, args, below, meth, c, Q, D, cy, ad, A, k0, n0) cL_law 8 RL 2048 84000 σ 876 [(0, vX b), (1, vR 0), (2, vR 300), (3, vR 340), (4, vI l4)] [] := by
  unfold wlaw_876 at h
  refine g_aload_n dL_law_876 rfl ?_
  refine g_xload dL_law_877 rfl ?_
  refine g_iload dL_law_878 rfl ?_
  refine g_iconst dL_law_880 1 rfl (by decide) ?_
  refine g_iadd dL_law_881 ?_
  obtain ⟨hin, h⟩ := h
  refine g_sld hX hin dL_law_882 ?_
  refine g_xload dL_law_883 rfl ?_
  refine g_iload dL_law_884 rfl ?_
  refine g_iconst dL_law_886 2 rfl (by decide) ?_
  refine g_iadd dL_law_887 ?_
  obtain ⟨hin, h⟩ := h
  refine g_sld hX hin dL_law_888 ?_
  refine g_xload dL_law_889 rfl ?_
  refine g_iload dL_law_890 rfl ?_
  refine g_iconst dL_law_892 3 rfl (by decide) ?_
  refine g_iadd dL_law_893 ?_
  obtain ⟨hin, h⟩ := h
  refine g_sld hX hin dL_law_894 ?_
  refine g_cVi (st := []) (av := [vI (xi (w32 (l4 + 1)).toNat), vI (xi (w32 (l4 + 2)).toNat), vI (xi (w32 (l4 + 3)).toNat)]) (kX10_mostThen h) kd_0 rfl cw_RL_108 (by decide) (by decide) (Nat.le_of_ble_eq_true rfl) rfl dL_law_895 (fun y1 m2 h => ?_)
  refine g_aload_n dL_law_898 rfl ?_
  refine g_xload dL_law_899 rfl ?_
  refine g_iload dL_law_900 rfl ?_
  refine g_iconst dL_law_902 1 rfl (by decide) ?_
  refine g_iadd dL_law_903 ?_
  obtain ⟨hin, h⟩ := h
  refine g_sld hX hin dL_law_904 ?_
  refine g_xload dL_law_905 rfl ?_
  refine g_iload dL_law_906 rfl ?_
  refine g_iconst dL_law_908 2 rfl (by decide) ?_
  refine g_iadd dL_law_909 ?_
  obtain ⟨hin, h⟩ := h
  refine g_sld hX hin dL_law_910 ?_
  refine g_xload dL_law_911 rfl ?_
  refine g_iload dL_law_912 rfl ?_
  refine g_iconst dL_law_914 3 rfl (by decide) ?_
  refine g_iadd dL_law_915 ?_
  obtain ⟨hin, h⟩ := h
  refine g_sld hX hin dL_law_916 ?_
  refine g_cVi (st := [vI y1]) (av := [vI (xi (w32 (l4 + 1)).toNat), vI (xi (w32 (l4 + 2)).toNat), vI (xi (w32 (l4 + 3)).toNat)]) (kX11_mostThen h) kd_300 rfl cw_RL_111 (by decide) (by decide) (Nat.le_of_ble_eq_true rfl) rfl dL_law_917 (fun y3 m4 h => ?_)
  obtain ⟨hA, hB⟩ := h
  refine g_icmp_eq (tgt := 1675) dL_law_920 (by decide) (fun hc => ?_) (fun hc => ?_)
  · replace h := hA hc
    refine g_iinc (lv' := [(4, vI (w32 (l4 + 7))), (0, vX b), (1, vR 0), (2, vR 300), (3, vR 340)]) dL_law_1675 rfl (by decide) rfl ?_
    refine g_loc (a := w32 (l4 + 7)) (i := 4) (lv := [(0, vX b), (1, vR 0), (2, vR 300), (3, vR 340)]) (fun x5 ex5 => ?_)
    replace h := h x5 ex5
    refine g_goto (tgt := 23) dL_law_1678 (by decide) ?_
    refine g_lv (lv' := [(0, vX b), (1, vR 0), (2, vR 300), (3, vR 340), (4, vI x5)]) [1, 2, 3, 4, 0] rfl ?_
    first | exact hK x5 m4 h _ _ (bnd_s0 hb ex5) | exact hK x5 m4 h _ _ (bnd_s1 hb ex5)
  · replace h := hB hc
    refine g_iconst dL_law_923 0 rfl (by decide) ?_
    exact h.elim
set_option maxHeartbeats 4000000 in
theorem blaw_925 (hTr : l.stackTraces = false) (hcap : R.cells = 601024 ∧ R.slots = 7293034) (hX : SXq s A b L xi) (hE : ∀ (k0 n0 : Nat) (σ : Mem) (lv : List (Nat × AV)) {x : Int}, bnd x k0 n0 → GW (p, l, e, R, s, m, args, below, meth, c, Q, D, cy, ad, A, k0, n0) cL_law 8 RL 2048 84000 σ 1682 lv [vI 1]) {K : Int → Mem → Prop} (hK : ∀ (x : Int) (σ : Mem), K x σ → ∀ k0 n0, bnd x k0 n0 → GW (p, l, e, R, s, m, args, below, meth, c, Q, D, cy, ad, A, k0, n0) cL_law 8 RL 2048 84000 σ 23 [(0, vX b), (1, vR 0), (2, vR 300), (3, vR 340), (4, vI x)] []) {l4 : Int} {σ : Mem} {k0 n0 : Nat} (hb : bnd2 l4 k0 n0) (h : wlaw_925 L xi K l4 σ) : GW (p, l, e, R, s, m, args, below, meth, c, Q, D, cy, ad, A, k0, n0) cL_law 8 RL 2048 84000 σ 925 [(0, vX b), (1, vR 0), (2, vR 300), (3, vR 340), (4, vI l4)] [] := by
  unfold wlaw_925 at h
  refine g_aload_n dL_law_925 rfl ?_
  refine g_cVi (st := []) (av := []) (kX10_batch h) kd_0 rfl cw_RL_112 (by decide) (by decide) (Nat.le_of_ble_eq_true rfl) rfl dL_law_926 (fun y1 m2 h => ?_)
  refine g_aload_n dL_law_929 rfl ?_
  refine g_cVi (st := [vI y1]) (av := []) (kX11_batch h) kd_300 rfl cw_RL_115 (by decide) (by decide) (Nat.le_of_ble_eq_true rfl) rfl dL_law_930 (fun y3 m4 h => ?_)
  obtain ⟨hA, hB⟩ := h
  refine g_icmp_eq (tgt := 1675) dL_law_933 (by decide) (fun hc => ?_) (fun hc => ?_)
  · replace h := hA hc
    refine g_iinc (lv' := [(4, vI (w32 (l4 + 7))), (0, vX b), (1, vR 0), (2, vR 300), (3, vR 340)]) dL_law_1675 rfl (by decide) rfl ?_
    refine g_loc (a := w32 (l4 + 7)) (i := 4) (lv := [(0, vX b), (1, vR 0), (2, vR 300), (3, vR 340)]) (fun x5 ex5 => ?_)
    replace h := h x5 ex5
    refine g_goto (tgt := 23) dL_law_1678 (by decide) ?_
    refine g_lv (lv' := [(0, vX b), (1, vR 0), (2, vR 300), (3, vR 340), (4, vI x5)]) [1, 2, 3, 4, 0] rfl ?_
    first | exact hK x5 m4 h _ _ (bnd_s0 hb ex5) | exact hK x5 m4 h _ _ (bnd_s1 hb ex5)
  · replace h := hB hc
    refine g_iconst dL_law_936 0 rfl (by decide) ?_
    exact h.elim
set_option maxHeartbeats 4000000 in
theorem blaw_938 (hTr : l.stackTraces = false) (hcap : R.cells = 601024 ∧ R.slots = 7293034) (hX : SXq s A b L xi) (hE : ∀ (k0 n0 : Nat) (σ : Mem) (lv : List (Nat × AV)) {x : Int}, bnd x k0 n0 → GW (p, l, e, R, s, m, args, below, meth, c, Q, D, cy, ad, A, k0, n0) cL_law 8 RL 2048 84000 σ 1682 lv [vI 1]) {K : Int → Mem → Prop} (hK : ∀ (x : Int) (σ : Mem), K x σ → ∀ k0 n0, bnd x k0 n0 → GW (p, l, e, R, s, m, args, below, meth, c, Q, D, cy, ad, A, k0, n0) cL_law 8 RL 2048 84000 σ 23 [(0, vX b), (1, vR 0), (2, vR 300), (3, vR 340), (4, vI x)] []) {l4 : Int} {σ : Mem} {k0 n0 : Nat} (hb : bnd2 l4 k0 n0) (h : wlaw_938 L xi K l4 σ) : GW (p, l, e, R, s, m, args, below, meth, c, Q, D, cy, ad, A, k0, n0) cL_law 8 RL 2048 84000 σ 938 [(0, vX b), (1, vR 0), (2, vR 300), (3, vR 340), (4, vI l4)] [] := by
  unfold wlaw_938 at h
  refine g_aload_n dL_law_938 rfl ?_
  refine g_cVi (st := []) (av := []) (kX10_orders h) kd_0 rfl cw_RL_116 (by decide) (by decide) (Nat.le_of_ble_eq_true rfl) rfl dL_law_939 (fun y1 m2 h => ?_)
  refine g_aload_n dL_law_942 rfl ?_
  refine g_cVi (st := [vI y1]) (av := []) (kX11_orders h) kd_300 rfl cw_RL_119 (by decide) (by decide) (Nat.le_of_ble_eq_true rfl) rfl dL_law_943 (fun y3 m4 h => ?_)
  obtain ⟨hA, hB⟩ := h
  refine g_icmp_eq (tgt := 1675) dL_law_946 (by decide) (fun hc => ?_) (fun hc => ?_)
  · replace h := hA hc
    refine g_iinc (lv' := [(4, vI (w32 (l4 + 7))), (0, vX b), (1, vR 0), (2, vR 300), (3, vR 340)]) dL_law_1675 rfl (by decide) rfl ?_
    refine g_loc (a := w32 (l4 + 7)) (i := 4) (lv := [(0, vX b), (1, vR 0), (2, vR 300), (3, vR 340)]) (fun x5 ex5 => ?_)
    replace h := h x5 ex5
    refine g_goto (tgt := 23) dL_law_1678 (by decide) ?_
    refine g_lv (lv' := [(0, vX b), (1, vR 0), (2, vR 300), (3, vR 340), (4, vI x5)]) [1, 2, 3, 4, 0] rfl ?_
    first | exact hK x5 m4 h _ _ (bnd_s0 hb ex5) | exact hK x5 m4 h _ _ (bnd_s1 hb ex5)
  · replace h := hB hc
    refine g_iconst dL_law_949 0 rfl (by decide) ?_
    exact h.elim
set_option maxHeartbeats 4000000 in
theorem blaw_951 (hTr : l.stackTraces = false) (hcap : R.cells = 601024 ∧ R.slots = 7293034) (hX : SXq s A b L xi) (hE : ∀ (k0 n0 : Nat) (σ : Mem) (lv : List (Nat × AV)) {x : Int}, bnd x k0 n0 → GW (p, l, e, R, s, m, args, below, meth, c, Q, D, cy, ad, A, k0, n0) cL_law 8 RL 2048 84000 σ 1682 lv [vI 1]) {K : Int → Mem → Prop} (hK : ∀ (x : Int) (σ : Mem), K x σ → ∀ k0 n0, bnd x k0 n0 → GW (p, l, e, R, s, m, args, below, meth, c, Q, D, cy, ad, A, k0, n0) cL_law 8 RL 2048 84000 σ 23 [(0, vX b), (1, vR 0), (2, vR 300), (3, vR 340), (4, vI x)] []) {l4 : Int} {σ : Mem} {k0 n0 : Nat} (hb : bnd2 l4 k0 n0) (h : wlaw_951 L xi K l4 σ) : GW (p, l, e, R, s, m, args, below, meth, c, Q, D, cy, ad, A, k0, n0) cL_law 8 RL 2048 84000 σ 951 [(0, vX b), (1, vR 0), (2, vR 300), (3, vR 340), (4, vI l4)] [] := by
  unfold wlaw_951 at h
  refine g_aload_n dL_law_951 rfl ?_
  refine g_cVi (st := []) (av := []) (kX10_settles h) kd_0 rfl cw_RL_120 (by decide) (by decide) (Nat.le_of_ble_eq_true rfl) rfl dL_law_952 (fun y1 m2 h => ?_)
  refine g_aload_n dL_law_955 rfl ?_
  refine g_cVi (st := [vI y1]) (av := []) (kX11_settles h) kd_300 rfl cw_RL_123 (by decide) (by decide) (Nat.le_of_ble_eq_true rfl) rfl dL_law_956 (fun y3 m4 h => ?_)
  obtain ⟨hA, hB⟩ := h
  refine g_icmp_eq (tgt := 1675) dL_law_959 (by decide) (fun hc => ?_) (fun hc => ?_)
  · replace h := hA hc
    refine g_iinc (lv' := [(4, vI (w32 (l4 + 7))), (0, vX b), (1, vR 0), (2, vR 300), (3, vR 340)]) dL_law_1675 rfl (by decide) rfl ?_
    refine g_loc (a := w32 (l4 + 7)) (i := 4) (lv := [(0, vX b), (1, vR 0), (2, vR 300), (3, vR 340)]) (fun x5 ex5 => ?_)
    replace h := h x5 ex5
    refine g_goto (tgt := 23) dL_law_1678 (by decide) ?_
    refine g_lv (lv' := [(0, vX b), (1, vR 0), (2, vR 300), (3, vR 340), (4, vI x5)]) [1, 2, 3, 4, 0] rfl ?_
    first | exact hK x5 m4 h _ _ (bnd_s0 hb ex5) | exact hK x5 m4 h _ _ (bnd_s1 hb ex5)
  · replace h := hB hc
    refine g_iconst dL_law_962 0 rfl (by decide) ?_
    exact h.elim
set_option maxHeartbeats 4000000 in
theorem blaw_964 (hTr : l.stackTraces = false) (hcap : R.cells = 601024 ∧ R.slots = 7293034) (hX : SXq s A b L xi) (hE : ∀ (k0 n0 : Nat) (σ : Mem) (lv : List (Nat × AV)) {x : Int}, bnd x k0 n0 → GW (p, l, e, R, s, m, args, below, meth, c, Q, D, cy, ad, A, k0, n0) cL_law 8 RL 2048 84000 σ 1682 lv [vI 1]) {K : Int → Mem → Prop} (hK : ∀ (x : Int) (σ : Mem), K x σ → ∀ k0 n0, bnd x k0 n0 → GW (p, l, e, R, s, m, args, below, meth, c, Q, D, cy, ad, A, k0, n0) cL_law 8 RL 2048 84000 σ 23 [(0, vX b), (1, vR 0), (2, vR 300), (3, vR 340), (4, vI x)] []) {l4 : Int} {σ : Mem} {k0 n0 : Nat} (hb : bnd2 l4 k0 n0) (h : wlaw_964 L xi K l4 σ) : GW (p, l, e, R, s, m, args, below, meth, c, Q, D, cy, ad, A, k0, n0) cL_law 8 RL 2048 84000 σ 964 [(0, vX b), (1, vR 0), (2, vR 300), (3, vR 340), (4, vI l4)] [] := by
  unfold wlaw_964 at h
  refine g_aload_n dL_law_964 rfl ?_
  refine g_xload dL_law_965 rfl ?_
  refine g_iload dL_law_966 rfl ?_
  refine g_iconst dL_law_968 1 rfl (by decide) ?_
  refine g_iadd dL_law_969 ?_
  obtain ⟨hin, h⟩ := h
  refine g_sld hX hin dL_law_970 ?_
  refine g_xload dL_law_971 rfl ?_
  refine g_iload dL_law_972 rfl ?_
  refine g_iconst dL_law_974 2 rfl (by decide) ?_
  refine g_iadd dL_law_975 ?_
  obtain ⟨hin, h⟩ := h
  refine g_sld hX hin dL_law_976 ?_
  refine g_xload dL_law_977 rfl ?_
  refine g_iload dL_law_978 rfl ?_
  refine g_iconst dL_law_980 3 rfl (by decide) ?_
  refine g_iadd dL_law_981 ?_
  obtain ⟨hin, h⟩ := h
  refine g_sld hX hin dL_law_982 ?_
  refine g_cVi (st := []) (av := [vI (xi (w32 (l4 + 1)).toNat), vI (xi (w32 (l4 + 2)).toNat), vI (xi (w32 (l4 + 3)).toNat)]) (kX10_raise h) kd_0 rfl cw_RL_124 (by decide) (by decide) (Nat.le_of_ble_eq_true rfl) rfl dL_law_983 (fun y1 m2 h => ?_)
  refine g_aload_n dL_law_986 rfl ?_
  refine g_xload dL_law_987 rfl ?_
  refine g_iload dL_law_988 rfl ?_
  refine g_iconst dL_law_990 1 rfl (by decide) ?_
  refine g_iadd dL_law_991 ?_
  obtain ⟨hin, h⟩ := h
  refine g_sld hX hin dL_law_992 ?_
  refine g_xload dL_law_993 rfl ?_
  refine g_iload dL_law_994 rfl ?_
  refine g_iconst dL_law_996 2 rfl (by decide) ?_
  refine g_iadd dL_law_997 ?_
  obtain ⟨hin, h⟩ := h
  refine g_sld hX hin dL_law_998 ?_
  refine g_xload dL_law_999 rfl ?_
  refine g_iload dL_law_1000 rfl ?_
  refine g_iconst dL_law_1002 3 rfl (by decide) ?_
  refine g_iadd dL_law_1003 ?_
  obtain ⟨hin, h⟩ := h
  refine g_sld hX hin dL_law_1004 ?_
  refine g_cVi (st := [vI y1]) (av := [vI (xi (w32 (l4 + 1)).toNat), vI (xi (w32 (l4 + 2)).toNat), vI (xi (w32 (l4 + 3)).toNat)]) (kX11_raise h) kd_300 rfl cw_RL_127 (by decide) (by decide) (Nat.le_of_ble_eq_true rfl) rfl dL_law_1005 (fun y3 m4 h => ?_)
  obtain ⟨hA, hB⟩ := h
  refine g_icmp_eq (tgt := 1675) dL_law_1008 (by decide) (fun hc => ?_) (fun hc => ?_)
  · replace h := hA hc
    refine g_iinc (lv' := [(4, vI (w32 (l4 + 7))), (0, vX b), (1, vR 0), (2, vR 300), (3, vR 340)]) dL_law_1675 rfl (by decide) rfl ?_
    refine g_loc (a := w32 (l4 + 7)) (i := 4) (lv := [(0, vX b), (1, vR 0), (2, vR 300), (3, vR 340)]) (fun x5 ex5 => ?_)
    replace h := h x5 ex5
    refine g_goto (tgt := 23) dL_law_1678 (by decide) ?_
    refine g_lv (lv' := [(0, vX b), (1, vR 0), (2, vR 300), (3, vR 340), (4, vI x5)]) [1, 2, 3, 4, 0] rfl ?_
    first | exact hK x5 m4 h _ _ (bnd_s0 hb ex5) | exact hK x5 m4 h _ _ (bnd_s1 hb ex5)
  · replace h := hB hc
    refine g_iconst dL_law_1011 0 rfl (by decide) ?_
    exact h.elim
set_option maxHeartbeats 4000000 in
theorem blaw_1013 (hTr : l.stackTraces = false) (hcap : R.cells = 601024 ∧ R.slots = 7293034) (hX : SXq s A b L xi) (hE : ∀ (k0 n0 : Nat) (σ : Mem) (lv : List (Nat × AV)) {x : Int}, bnd x k0 n0 → GW (p, l, e, R, s, m, args, below, meth, c, Q, D, cy, ad, A, k0, n0) cL_law 8 RL 2048 84000 σ 1682 lv [vI 1]) {K : Int → Mem → Prop} (hK : ∀ (x : Int) (σ : Mem), K x σ → ∀ k0 n0, bnd x k0 n0 → GW (p, l, e, R, s, m, args, below, meth, c, Q, D, cy, ad, A, k0, n0) cL_law 8 RL 2048 84000 σ 23 [(0, vX b), (1, vR 0), (2, vR 300), (3, vR 340), (4, vI x)] []) {l4 : Int} {σ : Mem} {k0 n0 : Nat} (hb : bnd2 l4 k0 n0) (h : wlaw_1013 L xi K l4 σ) : GW (p, l, e, R, s, m, args, below, meth, c, Q, D, cy, ad, A, k0, n0) cL_law 8 RL 2048 84000 σ 1013 [(0, vX b), (1, vR 0), (2, vR 300), (3, vR 340), (4, vI l4)] [] := by
  unfold wlaw_1013 at h
  refine g_aload_n dL_law_1013 rfl ?_
  refine g_xload dL_law_1014 rfl ?_
  refine g_iload dL_law_1015 rfl ?_
  refine g_iconst dL_law_1017 1 rfl (by decide) ?_
  refine g_iadd dL_law_1018 ?_
  obtain ⟨hin, h⟩ := h
  refine g_sld hX hin dL_law_1019 ?_
  refine g_cVi (st := []) (av := [vI (xi (w32 (l4 + 1)).toNat)]) (kX10_fails h) kd_0 rfl cw_RL_128 (by decide) (by decide) (Nat.le_of_ble_eq_true rfl) rfl dL_law_1020 (fun y1 m2 h => ?_)
  refine g_aload_n dL_law_1023 rfl ?_
  refine g_xload dL_law_1024 rfl ?_
  refine g_iload dL_law_1025 rfl ?_
  refine g_iconst dL_law_1027 1 rfl (by decide) ?_
  refine g_iadd dL_law_1028 ?_
  obtain ⟨hin, h⟩ := h
  refine g_sld hX hin dL_law_1029 ?_
  refine g_cVi (st := [vI y1]) (av := [vI (xi (w32 (l4 + 1)).toNat)]) (kX11_fails h) kd_300 rfl cw_RL_131 (by decide) (by decide) (Nat.le_of_ble_eq_true rfl) rfl dL_law_1030 (fun y3 m4 h => ?_)
  obtain ⟨hA, hB⟩ := h
  refine g_icmp_eq (tgt := 1675) dL_law_1033 (by decide) (fun hc => ?_) (fun hc => ?_)
  · replace h := hA hc
    refine g_iinc (lv' := [(4, vI (w32 (l4 + 7))), (0, vX b), (1, vR 0), (2, vR 300), (3, vR 340)]) dL_law_1675 rfl (by decide) rfl ?_
    refine g_loc (a := w32 (l4 + 7)) (i := 4) (lv := [(0, vX b), (1, vR 0), (2, vR 300), (3, vR 340)]) (fun x5 ex5 => ?_)
    replace h := h x5 ex5
    refine g_goto (tgt := 23) dL_law_1678 (by decide) ?_
    refine g_lv (lv' := [(0, vX b), (1, vR 0), (2, vR 300), (3, vR 340), (4, vI x5)]) [1, 2, 3, 4, 0] rfl ?_
    first | exact hK x5 m4 h _ _ (bnd_s0 hb ex5) | exact hK x5 m4 h _ _ (bnd_s1 hb ex5)
  · replace h := hB hc
    refine g_iconst dL_law_1036 0 rfl (by decide) ?_
    exact h.elim
set_option maxHeartbeats 4000000 in
theorem blaw_1038 (hTr : l.stackTraces = false) (hcap : R.cells = 601024 ∧ R.slots = 7293034) (hX : SXq s A b L xi) (hE : ∀ (k0 n0 : Nat) (σ : Mem) (lv : List (Nat × AV)) {x : Int}, bnd x k0 n0 → GW (p, l, e, R, s, m, args, below, meth, c, Q, D, cy, ad, A, k0, n0) cL_law 8 RL 2048 84000 σ 1682 lv [vI 1]) {K : Int → Mem → Prop} (hK : ∀ (x : Int) (σ : Mem), K x σ → ∀ k0 n0, bnd x k0 n0 → GW (p, l, e, R, s, m, args, below, meth, c, Q, D, cy, ad, A, k0, n0) cL_law 8 RL 2048 84000 σ 23 [(0, vX b), (1, vR 0), (2, vR 300), (3, vR 340), (4, vI x)] []) {l4 : Int} {σ : Mem} {k0 n0 : Nat} (hb : bnd2 l4 k0 n0) (h : wlaw_1038 L xi K l4 σ) : GW (p, l, e, R, s, m, args, below, meth, c, Q, D, cy, ad, A, k0, n0) cL_law 8 RL 2048 84000 σ 1038 [(0, vX b), (1, vR 0), (2, vR 300), (3, vR 340), (4, vI l4)] [] := by
  unfold wlaw_1038 at h
  refine g_aload_n dL_law_1038 rfl ?_
  refine g_cVi (st := []) (av := []) (kX10_worst h) kd_0 rfl cw_RL_132 (by decide) (by decide) (Nat.le_of_ble_eq_true rfl) rfl dL_law_1039 (fun y1 m2 h => ?_)
  refine g_aload_n dL_law_1042 rfl ?_
  refine g_cVi (st := [vI y1]) (av := []) (kX11_worst h) kd_300 rfl cw_RL_135 (by decide) (by decide) (Nat.le_of_ble_eq_true rfl) rfl dL_law_1043 (fun y3 m4 h => ?_)
  obtain ⟨hA, hB⟩ := h
  refine g_icmp_eq (tgt := 1675) dL_law_1046 (by decide) (fun hc => ?_) (fun hc => ?_)
  · replace h := hA hc
    refine g_iinc (lv' := [(4, vI (w32 (l4 + 7))), (0, vX b), (1, vR 0), (2, vR 300), (3, vR 340)]) dL_law_1675 rfl (by decide) rfl ?_
    refine g_loc (a := w32 (l4 + 7)) (i := 4) (lv := [(0, vX b), (1, vR 0), (2, vR 300), (3, vR 340)]) (fun x5 ex5 => ?_)
    replace h := h x5 ex5
    refine g_goto (tgt := 23) dL_law_1678 (by decide) ?_
    refine g_lv (lv' := [(0, vX b), (1, vR 0), (2, vR 300), (3, vR 340), (4, vI x5)]) [1, 2, 3, 4, 0] rfl ?_
    first | exact hK x5 m4 h _ _ (bnd_s0 hb ex5) | exact hK x5 m4 h _ _ (bnd_s1 hb ex5)
  · replace h := hB hc
    refine g_iconst dL_law_1049 0 rfl (by decide) ?_
    exact h.elim
set_option maxHeartbeats 4000000 in
theorem blaw_1051 (hTr : l.stackTraces = false) (hcap : R.cells = 601024 ∧ R.slots = 7293034) (hX : SXq s A b L xi) (hE : ∀ (k0 n0 : Nat) (σ : Mem) (lv : List (Nat × AV)) {x : Int}, bnd x k0 n0 → GW (p, l, e, R, s, m, args, below, meth, c, Q, D, cy, ad, A, k0, n0) cL_law 8 RL 2048 84000 σ 1682 lv [vI 1]) {K : Int → Mem → Prop} (hK : ∀ (x : Int) (σ : Mem), K x σ → ∀ k0 n0, bnd x k0 n0 → GW (p, l, e, R, s, m, args, below, meth, c, Q, D, cy, ad, A, k0, n0) cL_law 8 RL 2048 84000 σ 23 [(0, vX b), (1, vR 0), (2, vR 300), (3, vR 340), (4, vI x)] []) {l4 : Int} {σ : Mem} {k0 n0 : Nat} (hb : bnd2 l4 k0 n0) (h : wlaw_1051 L xi K l4 σ) : GW (p, l, e, R, s, m, args, below, meth, c, Q, D, cy, ad, A, k0, n0) cL_law 8 RL 2048 84000 σ 1051 [(0, vX b), (1, vR 0), (2, vR 300), (3, vR 340), (4, vI l4)] [] := by
  unfold wlaw_1051 at h
  refine g_aload_n dL_law_1051 rfl ?_
  refine g_xload dL_law_1052 rfl ?_
  refine g_iload dL_law_1053 rfl ?_
  refine g_iconst dL_law_1055 1 rfl (by decide) ?_
  refine g_iadd dL_law_1056 ?_
  obtain ⟨hin, h⟩ := h
  refine g_sld hX hin dL_law_1057 ?_
  refine g_cVi (st := []) (av := [vI (xi (w32 (l4 + 1)).toNat)]) (kX10_enough h) kd_0 rfl cw_RL_136 (by decide) (by decide) (Nat.le_of_ble_eq_true rfl) rfl dL_law_1058 (fun y1 m2 h => ?_)
  refine g_aload_n dL_law_1061 rfl ?_
  refine g_xload dL_law_1062 rfl ?_
  refine g_iload dL_law_1063 rfl ?_
  refine g_iconst dL_law_1065 1 rfl (by decide) ?_
  refine g_iadd dL_law_1066 ?_
  obtain ⟨hin, h⟩ := h
  refine g_sld hX hin dL_law_1067 ?_
  refine g_cVi (st := [vI y1]) (av := [vI (xi (w32 (l4 + 1)).toNat)]) (kX11_enough h) kd_300 rfl cw_RL_139 (by decide) (by decide) (Nat.le_of_ble_eq_true rfl) rfl dL_law_1068 (fun y3 m4 h => ?_)
  obtain ⟨hA, hB⟩ := h
  refine g_icmp_eq (tgt := 1675) dL_law_1071 (by decide) (fun hc => ?_) (fun hc => ?_)
  · replace h := hA hc
    refine g_iinc (lv' := [(4, vI (w32 (l4 + 7))), (0, vX b), (1, vR 0), (2, vR 300), (3, vR 340)]) dL_law_1675 rfl (by decide) rfl ?_
    refine g_loc (a := w32 (l4 + 7)) (i := 4) (lv := [(0, vX b), (1, vR 0), (2, vR 300), (3, vR 340)]) (fun x5 ex5 => ?_)
    replace h := h x5 ex5
    refine g_goto (tgt := 23) dL_law_1678 (by decide) ?_
    refine g_lv (lv' := [(0, vX b), (1, vR 0), (2, vR 300), (3, vR 340), (4, vI x5)]) [1, 2, 3, 4, 0] rfl ?_
    first | exact hK x5 m4 h _ _ (bnd_s0 hb ex5) | exact hK x5 m4 h _ _ (bnd_s1 hb ex5)
  · replace h := hB hc
    refine g_iconst dL_law_1074 0 rfl (by decide) ?_
    exact h.elim
set_option maxHeartbeats 4000000 in
theorem blaw_1076 (hTr : l.stackTraces = false) (hcap : R.cells = 601024 ∧ R.slots = 7293034) (hX : SXq s A b L xi) (hE : ∀ (k0 n0 : Nat) (σ : Mem) (lv : List (Nat × AV)) {x : Int}, bnd x k0 n0 → GW (p, l, e, R, s, m, args, below, meth, c, Q, D, cy, ad, A, k0, n0) cL_law 8 RL 2048 84000 σ 1682 lv [vI 1]) {K : Int → Mem → Prop} (hK : ∀ (x : Int) (σ : Mem), K x σ → ∀ k0 n0, bnd x k0 n0 → GW (p, l, e, R, s, m, args, below, meth, c, Q, D, cy, ad, A, k0, n0) cL_law 8 RL 2048 84000 σ 23 [(0, vX b), (1, vR 0), (2, vR 300), (3, vR 340), (4, vI x)] []) {l4 : Int} {σ : Mem} {k0 n0 : Nat} (hb : bnd2 l4 k0 n0) (h : wlaw_1076 L xi K l4 σ) : GW (p, l, e, R, s, m, args, below, meth, c, Q, D, cy, ad, A, k0, n0) cL_law 8 RL 2048 84000 σ 1076 [(0, vX b), (1, vR 0), (2, vR 300), (3, vR 340), (4, vI l4)] [] := by
  unfold wlaw_1076 at h
  refine g_aload_n dL_law_1076 rfl ?_
  refine g_xload dL_law_1077 rfl ?_
  refine g_iload dL_law_1078 rfl ?_
  refine g_iconst dL_law_1080 1 rfl (by decide) ?_
  refine g_iadd dL_law_1081 ?_
  obtain ⟨hin, h⟩ := h
  refine g_sld hX hin dL_law_1082 ?_
  refine g_xload dL_law_1083 rfl ?_
  refine g_iload dL_law_1084 rfl ?_
  refine g_iconst dL_law_1086 2 rfl (by decide) ?_
  refine g_iadd dL_law_1087 ?_
  obtain ⟨hin, h⟩ := h
  refine g_sld hX hin dL_law_1088 ?_
  refine g_xload dL_law_1089 rfl ?_
  refine g_iload dL_law_1090 rfl ?_
  refine g_iconst dL_law_1092 3 rfl (by decide) ?_
  refine g_iadd dL_law_1093 ?_
  obtain ⟨hin, h⟩ := h
  refine g_sld hX hin dL_law_1094 ?_
  refine g_cVi (st := []) (av := [vI (xi (w32 (l4 + 1)).toNat), vI (xi (w32 (l4 + 2)).toNat), vI (xi (w32 (l4 + 3)).toNat)]) (kX10_without h) kd_0 rfl cw_RL_140 (by decide) (by decide) (Nat.le_of_ble_eq_true rfl) rfl dL_law_1095 (fun y1 m2 h => ?_)
  refine g_aload_n dL_law_1098 rfl ?_
  refine g_xload dL_law_1099 rfl ?_
  refine g_iload dL_law_1100 rfl ?_
  refine g_iconst dL_law_1102 1 rfl (by decide) ?_
  refine g_iadd dL_law_1103 ?_
  obtain ⟨hin, h⟩ := h
  refine g_sld hX hin dL_law_1104 ?_
  refine g_xload dL_law_1105 rfl ?_
  refine g_iload dL_law_1106 rfl ?_
  refine g_iconst dL_law_1108 2 rfl (by decide) ?_
  refine g_iadd dL_law_1109 ?_
  obtain ⟨hin, h⟩ := h
  refine g_sld hX hin dL_law_1110 ?_
  refine g_xload dL_law_1111 rfl ?_
  refine g_iload dL_law_1112 rfl ?_
  refine g_iconst dL_law_1114 3 rfl (by decide) ?_
  refine g_iadd dL_law_1115 ?_
  obtain ⟨hin, h⟩ := h
  refine g_sld hX hin dL_law_1116 ?_
  refine g_cVi (st := [vI y1]) (av := [vI (xi (w32 (l4 + 1)).toNat), vI (xi (w32 (l4 + 2)).toNat), vI (xi (w32 (l4 + 3)).toNat)]) (kX11_without h) kd_300 rfl cw_RL_143 (by decide) (by decide) (Nat.le_of_ble_eq_true rfl) rfl dL_law_1117 (fun y3 m4 h => ?_)
  obtain ⟨hA, hB⟩ := h
  refine g_icmp_eq (tgt := 1675) dL_law_1120 (by decide) (fun hc => ?_) (fun hc => ?_)
  · replace h := hA hc
    refine g_iinc (lv' := [(4, vI (w32 (l4 + 7))), (0, vX b), (1, vR 0), (2, vR 300), (3, vR 340)]) dL_law_1675 rfl (by decide) rfl ?_
    refine g_loc (a := w32 (l4 + 7)) (i := 4) (lv := [(0, vX b), (1, vR 0), (2, vR 300), (3, vR 340)]) (fun x5 ex5 => ?_)
    replace h := h x5 ex5
    refine g_goto (tgt := 23) dL_law_1678 (by decide) ?_
    refine g_lv (lv' := [(0, vX b), (1, vR 0), (2, vR 300), (3, vR 340), (4, vI x5)]) [1, 2, 3, 4, 0] rfl ?_
    first | exact hK x5 m4 h _ _ (bnd_s0 hb ex5) | exact hK x5 m4 h _ _ (bnd_s1 hb ex5)
  · replace h := hB hc
    refine g_iconst dL_law_1123 0 rfl (by decide) ?_
    exact h.elim
set_option maxHeartbeats 4000000 in
theorem blaw_1125 (hTr : l.stackTraces = false) (hcap : R.cells = 601024 ∧ R.slots = 7293034) (hX : SXq s A b L xi) (hE : ∀ (k0 n0 : Nat) (σ : Mem) (lv : List (Nat × AV)) {x : Int}, bnd x k0 n0 → GW (p, l, e, R, s, m, args, below, meth, c, Q, D, cy, ad, A, k0, n0) cL_law 8 RL 2048 84000 σ 1682 lv [vI 1]) {K : Int → Mem → Prop} (hK : ∀ (x : Int) (σ : Mem), K x σ → ∀ k0 n0, bnd x k0 n0 → GW (p, l, e, R, s, m, args, below, meth, c, Q, D, cy, ad, A, k0, n0) cL_law 8 RL 2048 84000 σ 23 [(0, vX b), (1, vR 0), (2, vR 300), (3, vR 340), (4, vI x)] []) {l4 : Int} {σ : Mem} {k0 n0 : Nat} (hb : bnd2 l4 k0 n0) (h : wlaw_1125 L xi K l4 σ) : GW (p, l, e, R, s, m, args, below, meth, c, Q, D, cy, ad, A, k0, n0) cL_law 8 RL 2048 84000 σ 1125 [(0, vX b), (1, vR 0), (2, vR 300), (3, vR 340), (4, vI l4)] [] := by
  unfold wlaw_1125 at h
  refine g_aload_n dL_law_1125 rfl ?_
  refine g_xload dL_law_1126 rfl ?_
  refine g_iload dL_law_1127 rfl ?_
  refine g_iconst dL_law_1129 1 rfl (by decide) ?_
  refine g_iadd dL_law_1130 ?_
  obtain ⟨hin, h⟩ := h
  refine g_sld hX hin dL_law_1131 ?_
  refine g_xload dL_law_1132 rfl ?_
  refine g_iload dL_law_1133 rfl ?_
  refine g_iconst dL_law_1135 2 rfl (by decide) ?_
  refine g_iadd dL_law_1136 ?_
  obtain ⟨hin, h⟩ := h
  refine g_sld hX hin dL_law_1137 ?_
  refine g_cVi (st := []) (av := [vI (xi (w32 (l4 + 1)).toNat), vI (xi (w32 (l4 + 2)).toNat)]) (kX10_key h) kd_0 rfl cw_RL_144 (by decide) (by decide) (Nat.le_of_ble_eq_true rfl) rfl dL_law_1138 (fun y1 m2 h => ?_)
  refine g_aload_n dL_law_1141 rfl ?_
  refine g_xload dL_law_1142 rfl ?_
  refine g_iload dL_law_1143 rfl ?_
  refine g_iconst dL_law_1145 1 rfl (by decide) ?_
  refine g_iadd dL_law_1146 ?_
  obtain ⟨hin, h⟩ := h
  refine g_sld hX hin dL_law_1147 ?_
  refine g_xload dL_law_1148 rfl ?_
  refine g_iload dL_law_1149 rfl ?_
  refine g_iconst dL_law_1151 2 rfl (by decide) ?_
  refine g_iadd dL_law_1152 ?_
  obtain ⟨hin, h⟩ := h
  refine g_sld hX hin dL_law_1153 ?_
  refine g_cVi (st := [vI y1]) (av := [vI (xi (w32 (l4 + 1)).toNat), vI (xi (w32 (l4 + 2)).toNat)]) (kX11_key h) kd_300 rfl cw_RL_147 (by decide) (by decide) (Nat.le_of_ble_eq_true rfl) rfl dL_law_1154 (fun y3 m4 h => ?_)
  obtain ⟨hA, hB⟩ := h
  refine g_icmp_eq (tgt := 1675) dL_law_1157 (by decide) (fun hc => ?_) (fun hc => ?_)
  · replace h := hA hc
    refine g_iinc (lv' := [(4, vI (w32 (l4 + 7))), (0, vX b), (1, vR 0), (2, vR 300), (3, vR 340)]) dL_law_1675 rfl (by decide) rfl ?_
    refine g_loc (a := w32 (l4 + 7)) (i := 4) (lv := [(0, vX b), (1, vR 0), (2, vR 300), (3, vR 340)]) (fun x5 ex5 => ?_)
    replace h := h x5 ex5
    refine g_goto (tgt := 23) dL_law_1678 (by decide) ?_
    refine g_lv (lv' := [(0, vX b), (1, vR 0), (2, vR 300), (3, vR 340), (4, vI x5)]) [1, 2, 3, 4, 0] rfl ?_
    first | exact hK x5 m4 h _ _ (bnd_s0 hb ex5) | exact hK x5 m4 h _ _ (bnd_s1 hb ex5)
  · replace h := hB hc
    refine g_iconst dL_law_1160 0 rfl (by decide) ?_
    exact h.elim
set_option maxHeartbeats 4000000 in
theorem blaw_1162 (hTr : l.stackTraces = false) (hcap : R.cells = 601024 ∧ R.slots = 7293034) (hX : SXq s A b L xi) (hE : ∀ (k0 n0 : Nat) (σ : Mem) (lv : List (Nat × AV)) {x : Int}, bnd x k0 n0 → GW (p, l, e, R, s, m, args, below, meth, c, Q, D, cy, ad, A, k0, n0) cL_law 8 RL 2048 84000 σ 1682 lv [vI 1]) {K : Int → Mem → Prop} (hK : ∀ (x : Int) (σ : Mem), K x σ → ∀ k0 n0, bnd x k0 n0 → GW (p, l, e, R, s, m, args, below, meth, c, Q, D, cy, ad, A, k0, n0) cL_law 8 RL 2048 84000 σ 23 [(0, vX b), (1, vR 0), (2, vR 300), (3, vR 340), (4, vI x)] []) {l4 : Int} {σ : Mem} {k0 n0 : Nat} (hb : bnd2 l4 k0 n0) (h : wlaw_1162 L xi K l4 σ) : GW (p, l, e, R, s, m, args, below, meth, c, Q, D, cy, ad, A, k0, n0) cL_law 8 RL 2048 84000 σ 1162 [(0, vX b), (1, vR 0), (2, vR 300), (3, vR 340), (4, vI l4)] [] := by
  unfold wlaw_1162 at h
  refine g_aload_n dL_law_1162 rfl ?_
  refine g_xload dL_law_1163 rfl ?_
  refine g_iload dL_law_1164 rfl ?_
  refine g_iconst dL_law_1166 1 rfl (by decide) ?_
  refine g_iadd dL_law_1167 ?_
  obtain ⟨hin, h⟩ := h
  refine g_sld hX hin dL_law_1168 ?_
  refine g_xload dL_law_1169 rfl ?_
  refine g_iload dL_law_1170 rfl ?_
  refine g_iconst dL_law_1172 2 rfl (by decide) ?_
  refine g_iadd dL_law_1173 ?_
  obtain ⟨hin, h⟩ := h
  refine g_sld hX hin dL_law_1174 ?_
  refine g_xload dL_law_1175 rfl ?_
  refine g_iload dL_law_1176 rfl ?_
  refine g_iconst dL_law_1178 3 rfl (by decide) ?_
  refine g_iadd dL_law_1179 ?_
  obtain ⟨hin, h⟩ := h
  refine g_sld hX hin dL_law_1180 ?_
  refine g_xload dL_law_1181 rfl ?_
  refine g_iload dL_law_1182 rfl ?_
  refine g_iconst dL_law_1184 4 rfl (by decide) ?_
  refine g_iadd dL_law_1185 ?_
  obtain ⟨hin, h⟩ := h
  refine g_sld hX hin dL_law_1186 ?_
  refine g_xload dL_law_1187 rfl ?_
  refine g_iload dL_law_1188 rfl ?_
  refine g_iconst dL_law_1190 5 rfl (by decide) ?_
  refine g_iadd dL_law_1191 ?_
  obtain ⟨hin, h⟩ := h
  refine g_sld hX hin dL_law_1192 ?_
  refine g_cVi (st := []) (av := [vI (xi (w32 (l4 + 1)).toNat), vI (xi (w32 (l4 + 2)).toNat), vI (xi (w32 (l4 + 3)).toNat), vI (xi (w32 (l4 + 4)).toNat), vI (xi (w32 (l4 + 5)).toNat)]) (kX10_were h) kd_0 rfl cw_RL_148 (by decide) (by decide) (Nat.le_of_ble_eq_true rfl) rfl dL_law_1193 (fun y1 m2 h => ?_)
  refine g_aload_n dL_law_1196 rfl ?_
  refine g_xload dL_law_1197 rfl ?_
  refine g_iload dL_law_1198 rfl ?_
  refine g_iconst dL_law_1200 1 rfl (by decide) ?_
  refine g_iadd dL_law_1201 ?_
  obtain ⟨hin, h⟩ := h
  refine g_sld hX hin dL_law_1202 ?_
  refine g_xload dL_law_1203 rfl ?_
  refine g_iload dL_law_1204 rfl ?_
  refine g_iconst dL_law_1206 2 rfl (by decide) ?_
  refine g_iadd dL_law_1207 ?_
  obtain ⟨hin, h⟩ := h
  refine g_sld hX hin dL_law_1208 ?_
  refine g_xload dL_law_1209 rfl ?_
  refine g_iload dL_law_1210 rfl ?_
  refine g_iconst dL_law_1212 3 rfl (by decide) ?_
  refine g_iadd dL_law_1213 ?_
  obtain ⟨hin, h⟩ := h
  refine g_sld hX hin dL_law_1214 ?_
  refine g_xload dL_law_1215 rfl ?_
  refine g_iload dL_law_1216 rfl ?_
  refine g_iconst dL_law_1218 4 rfl (by decide) ?_
  refine g_iadd dL_law_1219 ?_
  obtain ⟨hin, h⟩ := h
  refine g_sld hX hin dL_law_1220 ?_
  refine g_xload dL_law_1221 rfl ?_
  refine g_iload dL_law_1222 rfl ?_
  refine g_iconst dL_law_1224 5 rfl (by decide) ?_
  refine g_iadd dL_law_1225 ?_
  obtain ⟨hin, h⟩ := h
  refine g_sld hX hin dL_law_1226 ?_
  refine g_cVi (st := [vI y1]) (av := [vI (xi (w32 (l4 + 1)).toNat), vI (xi (w32 (l4 + 2)).toNat), vI (xi (w32 (l4 + 3)).toNat), vI (xi (w32 (l4 + 4)).toNat), vI (xi (w32 (l4 + 5)).toNat)]) (kX11_were h) kd_300 rfl cw_RL_151 (by decide) (by decide) (Nat.le_of_ble_eq_true rfl) rfl dL_law_1227 (fun y3 m4 h => ?_)
  obtain ⟨hA, hB⟩ := h
  refine g_icmp_eq (tgt := 1675) dL_law_1230 (by decide) (fun hc => ?_) (fun hc => ?_)
  · replace h := hA hc
    refine g_iinc (lv' := [(4, vI (w32 (l4 + 7))), (0, vX b), (1, vR 0), (2, vR 300), (3, vR 340)]) dL_law_1675 rfl (by decide) rfl ?_
    refine g_loc (a := w32 (l4 + 7)) (i := 4) (lv := [(0, vX b), (1, vR 0), (2, vR 300), (3, vR 340)]) (fun x5 ex5 => ?_)
    replace h := h x5 ex5
    refine g_goto (tgt := 23) dL_law_1678 (by decide) ?_
    refine g_lv (lv' := [(0, vX b), (1, vR 0), (2, vR 300), (3, vR 340), (4, vI x5)]) [1, 2, 3, 4, 0] rfl ?_
    first | exact hK x5 m4 h _ _ (bnd_s0 hb ex5) | exact hK x5 m4 h _ _ (bnd_s1 hb ex5)
  · replace h := hB hc
    refine g_iconst dL_law_1233 0 rfl (by decide) ?_
    exact h.elim
set_option maxHeartbeats 4000000 in
theorem blaw_1235 (hTr : l.stackTraces = false) (hcap : R.cells = 601024 ∧ R.slots = 7293034) (hX : SXq s A b L xi) (hE : ∀ (k0 n0 : Nat) (σ : Mem) (lv : List (Nat × AV)) {x : Int}, bnd x k0 n0 → GW (p, l, e, R, s, m, args, below, meth, c, Q, D, cy, ad, A, k0, n0) cL_law 8 RL 2048 84000 σ 1682 lv [vI 1]) {K : Int → Mem → Prop} (hK : ∀ (x : Int) (σ : Mem), K x σ → ∀ k0 n0, bnd x k0 n0 → GW (p, l, e, R, s, m, args, below, meth, c, Q, D, cy, ad, A, k0, n0) cL_law 8 RL 2048 84000 σ 23 [(0, vX b), (1, vR 0), (2, vR 300), (3, vR 340), (4, vI x)] []) {l4 : Int} {σ : Mem} {k0 n0 : Nat} (hb : bnd2 l4 k0 n0) (h : wlaw_1235 L xi K l4 σ) : GW (p, l, e, R, s, m, args, below, meth, c, Q, D, cy, ad, A, k0, n0) cL_law 8 RL 2048 84000 σ 1235 [(0, vX b), (1, vR 0), (2, vR 300), (3, vR 340), (4, vI l4)] [] := by
  unfold wlaw_1235 at h
  refine g_aload_n dL_law_1235 rfl ?_
  refine g_xload dL_law_1236 rfl ?_
  refine g_iload dL_law_1237 rfl ?_
  refine g_iconst dL_law_1239 1 rfl (by decide) ?_
  refine g_iadd dL_law_1240 ?_
  obtain ⟨hin, h⟩ := h
  refine g_sld hX hin dL_law_1241 ?_
  refine g_xload dL_law_1242 rfl ?_
  refine g_iload dL_law_1243 rfl ?_
  refine g_iconst dL_law_1245 2 rfl (by decide) ?_
  refine g_iadd dL_law_1246 ?_
  obtain ⟨hin, h⟩ := h
  refine g_sld hX hin dL_law_1247 ?_
  refine g_xload dL_law_1248 rfl ?_
  refine g_iload dL_law_1249 rfl ?_
  refine g_iconst dL_law_1251 3 rfl (by decide) ?_
  refine g_iadd dL_law_1252 ?_
  obtain ⟨hin, h⟩ := h
  refine g_sld hX hin dL_law_1253 ?_
  refine g_xload dL_law_1254 rfl ?_
  refine g_iload dL_law_1255 rfl ?_
  refine g_iconst dL_law_1257 4 rfl (by decide) ?_
  refine g_iadd dL_law_1258 ?_
  obtain ⟨hin, h⟩ := h
  refine g_sld hX hin dL_law_1259 ?_
  refine g_xload dL_law_1260 rfl ?_
  refine g_iload dL_law_1261 rfl ?_
  refine g_iconst dL_law_1263 5 rfl (by decide) ?_
  refine g_iadd dL_law_1264 ?_
  obtain ⟨hin, h⟩ := h
  refine g_sld hX hin dL_law_1265 ?_
  refine g_xload dL_law_1266 rfl ?_
  refine g_iload dL_law_1267 rfl ?_
  refine g_bipush dL_law_1269 6 rfl (by decide) ?_
  refine g_iadd dL_law_1271 ?_
  obtain ⟨hin, h⟩ := h
  refine g_sld hX hin dL_law_1272 ?_
  refine g_cVi (st := []) (av := [vI (xi (w32 (l4 + 1)).toNat), vI (xi (w32 (l4 + 2)).toNat), vI (xi (w32 (l4 + 3)).toNat), vI (xi (w32 (l4 + 4)).toNat), vI (xi (w32 (l4 + 5)).toNat), vI (xi (w32 (l4 + 6)).toNat)]) (kX10_both h) kd_0 rfl cw_RL_152 (by decide) (by decide) (Nat.le_of_ble_eq_true rfl) rfl dL_law_1273 (fun y1 m2 h => ?_)
  refine g_aload_n dL_law_1276 rfl ?_
  refine g_xload dL_law_1277 rfl ?_
  refine g_iload dL_law_1278 rfl ?_
  refine g_iconst dL_law_1280 1 rfl (by decide) ?_
  refine g_iadd dL_law_1281 ?_
  obtain ⟨hin, h⟩ := h
  refine g_sld hX hin dL_law_1282 ?_
  refine g_xload dL_law_1283 rfl ?_
  refine g_iload dL_law_1284 rfl ?_
  refine g_iconst dL_law_1286 2 rfl (by decide) ?_
  refine g_iadd dL_law_1287 ?_
  obtain ⟨hin, h⟩ := h
  refine g_sld hX hin dL_law_1288 ?_
  refine g_xload dL_law_1289 rfl ?_
  refine g_iload dL_law_1290 rfl ?_
  refine g_iconst dL_law_1292 3 rfl (by decide) ?_
  refine g_iadd dL_law_1293 ?_
  obtain ⟨hin, h⟩ := h
  refine g_sld hX hin dL_law_1294 ?_
  refine g_xload dL_law_1295 rfl ?_
  refine g_iload dL_law_1296 rfl ?_
  refine g_iconst dL_law_1298 4 rfl (by decide) ?_
  refine g_iadd dL_law_1299 ?_
  obtain ⟨hin, h⟩ := h
  refine g_sld hX hin dL_law_1300 ?_
  refine g_xload dL_law_1301 rfl ?_
  refine g_iload dL_law_1302 rfl ?_
  refine g_iconst dL_law_1304 5 rfl (by decide) ?_
  refine g_iadd dL_law_1305 ?_
  obtain ⟨hin, h⟩ := h
  refine g_sld hX hin dL_law_1306 ?_
  refine g_xload dL_law_1307 rfl ?_
  refine g_iload dL_law_1308 rfl ?_
  refine g_bipush dL_law_1310 6 rfl (by decide) ?_
  refine g_iadd dL_law_1312 ?_
  obtain ⟨hin, h⟩ := h
  refine g_sld hX hin dL_law_1313 ?_
  refine g_cVi (st := [vI y1]) (av := [vI (xi (w32 (l4 + 1)).toNat), vI (xi (w32 (l4 + 2)).toNat), vI (xi (w32 (l4 + 3)).toNat), vI (xi (w32 (l4 + 4)).toNat), vI (xi (w32 (l4 + 5)).toNat), vI (xi (w32 (l4 + 6)).toNat)]) (kX11_both h) kd_300 rfl cw_RL_156 (by decide) (by decide) (Nat.le_of_ble_eq_true rfl) rfl dL_law_1314 (fun y3 m4 h => ?_)
  obtain ⟨hA, hB⟩ := h
  refine g_icmp_eq (tgt := 1675) dL_law_1317 (by decide) (fun hc => ?_) (fun hc => ?_)
  · replace h := hA hc
    refine g_iinc (lv' := [(4, vI (w32 (l4 + 7))), (0, vX b), (1, vR 0), (2, vR 300), (3, vR 340)]) dL_law_1675 rfl (by decide) rfl ?_
    refine g_loc (a := w32 (l4 + 7)) (i := 4) (lv := [(0, vX b), (1, vR 0), (2, vR 300), (3, vR 340)]) (fun x5 ex5 => ?_)
    replace h := h x5 ex5
    refine g_goto (tgt := 23) dL_law_1678 (by decide) ?_
    refine g_lv (lv' := [(0, vX b), (1, vR 0), (2, vR 300), (3, vR 340), (4, vI x5)]) [1, 2, 3, 4, 0] rfl ?_
    first | exact hK x5 m4 h _ _ (bnd_s0 hb ex5) | exact hK x5 m4 h _ _ (bnd_s1 hb ex5)
  · replace h := hB hc
    refine g_iconst dL_law_1320 0 rfl (by decide) ?_
    exact h.elim
set_option maxHeartbeats 4000000 in
theorem blaw_1322 (hTr : l.stackTraces = false) (hcap : R.cells = 601024 ∧ R.slots = 7293034) (hX : SXq s A b L xi) (hE : ∀ (k0 n0 : Nat) (σ : Mem) (lv : List (Nat × AV)) {x : Int}, bnd x k0 n0 → GW (p, l, e, R, s, m, args, below, meth, c, Q, D, cy, ad, A, k0, n0) cL_law 8 RL 2048 84000 σ 1682 lv [vI 1]) {K : Int → Mem → Prop} (hK : ∀ (x : Int) (σ : Mem), K x σ → ∀ k0 n0, bnd x k0 n0 → GW (p, l, e, R, s, m, args, below, meth, c, Q, D, cy, ad, A, k0, n0) cL_law 8 RL 2048 84000 σ 23 [(0, vX b), (1, vR 0), (2, vR 300), (3, vR 340), (4, vI x)] []) {l4 : Int} {σ : Mem} {k0 n0 : Nat} (hb : bnd2 l4 k0 n0) (h : wlaw_1322 L xi K l4 σ) : GW (p, l, e, R, s, m, args, below, meth, c, Q, D, cy, ad, A, k0, n0) cL_law 8 RL 2048 84000 σ 1322 [(0, vX b), (1, vR 0), (2, vR 300), (3, vR 340), (4, vI l4)] [] := by
  unfold wlaw_1322 at h
  refine g_aload_n dL_law_1322 rfl ?_
  refine g_xload dL_law_1323 rfl ?_
  refine g_iload dL_law_1324 rfl ?_
  refine g_iconst dL_law_1326 1 rfl (by decide) ?_
  refine g_iadd dL_law_1327 ?_
  obtain ⟨hin, h⟩ := h
  refine g_sld hX hin dL_law_1328 ?_
  refine g_xload dL_law_1329 rfl ?_
  refine g_iload dL_law_1330 rfl ?_
  refine g_iconst dL_law_1332 2 rfl (by decide) ?_
  refine g_iadd dL_law_1333 ?_
  obtain ⟨hin, h⟩ := h
  refine g_sld hX hin dL_law_1334 ?_
  refine g_xload dL_law_1335 rfl ?_
  refine g_iload dL_law_1336 rfl ?_
  refine g_iconst dL_law_1338 3 rfl (by decide) ?_
  refine g_iadd dL_law_1339 ?_
  obtain ⟨hin, h⟩ := h
  refine g_sld hX hin dL_law_1340 ?_
  refine g_cVi (st := []) (av := [vI (xi (w32 (l4 + 1)).toNat), vI (xi (w32 (l4 + 2)).toNat), vI (xi (w32 (l4 + 3)).toNat)]) (kX10_limits h) kd_0 rfl cw_RL_157 (by decide) (by decide) (Nat.le_of_ble_eq_true rfl) rfl dL_law_1341 (fun y1 m2 h => ?_)
  refine g_aload_n dL_law_1344 rfl ?_
  refine g_xload dL_law_1345 rfl ?_
  refine g_iload dL_law_1346 rfl ?_
  refine g_iconst dL_law_1348 1 rfl (by decide) ?_
  refine g_iadd dL_law_1349 ?_
  obtain ⟨hin, h⟩ := h
  refine g_sld hX hin dL_law_1350 ?_
  refine g_xload dL_law_1351 rfl ?_
  refine g_iload dL_law_1352 rfl ?_
  refine g_iconst dL_law_1354 2 rfl (by decide) ?_
  refine g_iadd dL_law_1355 ?_
  obtain ⟨hin, h⟩ := h
  refine g_sld hX hin dL_law_1356 ?_
  refine g_xload dL_law_1357 rfl ?_
  refine g_iload dL_law_1358 rfl ?_
  refine g_iconst dL_law_1360 3 rfl (by decide) ?_
  refine g_iadd dL_law_1361 ?_
  obtain ⟨hin, h⟩ := h
  refine g_sld hX hin dL_law_1362 ?_
  refine g_cVi (st := [vI y1]) (av := [vI (xi (w32 (l4 + 1)).toNat), vI (xi (w32 (l4 + 2)).toNat), vI (xi (w32 (l4 + 3)).toNat)]) (kX11_limits h) kd_300 rfl cw_RL_160 (by decide) (by decide) (Nat.le_of_ble_eq_true rfl) rfl dL_law_1363 (fun y3 m4 h => ?_)
  obtain ⟨hA, hB⟩ := h
  refine g_icmp_eq (tgt := 1675) dL_law_1366 (by decide) (fun hc => ?_) (fun hc => ?_)
  · replace h := hA hc
    refine g_iinc (lv' := [(4, vI (w32 (l4 + 7))), (0, vX b), (1, vR 0), (2, vR 300), (3, vR 340)]) dL_law_1675 rfl (by decide) rfl ?_
    refine g_loc (a := w32 (l4 + 7)) (i := 4) (lv := [(0, vX b), (1, vR 0), (2, vR 300), (3, vR 340)]) (fun x5 ex5 => ?_)
    replace h := h x5 ex5
    refine g_goto (tgt := 23) dL_law_1678 (by decide) ?_
    refine g_lv (lv' := [(0, vX b), (1, vR 0), (2, vR 300), (3, vR 340), (4, vI x5)]) [1, 2, 3, 4, 0] rfl ?_
    first | exact hK x5 m4 h _ _ (bnd_s0 hb ex5) | exact hK x5 m4 h _ _ (bnd_s1 hb ex5)
  · replace h := hB hc
    refine g_iconst dL_law_1369 0 rfl (by decide) ?_
    exact h.elim
set_option maxHeartbeats 4000000 in
theorem blaw_1371 (hTr : l.stackTraces = false) (hcap : R.cells = 601024 ∧ R.slots = 7293034) (hX : SXq s A b L xi) (hE : ∀ (k0 n0 : Nat) (σ : Mem) (lv : List (Nat × AV)) {x : Int}, bnd x k0 n0 → GW (p, l, e, R, s, m, args, below, meth, c, Q, D, cy, ad, A, k0, n0) cL_law 8 RL 2048 84000 σ 1682 lv [vI 1]) {K : Int → Mem → Prop} (hK : ∀ (x : Int) (σ : Mem), K x σ → ∀ k0 n0, bnd x k0 n0 → GW (p, l, e, R, s, m, args, below, meth, c, Q, D, cy, ad, A, k0, n0) cL_law 8 RL 2048 84000 σ 23 [(0, vX b), (1, vR 0), (2, vR 300), (3, vR 340), (4, vI x)] []) {l4 : Int} {σ : Mem} {k0 n0 : Nat} (hb : bnd2 l4 k0 n0) (h : wlaw_1371 L xi K l4 σ) : GW (p, l, e, R, s, m, args, below, meth, c, Q, D, cy, ad, A, k0, n0) cL_law 8 RL 2048 84000 σ 1371 [(0, vX b), (1, vR 0), (2, vR 300), (3, vR 340), (4, vI l4)] [] := by
  unfold wlaw_1371 at h
  refine g_aload_n dL_law_1371 rfl ?_
  refine g_xload dL_law_1372 rfl ?_
  refine g_iload dL_law_1373 rfl ?_
  refine g_iconst dL_law_1375 1 rfl (by decide) ?_
  refine g_iadd dL_law_1376 ?_
  obtain ⟨hin, h⟩ := h
  refine g_sld hX hin dL_law_1377 ?_
  refine g_xload dL_law_1378 rfl ?_
  refine g_iload dL_law_1379 rfl ?_
  refine g_iconst dL_law_1381 2 rfl (by decide) ?_
  refine g_iadd dL_law_1382 ?_
  obtain ⟨hin, h⟩ := h
  refine g_sld hX hin dL_law_1383 ?_
  refine g_cVi (st := []) (av := [vI (xi (w32 (l4 + 1)).toNat), vI (xi (w32 (l4 + 2)).toNat)]) (kX10_stocks h) kd_0 rfl cw_RL_161 (by decide) (by decide) (Nat.le_of_ble_eq_true rfl) rfl dL_law_1384 (fun y1 m2 h => ?_)
  refine g_aload_n dL_law_1387 rfl ?_
  refine g_xload dL_law_1388 rfl ?_
  refine g_iload dL_law_1389 rfl ?_
  refine g_iconst dL_law_1391 1 rfl (by decide) ?_
  refine g_iadd dL_law_1392 ?_
  obtain ⟨hin, h⟩ := h
  refine g_sld hX hin dL_law_1393 ?_
  refine g_xload dL_law_1394 rfl ?_
  refine g_iload dL_law_1395 rfl ?_
  refine g_iconst dL_law_1397 2 rfl (by decide) ?_
  refine g_iadd dL_law_1398 ?_
  obtain ⟨hin, h⟩ := h
  refine g_sld hX hin dL_law_1399 ?_
  refine g_cVi (st := [vI y1]) (av := [vI (xi (w32 (l4 + 1)).toNat), vI (xi (w32 (l4 + 2)).toNat)]) (kX11_stocks h) kd_300 rfl cw_RL_164 (by decide) (by decide) (Nat.le_of_ble_eq_true rfl) rfl dL_law_1400 (fun y3 m4 h => ?_)
  obtain ⟨hA, hB⟩ := h
  refine g_icmp_eq (tgt := 1675) dL_law_1403 (by decide) (fun hc => ?_) (fun hc => ?_)
  · replace h := hA hc
    refine g_iinc (lv' := [(4, vI (w32 (l4 + 7))), (0, vX b), (1, vR 0), (2, vR 300), (3, vR 340)]) dL_law_1675 rfl (by decide) rfl ?_
    refine g_loc (a := w32 (l4 + 7)) (i := 4) (lv := [(0, vX b), (1, vR 0), (2, vR 300), (3, vR 340)]) (fun x5 ex5 => ?_)
    replace h := h x5 ex5
    refine g_goto (tgt := 23) dL_law_1678 (by decide) ?_
    refine g_lv (lv' := [(0, vX b), (1, vR 0), (2, vR 300), (3, vR 340), (4, vI x5)]) [1, 2, 3, 4, 0] rfl ?_
    first | exact hK x5 m4 h _ _ (bnd_s0 hb ex5) | exact hK x5 m4 h _ _ (bnd_s1 hb ex5)
  · replace h := hB hc
    refine g_iconst dL_law_1406 0 rfl (by decide) ?_
    exact h.elim
set_option maxHeartbeats 4000000 in
theorem blaw_1408 (hTr : l.stackTraces = false) (hcap : R.cells = 601024 ∧ R.slots = 7293034) (hX : SXq s A b L xi) (hE : ∀ (k0 n0 : Nat) (σ : Mem) (lv : List (Nat × AV)) {x : Int}, bnd x k0 n0 → GW (p, l, e, R, s, m, args, below, meth, c, Q, D, cy, ad, A, k0, n0) cL_law 8 RL 2048 84000 σ 1682 lv [vI 1]) {K : Int → Mem → Prop} (hK : ∀ (x : Int) (σ : Mem), K x σ → ∀ k0 n0, bnd x k0 n0 → GW (p, l, e, R, s, m, args, below, meth, c, Q, D, cy, ad, A, k0, n0) cL_law 8 RL 2048 84000 σ 23 [(0, vX b), (1, vR 0), (2, vR 300), (3, vR 340), (4, vI x)] []) {l4 : Int} {σ : Mem} {k0 n0 : Nat} (hb : bnd2 l4 k0 n0) (h : wlaw_1408 L xi K l4 σ) : GW (p, l, e, R, s, m, args, below, meth, c, Q, D, cy, ad, A, k0, n0) cL_law 8 RL 2048 84000 σ 1408 [(0, vX b), (1, vR 0), (2, vR 300), (3, vR 340), (4, vI l4)] [] := by
  unfold wlaw_1408 at h
  refine g_aload_n dL_law_1408 rfl ?_
  refine g_xload dL_law_1409 rfl ?_
  refine g_iload dL_law_1410 rfl ?_
  refine g_iconst dL_law_1412 1 rfl (by decide) ?_
  refine g_iadd dL_law_1413 ?_
  obtain ⟨hin, h⟩ := h
  refine g_sld hX hin dL_law_1414 ?_
  refine g_xload dL_law_1415 rfl ?_
  refine g_iload dL_law_1416 rfl ?_
  refine g_iconst dL_law_1418 2 rfl (by decide) ?_
  refine g_iadd dL_law_1419 ?_
  obtain ⟨hin, h⟩ := h
  refine g_sld hX hin dL_law_1420 ?_
  refine g_xload dL_law_1421 rfl ?_
  refine g_iload dL_law_1422 rfl ?_
  refine g_iconst dL_law_1424 3 rfl (by decide) ?_
  refine g_iadd dL_law_1425 ?_
  obtain ⟨hin, h⟩ := h
  refine g_sld hX hin dL_law_1426 ?_
  refine g_cVi (st := []) (av := [vI (xi (w32 (l4 + 1)).toNat), vI (xi (w32 (l4 + 2)).toNat), vI (xi (w32 (l4 + 3)).toNat)]) (kX10_lets h) kd_0 rfl cw_RL_165 (by decide) (by decide) (Nat.le_of_ble_eq_true rfl) rfl dL_law_1427 (fun y1 m2 h => ?_)
  refine g_aload_n dL_law_1430 rfl ?_
  refine g_xload dL_law_1431 rfl ?_
  refine g_iload dL_law_1432 rfl ?_
  refine g_iconst dL_law_1434 1 rfl (by decide) ?_
  refine g_iadd dL_law_1435 ?_
  obtain ⟨hin, h⟩ := h
  refine g_sld hX hin dL_law_1436 ?_
  refine g_xload dL_law_1437 rfl ?_
  refine g_iload dL_law_1438 rfl ?_
  refine g_iconst dL_law_1440 2 rfl (by decide) ?_
  refine g_iadd dL_law_1441 ?_
  obtain ⟨hin, h⟩ := h
  refine g_sld hX hin dL_law_1442 ?_
  refine g_xload dL_law_1443 rfl ?_
  refine g_iload dL_law_1444 rfl ?_
  refine g_iconst dL_law_1446 3 rfl (by decide) ?_
  refine g_iadd dL_law_1447 ?_
  obtain ⟨hin, h⟩ := h
  refine g_sld hX hin dL_law_1448 ?_
  refine g_cVi (st := [vI y1]) (av := [vI (xi (w32 (l4 + 1)).toNat), vI (xi (w32 (l4 + 2)).toNat), vI (xi (w32 (l4 + 3)).toNat)]) (kX11_lets h) kd_300 rfl cw_RL_168 (by decide) (by decide) (Nat.le_of_ble_eq_true rfl) rfl dL_law_1449 (fun y3 m4 h => ?_)
  obtain ⟨hA, hB⟩ := h
  refine g_icmp_eq (tgt := 1675) dL_law_1452 (by decide) (fun hc => ?_) (fun hc => ?_)
  · replace h := hA hc
    refine g_iinc (lv' := [(4, vI (w32 (l4 + 7))), (0, vX b), (1, vR 0), (2, vR 300), (3, vR 340)]) dL_law_1675 rfl (by decide) rfl ?_
    refine g_loc (a := w32 (l4 + 7)) (i := 4) (lv := [(0, vX b), (1, vR 0), (2, vR 300), (3, vR 340)]) (fun x5 ex5 => ?_)
    replace h := h x5 ex5
    refine g_goto (tgt := 23) dL_law_1678 (by decide) ?_
    refine g_lv (lv' := [(0, vX b), (1, vR 0), (2, vR 300), (3, vR 340), (4, vI x5)]) [1, 2, 3, 4, 0] rfl ?_
    first | exact hK x5 m4 h _ _ (bnd_s0 hb ex5) | exact hK x5 m4 h _ _ (bnd_s1 hb ex5)
  · replace h := hB hc
    refine g_iconst dL_law_1455 0 rfl (by decide) ?_
    exact h.elim
set_option maxHeartbeats 4000000 in
theorem blaw_1457 (hTr : l.stackTraces = false) (hcap : R.cells = 601024 ∧ R.slots = 7293034) (hX : SXq s A b L xi) (hE : ∀ (k0 n0 : Nat) (σ : Mem) (lv : List (Nat × AV)) {x : Int}, bnd x k0 n0 → GW (p, l, e, R, s, m, args, below, meth, c, Q, D, cy, ad, A, k0, n0) cL_law 8 RL 2048 84000 σ 1682 lv [vI 1]) {K : Int → Mem → Prop} (hK : ∀ (x : Int) (σ : Mem), K x σ → ∀ k0 n0, bnd x k0 n0 → GW (p, l, e, R, s, m, args, below, meth, c, Q, D, cy, ad, A, k0, n0) cL_law 8 RL 2048 84000 σ 23 [(0, vX b), (1, vR 0), (2, vR 300), (3, vR 340), (4, vI x)] []) {l4 : Int} {σ : Mem} {k0 n0 : Nat} (hb : bnd2 l4 k0 n0) (h : wlaw_1457 L xi K l4 σ) : GW (p, l, e, R, s, m, args, below, meth, c, Q, D, cy, ad, A, k0, n0) cL_law 8 RL 2048 84000 σ 1457 [(0, vX b), (1, vR 0), (2, vR 300), (3, vR 340), (4, vI l4)] [] := by
  unfold wlaw_1457 at h
  refine g_aload_n dL_law_1457 rfl ?_
  refine g_xload dL_law_1458 rfl ?_
  refine g_iload dL_law_1459 rfl ?_
  refine g_iconst dL_law_1461 1 rfl (by decide) ?_
  refine g_iadd dL_law_1462 ?_
  obtain ⟨hin, h⟩ := h
  refine g_sld hX hin dL_law_1463 ?_
  refine g_cVi (st := []) (av := [vI (xi (w32 (l4 + 1)).toNat)]) (kX10_leaves h) kd_0 rfl cw_RL_169 (by decide) (by decide) (Nat.le_of_ble_eq_true rfl) rfl dL_law_1464 (fun y1 m2 h => ?_)
  refine g_aload_n dL_law_1467 rfl ?_
  refine g_xload dL_law_1468 rfl ?_
  refine g_iload dL_law_1469 rfl ?_
  refine g_iconst dL_law_1471 1 rfl (by decide) ?_
  refine g_iadd dL_law_1472 ?_
  obtain ⟨hin, h⟩ := h
  refine g_sld hX hin dL_law_1473 ?_
  refine g_cVi (st := [vI y1]) (av := [vI (xi (w32 (l4 + 1)).toNat)]) (kX11_leaves h) kd_300 rfl cw_RL_172 (by decide) (by decide) (Nat.le_of_ble_eq_true rfl) rfl dL_law_1474 (fun y3 m4 h => ?_)
  obtain ⟨hA, hB⟩ := h
  refine g_icmp_eq (tgt := 1675) dL_law_1477 (by decide) (fun hc => ?_) (fun hc => ?_)
  · replace h := hA hc
    refine g_iinc (lv' := [(4, vI (w32 (l4 + 7))), (0, vX b), (1, vR 0), (2, vR 300), (3, vR 340)]) dL_law_1675 rfl (by decide) rfl ?_
    refine g_loc (a := w32 (l4 + 7)) (i := 4) (lv := [(0, vX b), (1, vR 0), (2, vR 300), (3, vR 340)]) (fun x5 ex5 => ?_)
    replace h := h x5 ex5
    refine g_goto (tgt := 23) dL_law_1678 (by decide) ?_
    refine g_lv (lv' := [(0, vX b), (1, vR 0), (2, vR 300), (3, vR 340), (4, vI x5)]) [1, 2, 3, 4, 0] rfl ?_
    first | exact hK x5 m4 h _ _ (bnd_s0 hb ex5) | exact hK x5 m4 h _ _ (bnd_s1 hb ex5)
  · replace h := hB hc
    refine g_iconst dL_law_1480 0 rfl (by decide) ?_
    exact h.elim
set_option maxHeartbeats 4000000 in
theorem blaw_1482 (hTr : l.stackTraces = false) (hcap : R.cells = 601024 ∧ R.slots = 7293034) (hX : SXq s A b L xi) (hE : ∀ (k0 n0 : Nat) (σ : Mem) (lv : List (Nat × AV)) {x : Int}, bnd x k0 n0 → GW (p, l, e, R, s, m, args, below, meth, c, Q, D, cy, ad, A, k0, n0) cL_law 8 RL 2048 84000 σ 1682 lv [vI 1]) {K : Int → Mem → Prop} (hK : ∀ (x : Int) (σ : Mem), K x σ → ∀ k0 n0, bnd x k0 n0 → GW (p, l, e, R, s, m, args, below, meth, c, Q, D, cy, ad, A, k0, n0) cL_law 8 RL 2048 84000 σ 23 [(0, vX b), (1, vR 0), (2, vR 300), (3, vR 340), (4, vI x)] []) {l4 : Int} {σ : Mem} {k0 n0 : Nat} (hb : bnd2 l4 k0 n0) (h : wlaw_1482 L xi K l4 σ) : GW (p, l, e, R, s, m, args, below, meth, c, Q, D, cy, ad, A, k0, n0) cL_law 8 RL 2048 84000 σ 1482 [(0, vX b), (1, vR 0), (2, vR 300), (3, vR 340), (4, vI l4)] [] := by
  unfold wlaw_1482 at h
  refine g_aload_n dL_law_1482 rfl ?_
  refine g_cVi (st := []) (av := []) (kX10_day h) kd_0 rfl cw_RL_173 (by decide) (by decide) (Nat.le_of_ble_eq_true rfl) rfl dL_law_1483 (fun y1 m2 h => ?_)
  refine g_aload_n dL_law_1486 rfl ?_
  refine g_cVi (st := [vI y1]) (av := []) (kX11_day h) kd_300 rfl cw_RL_176 (by decide) (by decide) (Nat.le_of_ble_eq_true rfl) rfl dL_law_1487 (fun y3 m4 h => ?_)
  obtain ⟨hA, hB⟩ := h
  refine g_icmp_eq (tgt := 1675) dL_law_1490 (by decide) (fun hc => ?_) (fun hc => ?_)
  · replace h := hA hc
    refine g_iinc (lv' := [(4, vI (w32 (l4 + 7))), (0, vX b), (1, vR 0), (2, vR 300), (3, vR 340)]) dL_law_1675 rfl (by decide) rfl ?_
    refine g_loc (a := w32 (l4 + 7)) (i := 4) (lv := [(0, vX b), (1, vR 0), (2, vR 300), (3, vR 340)]) (fun x5 ex5 => ?_)
    replace h := h x5 ex5
    refine g_goto (tgt := 23) dL_law_1678 (by decide) ?_
    refine g_lv (lv' := [(0, vX b), (1, vR 0), (2, vR 300), (3, vR 340), (4, vI x5)]) [1, 2, 3, 4, 0] rfl ?_
    first | exact hK x5 m4 h _ _ (bnd_s0 hb ex5) | exact hK x5 m4 h _ _ (bnd_s1 hb ex5)
  · replace h := hB hc
    refine g_iconst dL_law_1493 0 rfl (by decide) ?_
    exact h.elim
set_option maxHeartbeats 4000000 in
theorem blaw_1495 (hTr : l.stackTraces = false) (hcap : R.cells = 601024 ∧ R.slots = 7293034) (hX : SXq s A b L xi) (hE : ∀ (k0 n0 : Nat) (σ : Mem) (lv : List (Nat × AV)) {x : Int}, bnd x k0 n0 → GW (p, l, e, R, s, m, args, below, meth, c, Q, D, cy, ad, A, k0, n0) cL_law 8 RL 2048 84000 σ 1682 lv [vI 1]) {K : Int → Mem → Prop} (hK : ∀ (x : Int) (σ : Mem), K x σ → ∀ k0 n0, bnd x k0 n0 → GW (p, l, e, R, s, m, args, below, meth, c, Q, D, cy, ad, A, k0, n0) cL_law 8 RL 2048 84000 σ 23 [(0, vX b), (1, vR 0), (2, vR 300), (3, vR 340), (4, vI x)] []) {l4 : Int} {σ : Mem} {k0 n0 : Nat} (hb : bnd2 l4 k0 n0) (h : wlaw_1495 L xi K l4 σ) : GW (p, l, e, R, s, m, args, below, meth, c, Q, D, cy, ad, A, k0, n0) cL_law 8 RL 2048 84000 σ 1495 [(0, vX b), (1, vR 0), (2, vR 300), (3, vR 340), (4, vI l4)] [] := by
  unfold wlaw_1495 at h
  refine g_aload_n dL_law_1495 rfl ?_
  refine g_cVi (st := []) (av := []) (kX10_undo h) kd_0 rfl cw_RL_177 (by decide) (by decide) (Nat.le_of_ble_eq_true rfl) rfl dL_law_1496 (fun y1 m2 h => ?_)
  refine g_aload_n dL_law_1499 rfl ?_
  refine g_cVi (st := [vI y1]) (av := []) (kX11_undo h) kd_300 rfl cw_RL_180 (by decide) (by decide) (Nat.le_of_ble_eq_true rfl) rfl dL_law_1500 (fun y3 m4 h => ?_)
  obtain ⟨hA, hB⟩ := h
  refine g_icmp_eq (tgt := 1675) dL_law_1503 (by decide) (fun hc => ?_) (fun hc => ?_)
  · replace h := hA hc
    refine g_iinc (lv' := [(4, vI (w32 (l4 + 7))), (0, vX b), (1, vR 0), (2, vR 300), (3, vR 340)]) dL_law_1675 rfl (by decide) rfl ?_
    refine g_loc (a := w32 (l4 + 7)) (i := 4) (lv := [(0, vX b), (1, vR 0), (2, vR 300), (3, vR 340)]) (fun x5 ex5 => ?_)
    replace h := h x5 ex5
    refine g_goto (tgt := 23) dL_law_1678 (by decide) ?_
    refine g_lv (lv' := [(0, vX b), (1, vR 0), (2, vR 300), (3, vR 340), (4, vI x5)]) [1, 2, 3, 4, 0] rfl ?_
    first | exact hK x5 m4 h _ _ (bnd_s0 hb ex5) | exact hK x5 m4 h _ _ (bnd_s1 hb ex5)
  · replace h := hB hc
    refine g_iconst dL_law_1506 0 rfl (by decide) ?_
    exact h.elim
set_option maxHeartbeats 4000000 in
theorem blaw_1508 (hTr : l.stackTraces = false) (hcap : R.cells = 601024 ∧ R.slots = 7293034) (hX : SXq s A b L xi) (hE : ∀ (k0 n0 : Nat) (σ : Mem) (lv : List (Nat × AV)) {x : Int}, bnd x k0 n0 → GW (p, l, e, R, s, m, args, below, meth, c, Q, D, cy, ad, A, k0, n0) cL_law 8 RL 2048 84000 σ 1682 lv [vI 1]) {K : Int → Mem → Prop} (hK : ∀ (x : Int) (σ : Mem), K x σ → ∀ k0 n0, bnd x k0 n0 → GW (p, l, e, R, s, m, args, below, meth, c, Q, D, cy, ad, A, k0, n0) cL_law 8 RL 2048 84000 σ 23 [(0, vX b), (1, vR 0), (2, vR 300), (3, vR 340), (4, vI x)] []) {l4 : Int} {σ : Mem} {k0 n0 : Nat} (hb : bnd2 l4 k0 n0) (h : wlaw_1508 L xi K l4 σ) : GW (p, l, e, R, s, m, args, below, meth, c, Q, D, cy, ad, A, k0, n0) cL_law 8 RL 2048 84000 σ 1508 [(0, vX b), (1, vR 0), (2, vR 300), (3, vR 340), (4, vI l4)] [] := by
  unfold wlaw_1508 at h
  refine g_aload_n dL_law_1508 rfl ?_
  refine g_xload dL_law_1509 rfl ?_
  refine g_iload dL_law_1510 rfl ?_
  refine g_iconst dL_law_1512 1 rfl (by decide) ?_
  refine g_iadd dL_law_1513 ?_
  obtain ⟨hin, h⟩ := h
  refine g_sld hX hin dL_law_1514 ?_
  refine g_xload dL_law_1515 rfl ?_
  refine g_iload dL_law_1516 rfl ?_
  refine g_iconst dL_law_1518 2 rfl (by decide) ?_
  refine g_iadd dL_law_1519 ?_
  obtain ⟨hin, h⟩ := h
  refine g_sld hX hin dL_law_1520 ?_
  refine g_cVi (st := []) (av := [vI (xi (w32 (l4 + 1)).toNat), vI (xi (w32 (l4 + 2)).toNat)]) (kX10_years h) kd_0 rfl cw_RL_181 (by decide) (by decide) (Nat.le_of_ble_eq_true rfl) rfl dL_law_1521 (fun y1 m2 h => ?_)
  refine g_aload_n dL_law_1524 rfl ?_
  refine g_xload dL_law_1525 rfl ?_
  refine g_iload dL_law_1526 rfl ?_
  refine g_iconst dL_law_1528 1 rfl (by decide) ?_
  refine g_iadd dL_law_1529 ?_
  obtain ⟨hin, h⟩ := h
  refine g_sld hX hin dL_law_1530 ?_
  refine g_xload dL_law_1531 rfl ?_
  refine g_iload dL_law_1532 rfl ?_
  refine g_iconst dL_law_1534 2 rfl (by decide) ?_
  refine g_iadd dL_law_1535 ?_
  obtain ⟨hin, h⟩ := h
  refine g_sld hX hin dL_law_1536 ?_
  refine g_cVi (st := [vI y1]) (av := [vI (xi (w32 (l4 + 1)).toNat), vI (xi (w32 (l4 + 2)).toNat)]) (kX11_years h) kd_300 rfl cw_RL_184 (by decide) (by decide) (Nat.le_of_ble_eq_true rfl) rfl dL_law_1537 (fun y3 m4 h => ?_)
  obtain ⟨hA, hB⟩ := h
  refine g_icmp_eq (tgt := 1675) dL_law_1540 (by decide) (fun hc => ?_) (fun hc => ?_)
  · replace h := hA hc
    refine g_iinc (lv' := [(4, vI (w32 (l4 + 7))), (0, vX b), (1, vR 0), (2, vR 300), (3, vR 340)]) dL_law_1675 rfl (by decide) rfl ?_
    refine g_loc (a := w32 (l4 + 7)) (i := 4) (lv := [(0, vX b), (1, vR 0), (2, vR 300), (3, vR 340)]) (fun x5 ex5 => ?_)
    replace h := h x5 ex5
    refine g_goto (tgt := 23) dL_law_1678 (by decide) ?_
    refine g_lv (lv' := [(0, vX b), (1, vR 0), (2, vR 300), (3, vR 340), (4, vI x5)]) [1, 2, 3, 4, 0] rfl ?_
    first | exact hK x5 m4 h _ _ (bnd_s0 hb ex5) | exact hK x5 m4 h _ _ (bnd_s1 hb ex5)
  · replace h := hB hc
    refine g_iconst dL_law_1543 0 rfl (by decide) ?_
    exact h.elim
set_option maxHeartbeats 4000000 in
theorem blaw_1545 (hTr : l.stackTraces = false) (hcap : R.cells = 601024 ∧ R.slots = 7293034) (hX : SXq s A b L xi) (hE : ∀ (k0 n0 : Nat) (σ : Mem) (lv : List (Nat × AV)) {x : Int}, bnd x k0 n0 → GW (p, l, e, R, s, m, args, below, meth, c, Q, D, cy, ad, A, k0, n0) cL_law 8 RL 2048 84000 σ 1682 lv [vI 1]) {K : Int → Mem → Prop} (hK : ∀ (x : Int) (σ : Mem), K x σ → ∀ k0 n0, bnd x k0 n0 → GW (p, l, e, R, s, m, args, below, meth, c, Q, D, cy, ad, A, k0, n0) cL_law 8 RL 2048 84000 σ 23 [(0, vX b), (1, vR 0), (2, vR 300), (3, vR 340), (4, vI x)] []) {l4 : Int} {σ : Mem} {k0 n0 : Nat} (hb : bnd2 l4 k0 n0) (h : wlaw_1545 L xi K l4 σ) : GW (p, l, e, R, s, m, args, below, meth, c, Q, D, cy, ad, A, k0, n0) cL_law 8 RL 2048 84000 σ 1545 [(0, vX b), (1, vR 0), (2, vR 300), (3, vR 340), (4, vI l4)] [] := by
  unfold wlaw_1545 at h
  refine g_aload_n dL_law_1545 rfl ?_
  refine g_xload dL_law_1546 rfl ?_
  refine g_iload dL_law_1547 rfl ?_
  refine g_iconst dL_law_1549 1 rfl (by decide) ?_
  refine g_iadd dL_law_1550 ?_
  obtain ⟨hin, h⟩ := h
  refine g_sld hX hin dL_law_1551 ?_
  refine g_cVi (st := []) (av := [vI (xi (w32 (l4 + 1)).toNat)]) (kX10_keep h) kd_0 rfl cw_RL_185 (by decide) (by decide) (Nat.le_of_ble_eq_true rfl) rfl dL_law_1552 (fun y1 m2 h => ?_)
  refine g_aload_n dL_law_1555 rfl ?_
  refine g_xload dL_law_1556 rfl ?_
  refine g_iload dL_law_1557 rfl ?_
  refine g_iconst dL_law_1559 1 rfl (by decide) ?_
  refine g_iadd dL_law_1560 ?_
  obtain ⟨hin, h⟩ := h
  refine g_sld hX hin dL_law_1561 ?_
  refine g_cVi (st := [vI y1]) (av := [vI (xi (w32 (l4 + 1)).toNat)]) (kX11_keep h) kd_300 rfl cw_RL_188 (by decide) (by decide) (Nat.le_of_ble_eq_true rfl) rfl dL_law_1562 (fun y3 m4 h => ?_)
  obtain ⟨hA, hB⟩ := h
  refine g_icmp_eq (tgt := 1675) dL_law_1565 (by decide) (fun hc => ?_) (fun hc => ?_)
  · replace h := hA hc
    refine g_iinc (lv' := [(4, vI (w32 (l4 + 7))), (0, vX b), (1, vR 0), (2, vR 300), (3, vR 340)]) dL_law_1675 rfl (by decide) rfl ?_
    refine g_loc (a := w32 (l4 + 7)) (i := 4) (lv := [(0, vX b), (1, vR 0), (2, vR 300), (3, vR 340)]) (fun x5 ex5 => ?_)
    replace h := h x5 ex5
    refine g_goto (tgt := 23) dL_law_1678 (by decide) ?_
    refine g_lv (lv' := [(0, vX b), (1, vR 0), (2, vR 300), (3, vR 340), (4, vI x5)]) [1, 2, 3, 4, 0] rfl ?_
    first | exact hK x5 m4 h _ _ (bnd_s0 hb ex5) | exact hK x5 m4 h _ _ (bnd_s1 hb ex5)
  · replace h := hB hc
    refine g_iconst dL_law_1568 0 rfl (by decide) ?_
    exact h.elim
set_option maxHeartbeats 4000000 in
theorem blaw_1570 (hTr : l.stackTraces = false) (hcap : R.cells = 601024 ∧ R.slots = 7293034) (hX : SXq s A b L xi) (hE : ∀ (k0 n0 : Nat) (σ : Mem) (lv : List (Nat × AV)) {x : Int}, bnd x k0 n0 → GW (p, l, e, R, s, m, args, below, meth, c, Q, D, cy, ad, A, k0, n0) cL_law 8 RL 2048 84000 σ 1682 lv [vI 1]) {K : Int → Mem → Prop} (hK : ∀ (x : Int) (σ : Mem), K x σ → ∀ k0 n0, bnd x k0 n0 → GW (p, l, e, R, s, m, args, below, meth, c, Q, D, cy, ad, A, k0, n0) cL_law 8 RL 2048 84000 σ 23 [(0, vX b), (1, vR 0), (2, vR 300), (3, vR 340), (4, vI x)] []) {l4 : Int} {σ : Mem} {k0 n0 : Nat} (hb : bnd2 l4 k0 n0) (h : wlaw_1570 L xi K l4 σ) : GW (p, l, e, R, s, m, args, below, meth, c, Q, D, cy, ad, A, k0, n0) cL_law 8 RL 2048 84000 σ 1570 [(0, vX b), (1, vR 0), (2, vR 300), (3, vR 340), (4, vI l4)] [] := by
  unfold wlaw_1570 at h
  refine g_aload_n dL_law_1570 rfl ?_
  refine g_xload dL_law_1571 rfl ?_
  refine g_iload dL_law_1572 rfl ?_
  refine g_iconst dL_law_1574 1 rfl (by decide) ?_
  refine g_iadd dL_law_1575 ?_
  obtain ⟨hin, h⟩ := h
  refine g_sld hX hin dL_law_1576 ?_
  refine g_cVi (st := []) (av := [vI (xi (w32 (l4 + 1)).toNat)]) (kX10_again h) kd_0 rfl cw_RL_189 (by decide) (by decide) (Nat.le_of_ble_eq_true rfl) rfl dL_law_1577 (fun y1 m2 h => ?_)
  refine g_aload_n dL_law_1580 rfl ?_
  refine g_xload dL_law_1581 rfl ?_
  refine g_iload dL_law_1582 rfl ?_
  refine g_iconst dL_law_1584 1 rfl (by decide) ?_
  refine g_iadd dL_law_1585 ?_
  obtain ⟨hin, h⟩ := h
  refine g_sld hX hin dL_law_1586 ?_
  refine g_cVi (st := [vI y1]) (av := [vI (xi (w32 (l4 + 1)).toNat)]) (kX11_again h) kd_300 rfl cw_RL_192 (by decide) (by decide) (Nat.le_of_ble_eq_true rfl) rfl dL_law_1587 (fun y3 m4 h => ?_)
  obtain ⟨hA, hB⟩ := h
  refine g_icmp_eq (tgt := 1675) dL_law_1590 (by decide) (fun hc => ?_) (fun hc => ?_)
  · replace h := hA hc
    refine g_iinc (lv' := [(4, vI (w32 (l4 + 7))), (0, vX b), (1, vR 0), (2, vR 300), (3, vR 340)]) dL_law_1675 rfl (by decide) rfl ?_
    refine g_loc (a := w32 (l4 + 7)) (i := 4) (lv := [(0, vX b), (1, vR 0), (2, vR 300), (3, vR 340)]) (fun x5 ex5 => ?_)
    replace h := h x5 ex5
    refine g_goto (tgt := 23) dL_law_1678 (by decide) ?_
    refine g_lv (lv' := [(0, vX b), (1, vR 0), (2, vR 300), (3, vR 340), (4, vI x5)]) [1, 2, 3, 4, 0] rfl ?_
    first | exact hK x5 m4 h _ _ (bnd_s0 hb ex5) | exact hK x5 m4 h _ _ (bnd_s1 hb ex5)
  · replace h := hB hc
    refine g_iconst dL_law_1593 0 rfl (by decide) ?_
    exact h.elim
set_option maxHeartbeats 4000000 in
theorem blaw_1595 (hTr : l.stackTraces = false) (hcap : R.cells = 601024 ∧ R.slots = 7293034) (hX : SXq s A b L xi) (hE : ∀ (k0 n0 : Nat) (σ : Mem) (lv : List (Nat × AV)) {x : Int}, bnd x k0 n0 → GW (p, l, e, R, s, m, args, below, meth, c, Q, D, cy, ad, A, k0, n0) cL_law 8 RL 2048 84000 σ 1682 lv [vI 1]) {K : Int → Mem → Prop} (hK : ∀ (x : Int) (σ : Mem), K x σ → ∀ k0 n0, bnd x k0 n0 → GW (p, l, e, R, s, m, args, below, meth, c, Q, D, cy, ad, A, k0, n0) cL_law 8 RL 2048 84000 σ 23 [(0, vX b), (1, vR 0), (2, vR 300), (3, vR 340), (4, vI x)] []) {l4 : Int} {σ : Mem} {k0 n0 : Nat} (hb : bnd2 l4 k0 n0) (h : wlaw_1595 L xi K l4 σ) : GW (p, l, e, R, s, m, args, below, meth, c, Q, D, cy, ad, A, k0, n0) cL_law 8 RL 2048 84000 σ 1595 [(0, vX b), (1, vR 0), (2, vR 300), (3, vR 340), (4, vI l4)] [] := by
  unfold wlaw_1595 at h
  refine g_aload_n dL_law_1595 rfl ?_
  refine g_xload dL_law_1596 rfl ?_
  refine g_iload dL_law_1597 rfl ?_
  refine g_iconst dL_law_1599 1 rfl (by decide) ?_
  refine g_iadd dL_law_1600 ?_
  obtain ⟨hin, h⟩ := h
  refine g_sld hX hin dL_law_1601 ?_
  refine g_cVi (st := []) (av := [vI (xi (w32 (l4 + 1)).toNat)]) (kX10_count h) kd_0 rfl cw_RL_193 (by decide) (by decide) (Nat.le_of_ble_eq_true rfl) rfl dL_law_1602 (fun y1 m2 h => ?_)
  refine g_aload_n dL_law_1605 rfl ?_
  refine g_xload dL_law_1606 rfl ?_
  refine g_iload dL_law_1607 rfl ?_
  refine g_iconst dL_law_1609 1 rfl (by decide) ?_
  refine g_iadd dL_law_1610 ?_
  obtain ⟨hin, h⟩ := h
  refine g_sld hX hin dL_law_1611 ?_
  refine g_cVi (st := [vI y1]) (av := [vI (xi (w32 (l4 + 1)).toNat)]) (kX11_count h) kd_300 rfl cw_RL_196 (by decide) (by decide) (Nat.le_of_ble_eq_true rfl) rfl dL_law_1612 (fun y3 m4 h => ?_)
  obtain ⟨hA, hB⟩ := h
  refine g_icmp_eq (tgt := 1675) dL_law_1615 (by decide) (fun hc => ?_) (fun hc => ?_)
  · replace h := hA hc
    refine g_iinc (lv' := [(4, vI (w32 (l4 + 7))), (0, vX b), (1, vR 0), (2, vR 300), (3, vR 340)]) dL_law_1675 rfl (by decide) rfl ?_
    refine g_loc (a := w32 (l4 + 7)) (i := 4) (lv := [(0, vX b), (1, vR 0), (2, vR 300), (3, vR 340)]) (fun x5 ex5 => ?_)
    replace h := h x5 ex5
    refine g_goto (tgt := 23) dL_law_1678 (by decide) ?_
    refine g_lv (lv' := [(0, vX b), (1, vR 0), (2, vR 300), (3, vR 340), (4, vI x5)]) [1, 2, 3, 4, 0] rfl ?_
    first | exact hK x5 m4 h _ _ (bnd_s0 hb ex5) | exact hK x5 m4 h _ _ (bnd_s1 hb ex5)
  · replace h := hB hc
    refine g_iconst dL_law_1618 0 rfl (by decide) ?_
    exact h.elim
set_option maxHeartbeats 4000000 in
theorem blaw_1620 (hTr : l.stackTraces = false) (hcap : R.cells = 601024 ∧ R.slots = 7293034) (hX : SXq s A b L xi) (hE : ∀ (k0 n0 : Nat) (σ : Mem) (lv : List (Nat × AV)) {x : Int}, bnd x k0 n0 → GW (p, l, e, R, s, m, args, below, meth, c, Q, D, cy, ad, A, k0, n0) cL_law 8 RL 2048 84000 σ 1682 lv [vI 1]) {K : Int → Mem → Prop} (hK : ∀ (x : Int) (σ : Mem), K x σ → ∀ k0 n0, bnd x k0 n0 → GW (p, l, e, R, s, m, args, below, meth, c, Q, D, cy, ad, A, k0, n0) cL_law 8 RL 2048 84000 σ 23 [(0, vX b), (1, vR 0), (2, vR 300), (3, vR 340), (4, vI x)] []) {l4 : Int} {σ : Mem} {k0 n0 : Nat} (hb : bnd2 l4 k0 n0) (h : wlaw_1620 L xi K l4 σ) : GW (p, l, e, R, s, m, args, below, meth, c, Q, D, cy, ad, A, k0, n0) cL_law 8 RL 2048 84000 σ 1620 [(0, vX b), (1, vR 0), (2, vR 300), (3, vR 340), (4, vI l4)] [] := by
  unfold wlaw_1620 at h
  refine g_aload_n dL_law_1620 rfl ?_
  refine g_xload dL_law_1621 rfl ?_
  refine g_iload dL_law_1622 rfl ?_
  refine g_iconst dL_law_1624 1 rfl (by decide) ?_
  refine g_iadd dL_law_1625 ?_
  obtain ⟨hin, h⟩ := h
  refine g_sld hX hin dL_law_1626 ?_
  refine g_aload_n dL_law_1627 rfl ?_
  refine g_cL (st := []) (av := [vR 0, vI (xi (w32 (l4 + 1)).toNat), vR 340]) hTr (kL_row h) cwh_row (by decide) (by decide) (Nat.le_of_ble_eq_true rfl) rfl dL_law_1628 ⟨by have := hb.1; unfold bnd at this; rw [hcap.1]; omega, by have := hb.1; unfold bnd at this; rw [hcap.2]; omega⟩ (fun y1 m2 h => ?_)
  refine g_istore (lv' := [(5, vI y1), (0, vX b), (1, vR 0), (2, vR 300), (3, vR 340), (4, vI l4)]) dL_law_1631 (by decide) rfl ?_
  refine g_aload_n dL_law_1633 rfl ?_
  refine g_xload dL_law_1634 rfl ?_
  refine g_iload dL_law_1635 rfl ?_
  refine g_iconst dL_law_1637 1 rfl (by decide) ?_
  refine g_iadd dL_law_1638 ?_
  obtain ⟨hin, h⟩ := h
  refine g_sld hX hin dL_law_1639 ?_
  refine g_cVl (st := []) (av := [vI (xi (w32 (l4 + 1)).toNat)]) (kX11_row h) kd_300 rfl cw_RL_199 (by decide) (by decide) (Nat.le_of_ble_eq_true rfl) rfl dL_law_1640 (fun y3 m4 h => ?_)
  refine g_lstore (lv' := [(6, vL y3), (5, vI y1), (0, vX b), (1, vR 0), (2, vR 300), (3, vR 340), (4, vI l4)]) dL_law_1643 (by decide) rfl ?_
  refine g_aload_n dL_law_1645 rfl ?_
  refine g_cVi (st := []) (av := []) (kX11_thrown h) kd_300 rfl cw_RL_56 (by decide) (by decide) (Nat.le_of_ble_eq_true rfl) rfl dL_law_1646 (fun y5 m6 h => ?_)
  refine g_iload dL_law_1649 rfl ?_
  obtain ⟨hA, hB⟩ := h
  refine g_icmp_eq (tgt := 1656) dL_law_1651 (by decide) (fun hc => ?_) (fun hc => ?_)
  · replace h := hA hc
    refine g_iload dL_law_1656 rfl ?_
    obtain ⟨hA, hB⟩ := h
    refine g_if_ne (tgt := 1672) dL_law_1658 (by decide) (fun hc => ?_) (fun hc => ?_)
    · replace h := hA hc
      refine g_goto (tgt := 1675) dL_law_1672 (by decide) ?_
      refine g_iinc (lv' := [(4, vI (w32 (l4 + 7))), (6, vL y3), (5, vI y1), (0, vX b), (1, vR 0), (2, vR 300), (3, vR 340)]) dL_law_1675 rfl (by decide) rfl ?_
      refine g_loc (a := w32 (l4 + 7)) (i := 4) (lv := [(6, vL y3), (5, vI y1), (0, vX b), (1, vR 0), (2, vR 300), (3, vR 340)]) (fun x7 ex7 => ?_)
      replace h := h x7 ex7
      refine g_goto (tgt := 23) dL_law_1678 (by decide) ?_
      refine g_lv (lv' := [(0, vX b), (1, vR 0), (2, vR 300), (3, vR 340), (4, vI x7)]) [3, 4, 5, 6, 0] rfl ?_
      first | exact hK x7 m6 h _ _ (bnd_s0 hb ex7) | exact hK x7 m6 h _ _ (bnd_s1 hb ex7)
    · replace h := hB hc
      refine g_aload_n dL_law_1661 rfl ?_
      refine g_iconst dL_law_1662 0 rfl (by decide) ?_
      refine g_lald kd_340 (by decide) dL_law_1663 ?_
      refine g_lload dL_law_1664 rfl ?_
      refine g_lcmp dL_law_1666 ?_
      obtain ⟨hA, hB⟩ := h
      refine g_if_eq (tgt := 1672) dL_law_1667 (by decide) (fun hc => ?_) (fun hc => ?_)
      · replace h := hA hc
        refine g_goto (tgt := 1675) dL_law_1672 (by decide) ?_
        refine g_iinc (lv' := [(4, vI (w32 (l4 + 7))), (6, vL y3), (5, vI y1), (0, vX b), (1, vR 0), (2, vR 300), (3, vR 340)]) dL_law_1675 rfl (by decide) rfl ?_
        refine g_loc (a := w32 (l4 + 7)) (i := 4) (lv := [(6, vL y3), (5, vI y1), (0, vX b), (1, vR 0), (2, vR 300), (3, vR 340)]) (fun x8 ex8 => ?_)
        replace h := h x8 ex8
        refine g_goto (tgt := 23) dL_law_1678 (by decide) ?_
        refine g_lv (lv' := [(0, vX b), (1, vR 0), (2, vR 300), (3, vR 340), (4, vI x8)]) [3, 4, 5, 6, 0] rfl ?_
        first | exact hK x8 m6 h _ _ (bnd_s0 hb ex8) | exact hK x8 m6 h _ _ (bnd_s1 hb ex8)
      · replace h := hB hc
        refine g_iconst dL_law_1670 0 rfl (by decide) ?_
        exact h.elim
  · replace h := hB hc
    refine g_iconst dL_law_1654 0 rfl (by decide) ?_
    exact h.elim
set_option maxHeartbeats 4000000 in
theorem blaw_23 (hTr : l.stackTraces = false) (hcap : R.cells = 601024 ∧ R.slots = 7293034) (hX : SXq s A b L xi) (hE : ∀ (k0 n0 : Nat) (σ : Mem) (lv : List (Nat × AV)) {x : Int}, bnd x k0 n0 → GW (p, l, e, R, s, m, args, below, meth, c, Q, D, cy, ad, A, k0, n0) cL_law 8 RL 2048 84000 σ 1682 lv [vI 1]) {K : Int → Mem → Prop} (hK : ∀ (x : Int) (σ : Mem), K x σ → ∀ k0 n0, bnd x k0 n0 → GW (p, l, e, R, s, m, args, below, meth, c, Q, D, cy, ad, A, k0, n0) cL_law 8 RL 2048 84000 σ 23 [(0, vX b), (1, vR 0), (2, vR 300), (3, vR 340), (4, vI x)] []) {l4 : Int} {σ : Mem} {k0 n0 : Nat} (hb : bnd l4 k0 n0) (h : wlaw_23 L xi K l4 σ) : GW (p, l, e, R, s, m, args, below, meth, c, Q, D, cy, ad, A, k0, n0) cL_law 8 RL 2048 84000 σ 23 [(0, vX b), (1, vR 0), (2, vR 300), (3, vR 340), (4, vI l4)] [] := by
  unfold wlaw_23 at h
  refine g_iload dL_law_23 rfl ?_
  refine g_xload dL_law_25 rfl ?_
  refine g_slen hX dL_law_26 ?_
  refine g_bipush dL_law_27 7 rfl (by decide) ?_
  refine g_isub dL_law_29 ?_
  obtain ⟨hA, hB⟩ := h
  refine g_icmp_gt (tgt := 1681) dL_law_30 (by decide) (fun hc => ?_) (fun hc => ?_)
  · replace h := hA hc
    refine g_iconst dL_law_1681 1 rfl (by decide) ?_
    exact hE _ _ _ _ (hb)
  · have hb2 := bnd_c hb hX.le hc
    replace h := hB hc
    refine g_xload dL_law_33 rfl ?_
    refine g_iload dL_law_34 rfl ?_
    obtain ⟨hin, h⟩ := h
    refine g_sld hX hin dL_law_36 ?_
    refine g_bipush dL_law_37 63 rfl (by decide) ?_
    refine g_iand dL_law_39 ?_
    obtain ⟨hs0, hs1, hs2, hs3, hs4, hs5, hs6, hs7, hs8, hs9, hs10, hs11, hs12, hs13, hs14, hs15, hs16, hs17, hs18, hs19, hs20, hs21, hs22, hs23, hs24, hs25, hs26, hs27, hs28, hs29, hs30, hs31, hs32, hs33, hs34, hs35, hs36, hs37, hs38, hs39, hs40, hsd⟩ := h
    by_cases ej0 : band (xi l4.toNat) 63 = 0
    · refine g_tswIn (tgt := 220) (off := 180) dL_law_40 0 ej0 (by decide) (by decide) rfl (by decide) ?_
      replace h := hs0 ej0
      exact blaw_220 hTr hcap hX hE hK hb2 h
    by_cases ej1 : band (xi l4.toNat) 63 = 1
    · refine g_tswIn (tgt := 245) (off := 205) dL_law_40 1 ej1 (by decide) (by decide) rfl (by decide) ?_
      replace h := hs1 ej1
      exact blaw_245 hTr hcap hX hE hK hb2 h
    by_cases ej2 : band (xi l4.toNat) 63 = 2
    · refine g_tswIn (tgt := 270) (off := 230) dL_law_40 2 ej2 (by decide) (by decide) rfl (by decide) ?_
      replace h := hs2 ej2
      exact blaw_270 hTr hcap hX hE hK hb2 h
    by_cases ej3 : band (xi l4.toNat) 63 = 3
    · refine g_tswIn (tgt := 283) (off := 243) dL_law_40 3 ej3 (by decide) (by decide) rfl (by decide) ?_
      replace h := hs3 ej3
      exact blaw_283 hTr hcap hX hE hK hb2 h
    by_cases ej4 : band (xi l4.toNat) 63 = 4
    · refine g_tswIn (tgt := 356) (off := 316) dL_law_40 4 ej4 (by decide) (by decide) rfl (by decide) ?_
      replace h := hs4 ej4
      exact blaw_356 hTr hcap hX hE hK hb2 h
    by_cases ej5 : band (xi l4.toNat) 63 = 5
    · refine g_tswIn (tgt := 393) (off := 353) dL_law_40 5 ej5 (by decide) (by decide) rfl (by decide) ?_
      replace h := hs5 ej5
      exact blaw_393 hTr hcap hX hE hK hb2 h
    by_cases ej6 : band (xi l4.toNat) 63 = 6
    · refine g_tswIn (tgt := 449) (off := 409) dL_law_40 6 ej6 (by decide) (by decide) rfl (by decide) ?_
      replace h := hs6 ej6
      exact blaw_449 hTr hcap hX hE hK hb2 h
    by_cases ej7 : band (xi l4.toNat) 63 = 7
    · refine g_tswIn (tgt := 462) (off := 422) dL_law_40 7 ej7 (by decide) (by decide) rfl (by decide) ?_
      replace h := hs7 ej7
      exact blaw_462 hTr hcap hX hE hK hb2 h
    by_cases ej8 : band (xi l4.toNat) 63 = 8
    · refine g_tswIn (tgt := 511) (off := 471) dL_law_40 8 ej8 (by decide) (by decide) rfl (by decide) ?_
      replace h := hs8 ej8
      exact blaw_511 hTr hcap hX hE hK hb2 h
    by_cases ej9 : band (xi l4.toNat) 63 = 9
    · refine g_tswIn (tgt := 548) (off := 508) dL_law_40 9 ej9 (by decide) (by decide) rfl (by decide) ?_
      replace h := hs9 ej9
      exact blaw_548 hTr hcap hX hE hK hb2 h
    by_cases ej10 : band (xi l4.toNat) 63 = 10
    · refine g_tswIn (tgt := 585) (off := 545) dL_law_40 10 ej10 (by decide) (by decide) rfl (by decide) ?_
      replace h := hs10 ej10
      exact blaw_585 hTr hcap hX hE hK hb2 h
    by_cases ej11 : band (xi l4.toNat) 63 = 11
    · refine g_tswIn (tgt := 598) (off := 558) dL_law_40 11 ej11 (by decide) (by decide) rfl (by decide) ?_
      replace h := hs11 ej11
      exact blaw_598 hTr hcap hX hE hK hb2 h
    by_cases ej12 : band (xi l4.toNat) 63 = 12
    · refine g_tswIn (tgt := 611) (off := 571) dL_law_40 12 ej12 (by decide) (by decide) rfl (by decide) ?_
      replace h := hs12 ej12
      exact blaw_611 hTr hcap hX hE hK hb2 h
    by_cases ej13 : band (xi l4.toNat) 63 = 13
    · refine g_tswIn (tgt := 660) (off := 620) dL_law_40 13 ej13 (by decide) (by decide) rfl (by decide) ?_
      replace h := hs13 ej13
      exact blaw_660 hTr hcap hX hE hK hb2 h
    by_cases ej14 : band (xi l4.toNat) 63 = 14
    · refine g_tswIn (tgt := 709) (off := 669) dL_law_40 14 ej14 (by decide) (by decide) rfl (by decide) ?_
      replace h := hs14 ej14
      exact blaw_709 hTr hcap hX hE hK hb2 h
    by_cases ej15 : band (xi l4.toNat) 63 = 15
    · refine g_tswIn (tgt := 758) (off := 718) dL_law_40 15 ej15 (by decide) (by decide) rfl (by decide) ?_
      replace h := hs15 ej15
      exact blaw_758 hTr hcap hX hE hK hb2 h
    by_cases ej16 : band (xi l4.toNat) 63 = 16
    · refine g_tswIn (tgt := 783) (off := 743) dL_law_40 16 ej16 (by decide) (by decide) rfl (by decide) ?_
      replace h := hs16 ej16
      exact blaw_783 hTr hcap hX hE hK hb2 h
    by_cases ej17 : band (xi l4.toNat) 63 = 17
    · refine g_tswIn (tgt := 808) (off := 768) dL_law_40 17 ej17 (by decide) (by decide) rfl (by decide) ?_
      replace h := hs17 ej17
      exact blaw_808 hTr hcap hX hE hK hb2 h
    by_cases ej18 : band (xi l4.toNat) 63 = 18
    · refine g_tswIn (tgt := 876) (off := 836) dL_law_40 18 ej18 (by decide) (by decide) rfl (by decide) ?_
      replace h := hs18 ej18
      exact blaw_876 hTr hcap hX hE hK hb2 h
    by_cases ej19 : band (xi l4.toNat) 63 = 19
    · refine g_tswIn (tgt := 925) (off := 885) dL_law_40 19 ej19 (by decide) (by decide) rfl (by decide) ?_
      replace h := hs19 ej19
      exact blaw_925 hTr hcap hX hE hK hb2 h
    by_cases ej20 : band (xi l4.toNat) 63 = 20
    · refine g_tswIn (tgt := 938) (off := 898) dL_law_40 20 ej20 (by decide) (by decide) rfl (by decide) ?_
      replace h := hs20 ej20
      exact blaw_938 hTr hcap hX hE hK hb2 h
    by_cases ej21 : band (xi l4.toNat) 63 = 21
    · refine g_tswIn (tgt := 951) (off := 911) dL_law_40 21 ej21 (by decide) (by decide) rfl (by decide) ?_
      replace h := hs21 ej21
      exact blaw_951 hTr hcap hX hE hK hb2 h
    by_cases ej22 : band (xi l4.toNat) 63 = 22
    · refine g_tswIn (tgt := 964) (off := 924) dL_law_40 22 ej22 (by decide) (by decide) rfl (by decide) ?_
      replace h := hs22 ej22
      exact blaw_964 hTr hcap hX hE hK hb2 h
    by_cases ej23 : band (xi l4.toNat) 63 = 23
    · refine g_tswIn (tgt := 1013) (off := 973) dL_law_40 23 ej23 (by decide) (by decide) rfl (by decide) ?_
      replace h := hs23 ej23
      exact blaw_1013 hTr hcap hX hE hK hb2 h
    by_cases ej24 : band (xi l4.toNat) 63 = 24
    · refine g_tswIn (tgt := 1038) (off := 998) dL_law_40 24 ej24 (by decide) (by decide) rfl (by decide) ?_
      replace h := hs24 ej24
      exact blaw_1038 hTr hcap hX hE hK hb2 h
    by_cases ej25 : band (xi l4.toNat) 63 = 25
    · refine g_tswIn (tgt := 1051) (off := 1011) dL_law_40 25 ej25 (by decide) (by decide) rfl (by decide) ?_
      replace h := hs25 ej25
      exact blaw_1051 hTr hcap hX hE hK hb2 h
    by_cases ej26 : band (xi l4.toNat) 63 = 26
    · refine g_tswIn (tgt := 1076) (off := 1036) dL_law_40 26 ej26 (by decide) (by decide) rfl (by decide) ?_
      replace h := hs26 ej26
      exact blaw_1076 hTr hcap hX hE hK hb2 h
    by_cases ej27 : band (xi l4.toNat) 63 = 27
    · refine g_tswIn (tgt := 1125) (off := 1085) dL_law_40 27 ej27 (by decide) (by decide) rfl (by decide) ?_
      replace h := hs27 ej27
      exact blaw_1125 hTr hcap hX hE hK hb2 h
    by_cases ej28 : band (xi l4.toNat) 63 = 28
    · refine g_tswIn (tgt := 1162) (off := 1122) dL_law_40 28 ej28 (by decide) (by decide) rfl (by decide) ?_
      replace h := hs28 ej28
      exact blaw_1162 hTr hcap hX hE hK hb2 h
    by_cases ej29 : band (xi l4.toNat) 63 = 29
    · refine g_tswIn (tgt := 1235) (off := 1195) dL_law_40 29 ej29 (by decide) (by decide) rfl (by decide) ?_
      replace h := hs29 ej29
      exact blaw_1235 hTr hcap hX hE hK hb2 h
    by_cases ej30 : band (xi l4.toNat) 63 = 30
    · refine g_tswIn (tgt := 1322) (off := 1282) dL_law_40 30 ej30 (by decide) (by decide) rfl (by decide) ?_
      replace h := hs30 ej30
      exact blaw_1322 hTr hcap hX hE hK hb2 h
    by_cases ej31 : band (xi l4.toNat) 63 = 31
    · refine g_tswIn (tgt := 1371) (off := 1331) dL_law_40 31 ej31 (by decide) (by decide) rfl (by decide) ?_
      replace h := hs31 ej31
      exact blaw_1371 hTr hcap hX hE hK hb2 h
    by_cases ej32 : band (xi l4.toNat) 63 = 32
    · refine g_tswIn (tgt := 1408) (off := 1368) dL_law_40 32 ej32 (by decide) (by decide) rfl (by decide) ?_
      replace h := hs32 ej32
      exact blaw_1408 hTr hcap hX hE hK hb2 h
    by_cases ej33 : band (xi l4.toNat) 63 = 33
    · refine g_tswIn (tgt := 1457) (off := 1417) dL_law_40 33 ej33 (by decide) (by decide) rfl (by decide) ?_
      replace h := hs33 ej33
      exact blaw_1457 hTr hcap hX hE hK hb2 h
    by_cases ej34 : band (xi l4.toNat) 63 = 34
    · refine g_tswIn (tgt := 1482) (off := 1442) dL_law_40 34 ej34 (by decide) (by decide) rfl (by decide) ?_
      replace h := hs34 ej34
      exact blaw_1482 hTr hcap hX hE hK hb2 h
    by_cases ej35 : band (xi l4.toNat) 63 = 35
    · refine g_tswIn (tgt := 1495) (off := 1455) dL_law_40 35 ej35 (by decide) (by decide) rfl (by decide) ?_
      replace h := hs35 ej35
      exact blaw_1495 hTr hcap hX hE hK hb2 h
    by_cases ej36 : band (xi l4.toNat) 63 = 36
    · refine g_tswIn (tgt := 1508) (off := 1468) dL_law_40 36 ej36 (by decide) (by decide) rfl (by decide) ?_
      replace h := hs36 ej36
      exact blaw_1508 hTr hcap hX hE hK hb2 h
    by_cases ej37 : band (xi l4.toNat) 63 = 37
    · refine g_tswIn (tgt := 1545) (off := 1505) dL_law_40 37 ej37 (by decide) (by decide) rfl (by decide) ?_
      replace h := hs37 ej37
      exact blaw_1545 hTr hcap hX hE hK hb2 h
    by_cases ej38 : band (xi l4.toNat) 63 = 38
    · refine g_tswIn (tgt := 1570) (off := 1530) dL_law_40 38 ej38 (by decide) (by decide) rfl (by decide) ?_
      replace h := hs38 ej38
      exact blaw_1570 hTr hcap hX hE hK hb2 h
    by_cases ej39 : band (xi l4.toNat) 63 = 39
    · refine g_tswIn (tgt := 1595) (off := 1555) dL_law_40 39 ej39 (by decide) (by decide) rfl (by decide) ?_
      replace h := hs39 ej39
      exact blaw_1595 hTr hcap hX hE hK hb2 h
    by_cases ej40 : band (xi l4.toNat) 63 = 40
    · refine g_tswIn (tgt := 1620) (off := 1580) dL_law_40 40 ej40 (by decide) (by decide) rfl (by decide) ?_
      replace h := hs40 ej40
      exact blaw_1620 hTr hcap hX hE hK hb2 h
    refine g_tswOut (tgt := 1675) dL_law_40 (by omega) (by decide) ?_
    have hb := hb2
    replace h := hsd (by omega)
    refine g_iinc (lv' := [(4, vI (w32 (l4 + 7))), (0, vX b), (1, vR 0), (2, vR 300), (3, vR 340)]) dL_law_1675 rfl (by decide) rfl ?_
    refine g_loc (a := w32 (l4 + 7)) (i := 4) (lv := [(0, vX b), (1, vR 0), (2, vR 300), (3, vR 340)]) (fun x1 ex1 => ?_)
    replace h := h x1 ex1
    refine g_goto (tgt := 23) dL_law_1678 (by decide) ?_
    refine g_lv (lv' := [(0, vX b), (1, vR 0), (2, vR 300), (3, vR 340), (4, vI x1)]) [1, 2, 3, 4, 0] rfl ?_
    first | exact hK x1 σ h _ _ (bnd_s0 hb ex1) | exact hK x1 σ h _ _ (bnd_s1 hb ex1)
end LAWW
