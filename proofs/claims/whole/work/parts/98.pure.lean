/-! the start, and the law's loop -/
theorem inv_new {n : Nat} (hn : 2 ≤ n ∧ n ≤ 8) : Inv (newB n) := by
  refine ⟨⟨hn, fun i hi => ?_, fun i _ => ?_, fun i _ => ?_, fun p _ => ?_, fun p _ i _ => ?_⟩, ⟨fun u _ v _ => ?_, fun p _ u _ v _ => ?_, fun u hu v hv c => ⟨rfl, rfl, fun _ _ => rfl⟩, fun m _ _ => rfl, fun p _ _ => ⟨rfl, rfl, fun _ _ => rfl⟩⟩, fun u hu v hv hne => ?_⟩
  · show 0 ≤ (0 : Int) ∧ (0 : Int) ≤ 999; omega
  · show -999 ≤ (0 : Int) ∧ (0 : Int) ≤ 999; omega
  · show 0 ≤ (0 : Int) ∧ (0 : Int) ≤ 999; omega
  · show 0 ≤ (0 : Int) ∧ (0 : Int) ≤ 9999; omega
  · show -9999 ≤ (0 : Int) ∧ (0 : Int) ≤ 9999; omega
  · show (0 : Int) = - 0; rfl
  · show (0 : Int) = - 0; rfl
  · show 0 ≤ (0 : Int) - 0 - hld (newB n) u v
    have e : hld (newB n) u v = 0 := sumTo_z (fun i _ => by
      show max (0 : Int) 0 = 0
      rfl)
    omega
theorem z0 {i : Nat} (h : i ≠ 4 ∧ i ∉ bks ∧ i ≠ 301 ∧ i ≠ 300) (j : Nat) : σ0 i j = 0 := by rw [σ0_z h]
theorem cb0 : CB 40 (newB 2) σ0 := by
  have e : ∀ k, k < 13 → k ≠ 0 → ∀ j, σ0 (40 + k) j = 0 := fun k hk h0 j => z0 (bk_z 40 (by decide) k hk h0) j
  refine ⟨rfl, fun i _ => e 1 (by omega) (by omega) i, fun i _ => e 2 (by omega) (by omega) i, fun i _ => e 3 (by omega) (by omega) i, fun p hp => ⟨?_, fun z => absurd z (by show ¬ (0 : Int) < 0; omega)⟩⟩
  have := e (5 + p) (by omega) (by omega) 2
  rw [show 40 + 5 + p = 40 + (5 + p) by omega]
  exact this
theorem m301 (k : Nat) (h : k ≠ 0) : σ0 301 k = 0 := by
  unfold σ0
  rw [if_neg (by decide), if_neg (fun z => h z.2), if_neg (fun z => h z.2), if_neg (fun z => absurd z.1 (by decide))]
theorem mn0 : MN σ0 (newB 2) := by
  refine ⟨rfl, fun i _ => m301 _ (by omega), fun i _ => m301 _ (by omega), fun i _ => m301 _ (by omega), fun p hp => ⟨fun k _ => m301 _ (by omega), fun i _ => m301 _ (by omega)⟩⟩
theorem rel0 : Rel σ0 := by
  refine ⟨(newB 2, fun _ => none, [], [], []), ⟨inv_new ⟨by omega, by omega⟩, fun _ _ B h => absurd h (by simp), ⟨fun _ h => absurd h (by simp), Nat.zero_le _⟩, ⟨fun _ h => absurd h (by simp), Nat.zero_le _⟩, fun _ h => absurd h (by simp), Nat.zero_le _⟩, ⟨cb0, fun i hi => ⟨z0 (by decide) i, fun B h => absurd h (by simp)⟩, ⟨z0 (by decide) 1, Nat.zero_le _, id, fun j hj => ⟨?_, hj⟩, fun i _ j _ e => e, fun j B h => ?_⟩, ⟨z0 (by decide) 1, fun j v h => ?_⟩, z0 (by decide) 1, fun j v h => ?_⟩, mn0, fun i hi => ⟨z0 (by decide) i, fun B h => absurd h (by simp)⟩, ⟨rfl, fun j B h => ?_⟩, ⟨rfl, fun j v h => ?_⟩, ⟨rfl, fun j v h => ?_⟩, rfl⟩
  · unfold σ0
    rw [if_pos rfl, if_pos hj]
    show (120 : Int) + 16 * (j : Int) = ((120 + 16 * j : Nat) : Int)
    omega
  all_goals exact absurd h (by simp)
theorem lw0 {L : Nat} {xi : Nat → Int} {K : Int → Mem → Prop} {x : Int} {σ : Mem} (hR : Rel σ) (hr : ∀ k : Int, 0 ≤ k → k < 7 → 0 ≤ w32 (x + k) ∧ w32 (x + k) < L) (hG : ∀ m, Rel m → ∀ x7 : Int, x7 = w32 (x + 7) → K x7 m) : wlaw_220 L xi K x σ := by
  have r1 := hr 1 (by omega) (by omega)
  unfold wlaw_220
  exact ⟨r1, (op_sign _).use hR _ (fun y m2 h => ⟨r1, h _ (fun m4 hm => ⟨fun _ => hG m4 hm, fun z => z rfl⟩)⟩)⟩
theorem lw1 {L : Nat} {xi : Nat → Int} {K : Int → Mem → Prop} {x : Int} {σ : Mem} (hR : Rel σ) (hr : ∀ k : Int, 0 ≤ k → k < 7 → 0 ≤ w32 (x + k) ∧ w32 (x + k) < L) (hG : ∀ m, Rel m → ∀ x7 : Int, x7 = w32 (x + 7) → K x7 m) : wlaw_245 L xi K x σ := by
  have r1 := hr 1 (by omega) (by omega)
  unfold wlaw_245
  exact ⟨r1, (op_end _).use hR _ (fun y m2 h => ⟨r1, h _ (fun m4 hm => ⟨fun _ => hG m4 hm, fun z => z rfl⟩)⟩)⟩
theorem lw2 {L : Nat} {xi : Nat → Int} {K : Int → Mem → Prop} {x : Int} {σ : Mem} (hR : Rel σ) (hr : ∀ k : Int, 0 ≤ k → k < 7 → 0 ≤ w32 (x + k) ∧ w32 (x + k) < L) (hG : ∀ m, Rel m → ∀ x7 : Int, x7 = w32 (x + 7) → K x7 m) : wlaw_270 L xi K x σ := by
  unfold wlaw_270
  exact (op_club).use hR _ (fun y m2 h => h _ (fun m4 hm => ⟨fun _ => hG m4 hm, fun z => z rfl⟩))
theorem lw3 {L : Nat} {xi : Nat → Int} {K : Int → Mem → Prop} {x : Int} {σ : Mem} (hR : Rel σ) (hr : ∀ k : Int, 0 ≤ k → k < 7 → 0 ≤ w32 (x + k) ∧ w32 (x + k) < L) (hG : ∀ m, Rel m → ∀ x7 : Int, x7 = w32 (x + 7) → K x7 m) : wlaw_283 L xi K x σ := by
  have r1 := hr 1 (by omega) (by omega)
  have r2 := hr 2 (by omega) (by omega)
  have r3 := hr 3 (by omega) (by omega)
  have r4 := hr 4 (by omega) (by omega)
  have r5 := hr 5 (by omega) (by omega)
  unfold wlaw_283
  exact ⟨r1, r2, r3, r4, r5, (op_sheet _ _ _ _ _).use hR _ (fun y m2 h => ⟨r1, r2, r3, r4, r5, h _ (fun m4 hm => ⟨fun _ => hG m4 hm, fun z => z rfl⟩)⟩)⟩
theorem lw4 {L : Nat} {xi : Nat → Int} {K : Int → Mem → Prop} {x : Int} {σ : Mem} (hR : Rel σ) (hr : ∀ k : Int, 0 ≤ k → k < 7 → 0 ≤ w32 (x + k) ∧ w32 (x + k) < L) (hG : ∀ m, Rel m → ∀ x7 : Int, x7 = w32 (x + 7) → K x7 m) : wlaw_356 L xi K x σ := by
  have r1 := hr 1 (by omega) (by omega)
  have r2 := hr 2 (by omega) (by omega)
  unfold wlaw_356
  exact ⟨r1, r2, (op_line _ _).use hR _ (fun y m2 h => ⟨r1, r2, h _ (fun m4 hm => ⟨fun _ => hG m4 hm, fun z => z rfl⟩)⟩)⟩
theorem lw5 {L : Nat} {xi : Nat → Int} {K : Int → Mem → Prop} {x : Int} {σ : Mem} (hR : Rel σ) (hr : ∀ k : Int, 0 ≤ k → k < 7 → 0 ≤ w32 (x + k) ∧ w32 (x + k) < L) (hG : ∀ m, Rel m → ∀ x7 : Int, x7 = w32 (x + 7) → K x7 m) : wlaw_393 L xi K x σ := by
  have r1 := hr 1 (by omega) (by omega)
  unfold wlaw_393
  exact ⟨r1, use_net (G := fun m => ∀ x7 : Int, x7 = w32 (x + 7) → K x7 m) hR r1 hG⟩
theorem lw6 {L : Nat} {xi : Nat → Int} {K : Int → Mem → Prop} {x : Int} {σ : Mem} (hR : Rel σ) (hr : ∀ k : Int, 0 ≤ k → k < 7 → 0 ≤ w32 (x + k) ∧ w32 (x + k) < L) (hG : ∀ m, Rel m → ∀ x7 : Int, x7 = w32 (x + 7) → K x7 m) : wlaw_449 L xi K x σ := by
  unfold wlaw_449
  exact (op_debts).use hR _ (fun y m2 h => h _ (fun m4 hm => ⟨fun _ => hG m4 hm, fun z => z rfl⟩))
theorem lw7 {L : Nat} {xi : Nat → Int} {K : Int → Mem → Prop} {x : Int} {σ : Mem} (hR : Rel σ) (hr : ∀ k : Int, 0 ≤ k → k < 7 → 0 ≤ w32 (x + k) ∧ w32 (x + k) < L) (hG : ∀ m, Rel m → ∀ x7 : Int, x7 = w32 (x + 7) → K x7 m) : wlaw_462 L xi K x σ := by
  have r1 := hr 1 (by omega) (by omega)
  have r2 := hr 2 (by omega) (by omega)
  have r3 := hr 3 (by omega) (by omega)
  unfold wlaw_462
  exact ⟨r1, r2, r3, (op_way _ _ _).use hR _ (fun y m2 h => ⟨r1, r2, r3, h _ (fun m4 hm => ⟨fun _ => hG m4 hm, fun z => z rfl⟩)⟩)⟩
theorem lw8 {L : Nat} {xi : Nat → Int} {K : Int → Mem → Prop} {x : Int} {σ : Mem} (hR : Rel σ) (hr : ∀ k : Int, 0 ≤ k → k < 7 → 0 ≤ w32 (x + k) ∧ w32 (x + k) < L) (hG : ∀ m, Rel m → ∀ x7 : Int, x7 = w32 (x + 7) → K x7 m) : wlaw_511 L xi K x σ := by
  have r1 := hr 1 (by omega) (by omega)
  have r2 := hr 2 (by omega) (by omega)
  unfold wlaw_511
  exact ⟨r1, r2, (op_reach _ _).use hR _ (fun y m2 h => ⟨r1, r2, h _ (fun m4 hm => ⟨fun _ => hG m4 hm, fun z => z rfl⟩)⟩)⟩
theorem lw9 {L : Nat} {xi : Nat → Int} {K : Int → Mem → Prop} {x : Int} {σ : Mem} (hR : Rel σ) (hr : ∀ k : Int, 0 ≤ k → k < 7 → 0 ≤ w32 (x + k) ∧ w32 (x + k) < L) (hG : ∀ m, Rel m → ∀ x7 : Int, x7 = w32 (x + 7) → K x7 m) : wlaw_548 L xi K x σ := by
  have r1 := hr 1 (by omega) (by omega)
  have r2 := hr 2 (by omega) (by omega)
  unfold wlaw_548
  exact ⟨r1, r2, (op_most _ _).use hR _ (fun y m2 h => ⟨r1, r2, h _ (fun m4 hm => ⟨fun _ => hG m4 hm, fun z => z rfl⟩)⟩)⟩
theorem lw10 {L : Nat} {xi : Nat → Int} {K : Int → Mem → Prop} {x : Int} {σ : Mem} (hR : Rel σ) (hr : ∀ k : Int, 0 ≤ k → k < 7 → 0 ≤ w32 (x + k) ∧ w32 (x + k) < L) (hG : ∀ m, Rel m → ∀ x7 : Int, x7 = w32 (x + 7) → K x7 m) : wlaw_585 L xi K x σ := by
  unfold wlaw_585
  exact (op_ring).use hR _ (fun y m2 h => h _ (fun m4 hm => ⟨fun _ => hG m4 hm, fun z => z rfl⟩))
theorem lw11 {L : Nat} {xi : Nat → Int} {K : Int → Mem → Prop} {x : Int} {σ : Mem} (hR : Rel σ) (hr : ∀ k : Int, 0 ≤ k → k < 7 → 0 ≤ w32 (x + k) ∧ w32 (x + k) < L) (hG : ∀ m, Rel m → ∀ x7 : Int, x7 = w32 (x + 7) → K x7 m) : wlaw_598 L xi K x σ := by
  unfold wlaw_598
  exact (op_rings).use hR _ (fun y m2 h => h _ (fun m4 hm => ⟨fun _ => hG m4 hm, fun z => z rfl⟩))
theorem lw12 {L : Nat} {xi : Nat → Int} {K : Int → Mem → Prop} {x : Int} {σ : Mem} (hR : Rel σ) (hr : ∀ k : Int, 0 ≤ k → k < 7 → 0 ≤ w32 (x + k) ∧ w32 (x + k) < L) (hG : ∀ m, Rel m → ∀ x7 : Int, x7 = w32 (x + 7) → K x7 m) : wlaw_611 L xi K x σ := by
  have r1 := hr 1 (by omega) (by omega)
  have r2 := hr 2 (by omega) (by omega)
  have r3 := hr 3 (by omega) (by omega)
  unfold wlaw_611
  exact ⟨r1, r2, r3, (op_pays _ _ _).use hR _ (fun y m2 h => ⟨r1, r2, r3, h _ (fun m4 hm => ⟨fun _ => hG m4 hm, fun z => z rfl⟩)⟩)⟩
theorem lw13 {L : Nat} {xi : Nat → Int} {K : Int → Mem → Prop} {x : Int} {σ : Mem} (hR : Rel σ) (hr : ∀ k : Int, 0 ≤ k → k < 7 → 0 ≤ w32 (x + k) ∧ w32 (x + k) < L) (hG : ∀ m, Rel m → ∀ x7 : Int, x7 = w32 (x + 7) → K x7 m) : wlaw_660 L xi K x σ := by
  have r1 := hr 1 (by omega) (by omega)
  have r2 := hr 2 (by omega) (by omega)
  have r3 := hr 3 (by omega) (by omega)
  unfold wlaw_660
  exact ⟨r1, r2, r3, (op_whole _ _ _).use hR _ (fun y m2 h => ⟨r1, r2, r3, h _ (fun m4 hm => ⟨fun _ => hG m4 hm, fun z => z rfl⟩)⟩)⟩
theorem lw14 {L : Nat} {xi : Nat → Int} {K : Int → Mem → Prop} {x : Int} {σ : Mem} (hR : Rel σ) (hr : ∀ k : Int, 0 ≤ k → k < 7 → 0 ≤ w32 (x + k) ∧ w32 (x + k) < L) (hG : ∀ m, Rel m → ∀ x7 : Int, x7 = w32 (x + 7) → K x7 m) : wlaw_709 L xi K x σ := by
  have r1 := hr 1 (by omega) (by omega)
  have r2 := hr 2 (by omega) (by omega)
  have r3 := hr 3 (by omega) (by omega)
  unfold wlaw_709
  exact ⟨r1, r2, r3, (op_holds _ _ _).use hR _ (fun y m2 h => ⟨r1, r2, r3, h _ (fun m4 hm => ⟨fun _ => hG m4 hm, fun z => z rfl⟩)⟩)⟩
theorem lw15 {L : Nat} {xi : Nat → Int} {K : Int → Mem → Prop} {x : Int} {σ : Mem} (hR : Rel σ) (hr : ∀ k : Int, 0 ≤ k → k < 7 → 0 ≤ w32 (x + k) ∧ w32 (x + k) < L) (hG : ∀ m, Rel m → ∀ x7 : Int, x7 = w32 (x + 7) → K x7 m) : wlaw_758 L xi K x σ := by
  have r1 := hr 1 (by omega) (by omega)
  unfold wlaw_758
  exact ⟨r1, (op_makes _).use hR _ (fun y m2 h => ⟨r1, h _ (fun m4 hm => ⟨fun _ => hG m4 hm, fun z => z rfl⟩)⟩)⟩
theorem lw16 {L : Nat} {xi : Nat → Int} {K : Int → Mem → Prop} {x : Int} {σ : Mem} (hR : Rel σ) (hr : ∀ k : Int, 0 ≤ k → k < 7 → 0 ≤ w32 (x + k) ∧ w32 (x + k) < L) (hG : ∀ m, Rel m → ∀ x7 : Int, x7 = w32 (x + 7) → K x7 m) : wlaw_783 L xi K x σ := by
  have r1 := hr 1 (by omega) (by omega)
  unfold wlaw_783
  exact ⟨r1, (op_letsGo _).use hR _ (fun y m2 h => ⟨r1, h _ (fun m4 hm => ⟨fun _ => hG m4 hm, fun z => z rfl⟩)⟩)⟩
theorem lw17 {L : Nat} {xi : Nat → Int} {K : Int → Mem → Prop} {x : Int} {σ : Mem} (hR : Rel σ) (hr : ∀ k : Int, 0 ≤ k → k < 7 → 0 ≤ w32 (x + k) ∧ w32 (x + k) < L) (hG : ∀ m, Rel m → ∀ x7 : Int, x7 = w32 (x + 7) → K x7 m) : wlaw_808 L xi K x σ := by
  have r1 := hr 1 (by omega) (by omega)
  have r2 := hr 2 (by omega) (by omega)
  unfold wlaw_808
  exact ⟨r1, r2, use_held (G := fun m => ∀ x7 : Int, x7 = w32 (x + 7) → K x7 m) hR ⟨r1, r2⟩ hG⟩
theorem lw18 {L : Nat} {xi : Nat → Int} {K : Int → Mem → Prop} {x : Int} {σ : Mem} (hR : Rel σ) (hr : ∀ k : Int, 0 ≤ k → k < 7 → 0 ≤ w32 (x + k) ∧ w32 (x + k) < L) (hG : ∀ m, Rel m → ∀ x7 : Int, x7 = w32 (x + 7) → K x7 m) : wlaw_876 L xi K x σ := by
  have r1 := hr 1 (by omega) (by omega)
  have r2 := hr 2 (by omega) (by omega)
  have r3 := hr 3 (by omega) (by omega)
  unfold wlaw_876
  exact ⟨r1, r2, r3, (op_mostThen _ _ _).use hR _ (fun y m2 h => ⟨r1, r2, r3, h _ (fun m4 hm => ⟨fun _ => hG m4 hm, fun z => z rfl⟩)⟩)⟩
theorem lw19 {L : Nat} {xi : Nat → Int} {K : Int → Mem → Prop} {x : Int} {σ : Mem} (hR : Rel σ) (hr : ∀ k : Int, 0 ≤ k → k < 7 → 0 ≤ w32 (x + k) ∧ w32 (x + k) < L) (hG : ∀ m, Rel m → ∀ x7 : Int, x7 = w32 (x + 7) → K x7 m) : wlaw_925 L xi K x σ := by
  unfold wlaw_925
  exact (op_batch).use hR _ (fun y m2 h => h _ (fun m4 hm => ⟨fun _ => hG m4 hm, fun z => z rfl⟩))
theorem lw20 {L : Nat} {xi : Nat → Int} {K : Int → Mem → Prop} {x : Int} {σ : Mem} (hR : Rel σ) (hr : ∀ k : Int, 0 ≤ k → k < 7 → 0 ≤ w32 (x + k) ∧ w32 (x + k) < L) (hG : ∀ m, Rel m → ∀ x7 : Int, x7 = w32 (x + 7) → K x7 m) : wlaw_938 L xi K x σ := by
  unfold wlaw_938
  exact (op_orders).use hR _ (fun y m2 h => h _ (fun m4 hm => ⟨fun _ => hG m4 hm, fun z => z rfl⟩))
theorem lw21 {L : Nat} {xi : Nat → Int} {K : Int → Mem → Prop} {x : Int} {σ : Mem} (hR : Rel σ) (hr : ∀ k : Int, 0 ≤ k → k < 7 → 0 ≤ w32 (x + k) ∧ w32 (x + k) < L) (hG : ∀ m, Rel m → ∀ x7 : Int, x7 = w32 (x + 7) → K x7 m) : wlaw_951 L xi K x σ := by
  unfold wlaw_951
  exact (op_settles).use hR _ (fun y m2 h => h _ (fun m4 hm => ⟨fun _ => hG m4 hm, fun z => z rfl⟩))
theorem lw22 {L : Nat} {xi : Nat → Int} {K : Int → Mem → Prop} {x : Int} {σ : Mem} (hR : Rel σ) (hr : ∀ k : Int, 0 ≤ k → k < 7 → 0 ≤ w32 (x + k) ∧ w32 (x + k) < L) (hG : ∀ m, Rel m → ∀ x7 : Int, x7 = w32 (x + 7) → K x7 m) : wlaw_964 L xi K x σ := by
  have r1 := hr 1 (by omega) (by omega)
  have r2 := hr 2 (by omega) (by omega)
  have r3 := hr 3 (by omega) (by omega)
  unfold wlaw_964
  exact ⟨r1, r2, r3, (op_raise _ _ _).use hR _ (fun y m2 h => ⟨r1, r2, r3, h _ (fun m4 hm => ⟨fun _ => hG m4 hm, fun z => z rfl⟩)⟩)⟩
theorem lw23 {L : Nat} {xi : Nat → Int} {K : Int → Mem → Prop} {x : Int} {σ : Mem} (hR : Rel σ) (hr : ∀ k : Int, 0 ≤ k → k < 7 → 0 ≤ w32 (x + k) ∧ w32 (x + k) < L) (hG : ∀ m, Rel m → ∀ x7 : Int, x7 = w32 (x + 7) → K x7 m) : wlaw_1013 L xi K x σ := by
  have r1 := hr 1 (by omega) (by omega)
  unfold wlaw_1013
  exact ⟨r1, (op_fails _).use hR _ (fun y m2 h => ⟨r1, h _ (fun m4 hm => ⟨fun _ => hG m4 hm, fun z => z rfl⟩)⟩)⟩
theorem lw24 {L : Nat} {xi : Nat → Int} {K : Int → Mem → Prop} {x : Int} {σ : Mem} (hR : Rel σ) (hr : ∀ k : Int, 0 ≤ k → k < 7 → 0 ≤ w32 (x + k) ∧ w32 (x + k) < L) (hG : ∀ m, Rel m → ∀ x7 : Int, x7 = w32 (x + 7) → K x7 m) : wlaw_1038 L xi K x σ := by
  unfold wlaw_1038
  exact (op_worst).use hR _ (fun y m2 h => h _ (fun m4 hm => ⟨fun _ => hG m4 hm, fun z => z rfl⟩))
theorem lw25 {L : Nat} {xi : Nat → Int} {K : Int → Mem → Prop} {x : Int} {σ : Mem} (hR : Rel σ) (hr : ∀ k : Int, 0 ≤ k → k < 7 → 0 ≤ w32 (x + k) ∧ w32 (x + k) < L) (hG : ∀ m, Rel m → ∀ x7 : Int, x7 = w32 (x + 7) → K x7 m) : wlaw_1051 L xi K x σ := by
  have r1 := hr 1 (by omega) (by omega)
  unfold wlaw_1051
  exact ⟨r1, (op_enough _).use hR _ (fun y m2 h => ⟨r1, h _ (fun m4 hm => ⟨fun _ => hG m4 hm, fun z => z rfl⟩)⟩)⟩
theorem lw26 {L : Nat} {xi : Nat → Int} {K : Int → Mem → Prop} {x : Int} {σ : Mem} (hR : Rel σ) (hr : ∀ k : Int, 0 ≤ k → k < 7 → 0 ≤ w32 (x + k) ∧ w32 (x + k) < L) (hG : ∀ m, Rel m → ∀ x7 : Int, x7 = w32 (x + 7) → K x7 m) : wlaw_1076 L xi K x σ := by
  have r1 := hr 1 (by omega) (by omega)
  have r2 := hr 2 (by omega) (by omega)
  have r3 := hr 3 (by omega) (by omega)
  unfold wlaw_1076
  exact ⟨r1, r2, r3, (op_without _ _ _).use hR _ (fun y m2 h => ⟨r1, r2, r3, h _ (fun m4 hm => ⟨fun _ => hG m4 hm, fun z => z rfl⟩)⟩)⟩
theorem lw27 {L : Nat} {xi : Nat → Int} {K : Int → Mem → Prop} {x : Int} {σ : Mem} (hR : Rel σ) (hr : ∀ k : Int, 0 ≤ k → k < 7 → 0 ≤ w32 (x + k) ∧ w32 (x + k) < L) (hG : ∀ m, Rel m → ∀ x7 : Int, x7 = w32 (x + 7) → K x7 m) : wlaw_1125 L xi K x σ := by
  have r1 := hr 1 (by omega) (by omega)
  have r2 := hr 2 (by omega) (by omega)
  unfold wlaw_1125
  exact ⟨r1, r2, (op_key _ _).use hR _ (fun y m2 h => ⟨r1, r2, h _ (fun m4 hm => ⟨fun _ => hG m4 hm, fun z => z rfl⟩)⟩)⟩
theorem lw28 {L : Nat} {xi : Nat → Int} {K : Int → Mem → Prop} {x : Int} {σ : Mem} (hR : Rel σ) (hr : ∀ k : Int, 0 ≤ k → k < 7 → 0 ≤ w32 (x + k) ∧ w32 (x + k) < L) (hG : ∀ m, Rel m → ∀ x7 : Int, x7 = w32 (x + 7) → K x7 m) : wlaw_1162 L xi K x σ := by
  have r1 := hr 1 (by omega) (by omega)
  have r2 := hr 2 (by omega) (by omega)
  have r3 := hr 3 (by omega) (by omega)
  have r4 := hr 4 (by omega) (by omega)
  have r5 := hr 5 (by omega) (by omega)
  unfold wlaw_1162
  exact ⟨r1, r2, r3, r4, r5, (op_were _ _ _ _ _).use hR _ (fun y m2 h => ⟨r1, r2, r3, r4, r5, h _ (fun m4 hm => ⟨fun _ => hG m4 hm, fun z => z rfl⟩)⟩)⟩
theorem lw29 {L : Nat} {xi : Nat → Int} {K : Int → Mem → Prop} {x : Int} {σ : Mem} (hR : Rel σ) (hr : ∀ k : Int, 0 ≤ k → k < 7 → 0 ≤ w32 (x + k) ∧ w32 (x + k) < L) (hG : ∀ m, Rel m → ∀ x7 : Int, x7 = w32 (x + 7) → K x7 m) : wlaw_1235 L xi K x σ := by
  have r1 := hr 1 (by omega) (by omega)
  have r2 := hr 2 (by omega) (by omega)
  have r3 := hr 3 (by omega) (by omega)
  have r4 := hr 4 (by omega) (by omega)
  have r5 := hr 5 (by omega) (by omega)
  have r6 := hr 6 (by omega) (by omega)
  unfold wlaw_1235
  exact ⟨r1, r2, r3, r4, r5, r6, (op_both _ _ _ _ _ _).use hR _ (fun y m2 h => ⟨r1, r2, r3, r4, r5, r6, h _ (fun m4 hm => ⟨fun _ => hG m4 hm, fun z => z rfl⟩)⟩)⟩
theorem lw30 {L : Nat} {xi : Nat → Int} {K : Int → Mem → Prop} {x : Int} {σ : Mem} (hR : Rel σ) (hr : ∀ k : Int, 0 ≤ k → k < 7 → 0 ≤ w32 (x + k) ∧ w32 (x + k) < L) (hG : ∀ m, Rel m → ∀ x7 : Int, x7 = w32 (x + 7) → K x7 m) : wlaw_1322 L xi K x σ := by
  have r1 := hr 1 (by omega) (by omega)
  have r2 := hr 2 (by omega) (by omega)
  have r3 := hr 3 (by omega) (by omega)
  unfold wlaw_1322
  exact ⟨r1, r2, r3, (op_limits _ _ _).use hR _ (fun y m2 h => ⟨r1, r2, r3, h _ (fun m4 hm => ⟨fun _ => hG m4 hm, fun z => z rfl⟩)⟩)⟩
theorem lw31 {L : Nat} {xi : Nat → Int} {K : Int → Mem → Prop} {x : Int} {σ : Mem} (hR : Rel σ) (hr : ∀ k : Int, 0 ≤ k → k < 7 → 0 ≤ w32 (x + k) ∧ w32 (x + k) < L) (hG : ∀ m, Rel m → ∀ x7 : Int, x7 = w32 (x + 7) → K x7 m) : wlaw_1371 L xi K x σ := by
  have r1 := hr 1 (by omega) (by omega)
  have r2 := hr 2 (by omega) (by omega)
  unfold wlaw_1371
  exact ⟨r1, r2, (op_stocks _ _).use hR _ (fun y m2 h => ⟨r1, r2, h _ (fun m4 hm => ⟨fun _ => hG m4 hm, fun z => z rfl⟩)⟩)⟩
theorem lw32 {L : Nat} {xi : Nat → Int} {K : Int → Mem → Prop} {x : Int} {σ : Mem} (hR : Rel σ) (hr : ∀ k : Int, 0 ≤ k → k < 7 → 0 ≤ w32 (x + k) ∧ w32 (x + k) < L) (hG : ∀ m, Rel m → ∀ x7 : Int, x7 = w32 (x + 7) → K x7 m) : wlaw_1408 L xi K x σ := by
  have r1 := hr 1 (by omega) (by omega)
  have r2 := hr 2 (by omega) (by omega)
  have r3 := hr 3 (by omega) (by omega)
  unfold wlaw_1408
  exact ⟨r1, r2, r3, (op_lets _ _ _).use hR _ (fun y m2 h => ⟨r1, r2, r3, h _ (fun m4 hm => ⟨fun _ => hG m4 hm, fun z => z rfl⟩)⟩)⟩
theorem lw33 {L : Nat} {xi : Nat → Int} {K : Int → Mem → Prop} {x : Int} {σ : Mem} (hR : Rel σ) (hr : ∀ k : Int, 0 ≤ k → k < 7 → 0 ≤ w32 (x + k) ∧ w32 (x + k) < L) (hG : ∀ m, Rel m → ∀ x7 : Int, x7 = w32 (x + 7) → K x7 m) : wlaw_1457 L xi K x σ := by
  have r1 := hr 1 (by omega) (by omega)
  unfold wlaw_1457
  exact ⟨r1, (op_leaves _).use hR _ (fun y m2 h => ⟨r1, h _ (fun m4 hm => ⟨fun _ => hG m4 hm, fun z => z rfl⟩)⟩)⟩
theorem lw34 {L : Nat} {xi : Nat → Int} {K : Int → Mem → Prop} {x : Int} {σ : Mem} (hR : Rel σ) (hr : ∀ k : Int, 0 ≤ k → k < 7 → 0 ≤ w32 (x + k) ∧ w32 (x + k) < L) (hG : ∀ m, Rel m → ∀ x7 : Int, x7 = w32 (x + 7) → K x7 m) : wlaw_1482 L xi K x σ := by
  unfold wlaw_1482
  exact (op_day).use hR _ (fun y m2 h => h _ (fun m4 hm => ⟨fun _ => hG m4 hm, fun z => z rfl⟩))
theorem lw35 {L : Nat} {xi : Nat → Int} {K : Int → Mem → Prop} {x : Int} {σ : Mem} (hR : Rel σ) (hr : ∀ k : Int, 0 ≤ k → k < 7 → 0 ≤ w32 (x + k) ∧ w32 (x + k) < L) (hG : ∀ m, Rel m → ∀ x7 : Int, x7 = w32 (x + 7) → K x7 m) : wlaw_1495 L xi K x σ := by
  unfold wlaw_1495
  exact (op_undo).use hR _ (fun y m2 h => h _ (fun m4 hm => ⟨fun _ => hG m4 hm, fun z => z rfl⟩))
theorem lw36 {L : Nat} {xi : Nat → Int} {K : Int → Mem → Prop} {x : Int} {σ : Mem} (hR : Rel σ) (hr : ∀ k : Int, 0 ≤ k → k < 7 → 0 ≤ w32 (x + k) ∧ w32 (x + k) < L) (hG : ∀ m, Rel m → ∀ x7 : Int, x7 = w32 (x + 7) → K x7 m) : wlaw_1508 L xi K x σ := by
  have r1 := hr 1 (by omega) (by omega)
  have r2 := hr 2 (by omega) (by omega)
  unfold wlaw_1508
  exact ⟨r1, r2, (op_years _ _).use hR _ (fun y m2 h => ⟨r1, r2, h _ (fun m4 hm => ⟨fun _ => hG m4 hm, fun z => z rfl⟩)⟩)⟩
theorem lw37 {L : Nat} {xi : Nat → Int} {K : Int → Mem → Prop} {x : Int} {σ : Mem} (hR : Rel σ) (hr : ∀ k : Int, 0 ≤ k → k < 7 → 0 ≤ w32 (x + k) ∧ w32 (x + k) < L) (hG : ∀ m, Rel m → ∀ x7 : Int, x7 = w32 (x + 7) → K x7 m) : wlaw_1545 L xi K x σ := by
  have r1 := hr 1 (by omega) (by omega)
  unfold wlaw_1545
  exact ⟨r1, (op_keep _).use hR _ (fun y m2 h => ⟨r1, h _ (fun m4 hm => ⟨fun _ => hG m4 hm, fun z => z rfl⟩)⟩)⟩
theorem lw38 {L : Nat} {xi : Nat → Int} {K : Int → Mem → Prop} {x : Int} {σ : Mem} (hR : Rel σ) (hr : ∀ k : Int, 0 ≤ k → k < 7 → 0 ≤ w32 (x + k) ∧ w32 (x + k) < L) (hG : ∀ m, Rel m → ∀ x7 : Int, x7 = w32 (x + 7) → K x7 m) : wlaw_1570 L xi K x σ := by
  have r1 := hr 1 (by omega) (by omega)
  unfold wlaw_1570
  exact ⟨r1, (op_again _).use hR _ (fun y m2 h => ⟨r1, h _ (fun m4 hm => ⟨fun _ => hG m4 hm, fun z => z rfl⟩)⟩)⟩
theorem lw39 {L : Nat} {xi : Nat → Int} {K : Int → Mem → Prop} {x : Int} {σ : Mem} (hR : Rel σ) (hr : ∀ k : Int, 0 ≤ k → k < 7 → 0 ≤ w32 (x + k) ∧ w32 (x + k) < L) (hG : ∀ m, Rel m → ∀ x7 : Int, x7 = w32 (x + 7) → K x7 m) : wlaw_1595 L xi K x σ := by
  have r1 := hr 1 (by omega) (by omega)
  unfold wlaw_1595
  exact ⟨r1, (op_count _).use hR _ (fun y m2 h => ⟨r1, h _ (fun m4 hm => ⟨fun _ => hG m4 hm, fun z => z rfl⟩)⟩)⟩
theorem lw40 {L : Nat} {xi : Nat → Int} {K : Int → Mem → Prop} {x : Int} {σ : Mem} (hR : Rel σ) (hr : ∀ k : Int, 0 ≤ k → k < 7 → 0 ≤ w32 (x + k) ∧ w32 (x + k) < L) (hG : ∀ m, Rel m → ∀ x7 : Int, x7 = w32 (x + 7) → K x7 m) : wlaw_1620 L xi K x σ := by
  have r1 := hr 1 (by omega) (by omega)
  unfold wlaw_1620
  exact ⟨r1, use_row (G := fun m => ∀ x7 : Int, x7 = w32 (x + 7) → K x7 m) hR r1 hG⟩
theorem main_pure : Pure := by
  intro L xi hL hxi
  refine lp_in (I := fun x τ => 0 ≤ x ∧ x ≤ 3584 ∧ Rel τ) (μ := fun x _ => ((L : Int) - x).toNat) ?_ 0 σ0 ⟨by omega, by omega, rel0⟩
  rintro x σ ⟨h0, h1, hR⟩ K hK
  unfold wlaw_23
  refine ⟨fun _ => trivial, fun z => ?_⟩
  rw [w32_id (by omega) (by omega)] at z
  have hr : ∀ k : Int, 0 ≤ k → k < 7 → 0 ≤ w32 (x + k) ∧ w32 (x + k) < L := fun k k0 k7 => by
    rw [w32_id (by omega) (by omega)]
    omega
  have hG : ∀ m, Rel m → ∀ x7 : Int, x7 = w32 (x + 7) → K x7 m := by
    rintro m hm _ rfl
    rw [w32_id (by omega) (by omega)]
    exact hK _ _ ⟨by omega, by omega, hm⟩ (by show ((L : Int) - (x + 7)).toNat < ((L : Int) - x).toNat; omega)
  refine ⟨⟨h0, by omega⟩, fun _ => lw0 hR hr hG, fun _ => lw1 hR hr hG, fun _ => lw2 hR hr hG, fun _ => lw3 hR hr hG, fun _ => lw4 hR hr hG, fun _ => lw5 hR hr hG, fun _ => lw6 hR hr hG, fun _ => lw7 hR hr hG, fun _ => lw8 hR hr hG, fun _ => lw9 hR hr hG, fun _ => lw10 hR hr hG, fun _ => lw11 hR hr hG, fun _ => lw12 hR hr hG, fun _ => lw13 hR hr hG, fun _ => lw14 hR hr hG, fun _ => lw15 hR hr hG, fun _ => lw16 hR hr hG, fun _ => lw17 hR hr hG, fun _ => lw18 hR hr hG, fun _ => lw19 hR hr hG, fun _ => lw20 hR hr hG, fun _ => lw21 hR hr hG, fun _ => lw22 hR hr hG, fun _ => lw23 hR hr hG, fun _ => lw24 hR hr hG, fun _ => lw25 hR hr hG, fun _ => lw26 hR hr hG, fun _ => lw27 hR hr hG, fun _ => lw28 hR hr hG, fun _ => lw29 hR hr hG, fun _ => lw30 hR hr hG, fun _ => lw31 hR hr hG, fun _ => lw32 hR hr hG, fun _ => lw33 hR hr hG, fun _ => lw34 hR hr hG, fun _ => lw35 hR hr hG, fun _ => lw36 hR hr hG, fun _ => lw37 hR hr hG, fun _ => lw38 hR hr hG, fun _ => lw39 hR hr hG, fun _ => lw40 hR hr hG, fun _ => hG σ hR⟩
