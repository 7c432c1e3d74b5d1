/-! sets of members as bits -/
def pc (x : Nat) : Nat := x % 2 + x / 2 % 2 + x / 4 % 2 + x / 8 % 2 + x / 16 % 2 + x / 32 % 2 + x / 64 % 2 + x / 128 % 2
theorem bsh_all : ∀ x, x < 256 → ∀ o, o < 8 → band (bshr ((x : Nat) : Int) ((o : Nat) : Int)) 1 = if x.testBit o then 1 else 0 := by decide +kernel
theorem bsl_all : ∀ o, o < 8 → bshl 1 ((o : Nat) : Int) = ((2 ^ o : Nat) : Int) := by decide +kernel
theorem bor_nat {x y : Nat} (hx : x < 256) (hy : y < 256) : bor (x : Int) (y : Int) = ((x ||| y : Nat) : Int) ∧ x ||| y < 256 := by
  have h : x ||| y < 2 ^ 8 := Nat.or_lt_two_pow (by omega) (by omega)
  refine ⟨?_, h⟩
  unfold bor
  rw [show Int32.ofInt (x : Int) = nI x from rfl, show Int32.ofInt (y : Int) = nI y from rfl, fa_or, nI_256 _ h]
theorem bor_z : ∀ x, x < 256 → bor ((x : Nat) : Int) 0 = (x : Int) := by decide +kernel
theorem pc_or1 : ∀ x, x < 256 → ∀ o, o < 8 → x.testBit o = false → pc (x ||| 2 ^ o) = pc x + 1 := by decide +kernel
theorem pc_8 : ∀ x, x < 256 → pc x ≤ 8 := by decide +kernel
theorem pc_pow : ∀ o, o < 8 → pc (2 ^ o) = 1 ∧ 2 ^ o < 256 := by decide +kernel
theorem bit_all : ∀ x, x < 256 → x ≠ 0 → ∃ o, o < 8 ∧ x.testBit o = true := by decide +kernel
theorem pc_one : ∀ x, x < 256 → x ≠ 0 → pc x ≤ 1 → ∃ o, o < 8 ∧ x = 2 ^ o := by decide +kernel
theorem tb_pow : ∀ o, o < 8 → ∀ j, j < 8 → (2 ^ o).testBit j = decide (o = j) := by decide +kernel
theorem pc_mono {x y : Nat} (hx : x < 256) (hy : y < 256) (hd : ∀ o, o < 8 → y.testBit o = true → x.testBit o = false) (h0 : y ≠ 0) : pc x + 1 ≤ pc (x ||| y) := by
  have key : ∀ z, z < 256 → pc z = (if z.testBit 0 then 1 else 0) + (if z.testBit 1 then 1 else 0) + (if z.testBit 2 then 1 else 0) + (if z.testBit 3 then 1 else 0) + (if z.testBit 4 then 1 else 0) + (if z.testBit 5 then 1 else 0) + (if z.testBit 6 then 1 else 0) + (if z.testBit 7 then 1 else 0) := by decide +kernel
  obtain ⟨o, ho, hb⟩ := bit_all y hy h0
  have hx' := hd o ho hb
  have hle : ∀ i, (if x.testBit i then 1 else 0) ≤ (if (x ||| y).testBit i then 1 else 0 : Nat) := fun i => by
    rw [Nat.testBit_or]
    by_cases c : x.testBit i = true
    · rw [c]; simp
    · simp only [Bool.not_eq_true] at c; rw [c]; simp
  have hlt : (if x.testBit o then 1 else 0) + 1 ≤ (if (x ||| y).testBit o then 1 else 0 : Nat) := by
    rw [Nat.testBit_or, hx', hb]; simp
  rw [key x hx, key (x ||| y) (bor_nat hx hy).2]
  have h0 := hle 0
  have h1 := hle 1
  have h2 := hle 2
  have h3 := hle 3
  have h4 := hle 4
  have h5 := hle 5
  have h6 := hle 6
  have h7 := hle 7
  match o, ho, hlt with
  | 0, _, hlt => omega
  | 1, _, hlt => omega
  | 2, _, hlt => omega
  | 3, _, hlt => omega
  | 4, _, hlt => omega
  | 5, _, hlt => omega
  | 6, _, hlt => omega
  | 7, _, hlt => omega
/-! failing -/
def lossB (B : Bk) (x m : Nat) : Int := sumTo (fun o => if x.testBit o then owe B o m else 0) (nN B)
def nfB (B : Bk) (x : Nat) : Nat → Nat
  | 0 => 0
  | m + 1 => if x.testBit m = false ∧ ¬ lossB B x m ≤ stk B m then nfB B x m ||| 2 ^ m else nfB B x m
def nf (B : Bk) (x : Nat) : Nat := nfB B x (nN B)
theorem nfB_b {B : Bk} (x : Nat) : ∀ m, m ≤ 8 → nfB B x m < 2 ^ m ∧ ∀ o, (nfB B x m).testBit o = true → x.testBit o = false ∧ o < m
  | 0, _ => by simp [nfB]
  | m + 1, h => by
    have ih := nfB_b (B := B) x m (by omega)
    have hp : 2 ^ m < 2 ^ (m + 1) := Nat.pow_lt_pow_right (by decide) (by omega)
    unfold nfB
    by_cases c : x.testBit m = false ∧ ¬ lossB B x m ≤ stk B m
    · rw [if_pos c]
      refine ⟨Nat.or_lt_two_pow (by omega) (by omega), fun o ho => ?_⟩
      rw [Nat.testBit_or, Nat.testBit_two_pow] at ho
      by_cases c2 : m = o
      · subst c2; exact ⟨c.1, by omega⟩
      · simp [c2] at ho
        have := ih.2 o ho
        exact ⟨this.1, by omega⟩
    · rw [if_neg c]
      exact ⟨by omega, fun o ho => ⟨(ih.2 o ho).1, by have := (ih.2 o ho).2; omega⟩⟩
theorem nf_b {B : Bk} (hI : IvA B) (x : Nat) : nf B x < 256 ∧ ∀ o, (nf B x).testBit o = true → x.testBit o = false ∧ o < nN B := by
  have := nfB_b (B := B) x (nN B) hI.1.2
  have hp : 2 ^ (nN B) ≤ 2 ^ 8 := Nat.pow_le_pow_right (by decide) hI.1.2
  exact ⟨Nat.lt_of_lt_of_le this.1 hp, this.2⟩
def flB (B : Bk) : Nat → Nat → Nat → Nat × Nat
  | 0, x, r => (x, r)
  | f + 1, x, r => if nf B x = 0 then (x, r) else flB B f (x ||| nf B x) (r + 1)
def flg (B : Bk) (m : Nat) : Nat × Nat := flB B 8 (2 ^ m) 0
theorem flB_b {B : Bk} (hI : IvA B) : ∀ f x r, x < 256 → (flB B f x r).1 < 256 ∧ (flB B f x r).2 ≤ r + f
  | 0, x, r, h => ⟨h, by simp [flB]⟩
  | f + 1, x, r, h => by
    unfold flB
    split
    · exact ⟨h, by omega⟩
    · have := flB_b hI f (x ||| nf B x) (r + 1) (bor_nat h (nf_b hI x).1).2
      exact ⟨this.1, by omega⟩
theorem flg_b {B : Bk} (hI : IvA B) {m : Nat} (hm : m < 8) : (flg B m).1 < 256 ∧ (flg B m).2 ≤ 8 := by
  have := flB_b hI 8 (2 ^ m) 0 (pc_pow m hm).2
  unfold flg
  exact ⟨this.1, by omega⟩
theorem lossB_b {B : Bk} (hI : IvA B) {x m : Nat} (hm : m < 8) : 0 ≤ lossB B x m ∧ lossB B x m ≤ 7992 := by
  have hN := hI.1
  have := sumTo_le (f := fun o => if x.testBit o then owe B o m else 0) (n := nN B) (a := 0) (b := 999) (fun o ho => by
    have := owe_b hI (u := o) (v := m) (by omega) hm
    split <;> omega)
  unfold lossB
  omega
def lAll (B : Bk) (x : Nat) : Int := sumTo (fun m => lossB B x m) (nN B)
def lRest (B : Bk) (x : Nat) : Int := sumTo (fun m => if x.testBit m then 0 else lossB B x m) (nN B)
theorem lAll_b {B : Bk} (hI : IvA B) (x : Nat) : 0 ≤ lAll B x ∧ lAll B x ≤ 63936 := by
  have hN := hI.1
  have := sumTo_le (f := fun m => lossB B x m) (n := nN B) (a := 0) (b := 7992) (fun o ho => lossB_b hI (by omega))
  unfold lAll
  omega
theorem lRest_b {B : Bk} (hI : IvA B) (x : Nat) : 0 ≤ lRest B x ∧ lRest B x ≤ 63936 := by
  have hN := hI.1
  have := sumTo_le (f := fun m => if x.testBit m then 0 else lossB B x m) (n := nN B) (a := 0) (b := 7992) (fun o ho => by
    have := lossB_b hI (x := x) (m := o) (by omega)
    split <;> omega)
  unfold lRest
  omega
theorem tb1 {x o : Nat} (hx : x < 256) (ho : o < 8) : (band (bshr (x : Int) (o : Int)) 1 = 1 ↔ x.testBit o = true) ∧ (band (bshr (x : Int) (o : Int)) 1 = 0 ↔ x.testBit o = false) := by
  rw [bsh_all x hx o ho]
  cases x.testBit o <;> simp
section CFAIL
variable {b : Nat} {B : Bk} {σ : Mem}
theorem s_lossOf {x m : Nat} {Q : Int → Mem → Prop} (hC : CB b B σ) (hI : IvA B) (hx : x < 256) (hm : m < 8) (h : Q (lossB B x m) σ) : wX2_lossOf b (m : Int) (x : Int) σ Q := by
  have hN := hI.1
  have e := hC.1
  unfold wX2_lossOf wLX2_lossOf_5
  refine lp_for (fun k y τ => τ = σ ∧ y = ((m : Int), (x : Int), sumTo (fun o => if x.testBit o then owe B o m else 0) k, (k : Int))) (nN B) ?_ ?_ _ _ ⟨rfl, rfl⟩
  · rintro k hk _ _ ⟨rfl, rfl⟩ K hK
    dsimp only [wX2_lossOf_5, wX2_lossOf_36]
    have hb := sumTo_le (f := fun o => if x.testBit o then owe B o m else 0) (n := k) (a := 0) (b := 999) (fun o ho => by
      have := owe_b hI (u := o) (v := m) (by omega) hm
      split <;> omega)
    have ho := owe_b hI (u := k) (v := m) (by omega) hm
    have t := tb1 hx (show k < 8 by omega)
    refine ⟨fun z => absurd z (by rw [e]; omega), fun _ => ⟨fun z => ?_, fun z => s_owed (by omega) hm hC ?_⟩⟩
    · rintro _ rfl _ rfl
      refine hK _ _ ⟨rfl, ?_⟩
      rw [w32_id (by omega) (by omega), w32_id (by omega) (by omega), sumTo_s, if_neg (fun y => z (t.1.mpr y))]
      rfl
    · rintro _ rfl _ rfl
      refine hK _ _ ⟨rfl, ?_⟩
      rw [w32_id (by omega) (by omega), w32_id (by omega) (by omega), sumTo_s, if_pos (t.1.mp z)]
      rfl
  · rintro _ _ ⟨rfl, rfl⟩ K
    dsimp only [wX2_lossOf_5]
    exact ⟨fun _ => h, fun z => absurd z (by rw [e]; omega)⟩
theorem s_nextToFail {x : Nat} {Q : Int → Mem → Prop} (hC : CB b B σ) (hI : IvA B) (hx : x < 256) (h : Q ((nf B x : Nat) : Int) σ) : wX2_nextToFail b (x : Int) σ Q := by
  have hN := hI.1
  have e := hC.1
  unfold wX2_nextToFail wLX2_nextToFail_4
  refine lp_for (fun k y τ => τ = σ ∧ y = ((x : Int), ((nfB B x k : Nat) : Int), (k : Int))) (nN B) ?_ ?_ _ _ ⟨rfl, rfl⟩
  · rintro k hk _ _ ⟨rfl, rfl⟩ K hK
    dsimp only [wX2_nextToFail_4]
    have t := tb1 hx (show k < 8 by omega)
    have nb := (nfB_b (B := B) x k (by omega)).1
    have nb2 : nfB B x k < 256 := Nat.lt_of_lt_of_le nb (show 2 ^ k ≤ 2 ^ 8 from Nat.pow_le_pow_right (by decide) (by omega))
    refine ⟨fun z => absurd z (by rw [e]; omega), fun _ => ⟨(fun hno => absurd hno (by omega)), fun _ => ⟨fun z => ?_, fun z => s_lossOf hC hI hx (by omega) ⟨by omega, ?_⟩⟩⟩⟩
    · rintro _ rfl
      refine hK _ _ ⟨rfl, ?_⟩
      rw [w32_id (by omega) (by omega), nfB, if_neg (fun y => z (t.2.mpr y.1))]
      rfl
    · rw [tn, hC.2.2.2.1 k (by omega)]
      refine ⟨fun z2 => ?_, fun z2 => ?_⟩
      · rintro _ rfl
        refine hK _ _ ⟨rfl, ?_⟩
        rw [w32_id (by omega) (by omega), nfB, if_neg (fun y => y.2 z2)]
        rfl
      · rintro _ rfl _ rfl
        refine hK _ _ ⟨rfl, ?_⟩
        rw [w32_id (by omega) (by omega), nfB, if_pos ⟨t.2.mp z, z2⟩, bsl_all k (by omega), (bor_nat nb2 (pc_pow k (by omega)).2).1]
        rfl
  · rintro _ _ ⟨rfl, rfl⟩ K
    dsimp only [wX2_nextToFail_4]
    exact ⟨fun _ => h, fun z => absurd z (by rw [e]; omega)⟩
theorem s_run {m : Nat} {Q : Mem → Prop} (hb : 37 ≤ b) (hC : CB b B σ) (hI : IvA B) (hm : m < 8) (h : ∀ σ', σ' 36 0 = ((flg B m).1 : Int) → σ' 36 1 = ((flg B m).2 : Int) → σ' 36 2 = lAll B (flg B m).1 → σ' 36 3 = lRest B (flg B m).1 → (∀ i, i ≠ 36 → σ' i = σ i) → Q σ') : wX2_run b (m : Int) σ Q := by
  have hN := hI.1
  unfold wX2_run
  rintro m1 e1 m2 e2
  rw [bsl_all m hm] at e1
  have e20 : m2 36 0 = ((2 ^ m : Nat) : Int) := by rw [e2, up2_nj (by omega), e1, up2_eq]
  have e21 : m2 36 1 = ((0 : Nat) : Int) := by rw [e2, up2_eq]; rfl
  have f2 : ∀ i, i ≠ 36 → m2 i = σ i := fun i hi => by rw [e2, up2_ne hi, e1, up2_ne hi]
  have hC2 : CB b B m2 := hC.fr (fun i a1 a2 => f2 i (by omega))
  rw [e20]
  refine s_nextToFail hC2 hI (pc_pow m hm).2 ?_
  clear e1 e2
  unfold wLX2_run_21
  refine lp_in (I := fun y τ => ∃ x r : Nat, x < 256 ∧ y = ((nf B x : Nat) : Int) ∧ τ 36 0 = (x : Int) ∧ τ 36 1 = (r : Int) ∧ r + 1 ≤ pc x ∧ flB B (8 - r) x r = flg B m ∧ ∀ i, i ≠ 36 → τ i = σ i) (μ := fun _ τ => (8 - τ 36 1).toNat) ?_ _ _ ⟨2 ^ m, 0, (pc_pow m hm).2, rfl, e20, e21, by rw [(pc_pow m hm).1]; decide, rfl, f2⟩
  rintro y τ ⟨x, r, hx, rfl, h0, h1, hr, hf, hF⟩ K hK
  dsimp only [wX2_run_21]
  have nb := nf_b hI x
  have p8 := pc_8 x hx
  have hCt : CB b B τ := hC.fr (fun i a1 a2 => hF i (by omega))
  have done : nf B x = 0 → wX2_run_66 b Q τ := fun z => by
    have ef : flg B m = (x, r) := by
      rw [← hf, show 8 - r = (7 - r) + 1 by omega, flB, if_pos z]
    rw [ef] at h
    unfold wX2_run_66
    rintro m3 e3 m4 e4
    have g0 : m4 36 0 = (x : Int) := by rw [e4, up2_nj (by omega), e3, up2_nj (by omega)]; exact h0
    have g1 : m4 36 1 = (r : Int) := by rw [e4, up2_nj (by omega), e3, up2_nj (by omega)]; exact h1
    have g2 : m4 36 2 = 0 := by rw [e4, up2_nj (by omega), e3, up2_eq]
    have g3 : m4 36 3 = 0 := by rw [e4, up2_eq]
    have g4 : ∀ i, i ≠ 36 → m4 i = σ i := fun i hi => by rw [e4, up2_ne hi, e3, up2_ne hi]; exact hF i hi
    clear e3 e4
    unfold wLX2_run_79
    refine lp_for (fun k y ρ => y = (k : Int) ∧ ρ 36 0 = (x : Int) ∧ ρ 36 1 = (r : Int) ∧ ρ 36 2 = sumTo (fun m => lossB B x m) k ∧ ρ 36 3 = sumTo (fun m => if x.testBit m then 0 else lossB B x m) k ∧ ∀ i, i ≠ 36 → ρ i = σ i) (nN B) ?_ ?_ _ _ ⟨rfl, g0, g1, g2, g3, g4⟩
    · rintro k hk _ ρ ⟨rfl, q0, q1, q2, q3, q4⟩ K3 hK3
      dsimp only [wX2_run_79, wX2_run_134]
      have hCr : CB b B ρ := hC.fr (fun i a1 a2 => q4 i (by omega))
      have lb := lossB_b hI (x := x) (m := k) (by omega)
      have s1 := sumTo_le (f := fun m => lossB B x m) (n := k) (a := 0) (b := 7992) (fun o ho => lossB_b hI (by omega))
      have s2 := sumTo_le (f := fun m => if x.testBit m then 0 else lossB B x m) (n := k) (a := 0) (b := 7992) (fun o ho => by
        have := lossB_b hI (x := x) (m := o) (by omega)
        split <;> omega)
      have t := tb1 hx (show k < 8 by omega)
      rw [q0]
      refine ⟨fun z => absurd z (by rw [hCr.1]; omega), fun _ => s_lossOf hCr hI hx (by omega) ?_⟩
      rintro m5 e5
      rw [q2, w32_id (by omega) (by omega)] at e5
      have a0 : m5 36 0 = (x : Int) := by rw [e5, up2_nj (by omega)]; exact q0
      have a3 : m5 36 3 = sumTo (fun m => if x.testBit m then 0 else lossB B x m) k := by rw [e5, up2_nj (by omega)]; exact q3
      rw [a0, a3]
      have fin : ∀ s0, s0 = (if x.testBit k then 0 else lossB B x k) → ∀ m6, m6 = up2 m5 36 3 (w32 (sumTo (fun m => if x.testBit m then 0 else lossB B x m) k + s0)) → ∀ x2, x2 = w32 ((k : Int) + 1) → K3 x2 m6 := by
        rintro s0 es _ rfl _ rfl
        have sb : 0 ≤ s0 ∧ s0 ≤ 7992 := by rw [es]; split <;> omega
        refine hK3 _ _ ⟨by rw [w32_id (by omega) (by omega)]; rfl, ?_, ?_, ?_, ?_, fun i hi => ?_⟩
        · rw [up2_nj (by omega)]; exact a0
        · rw [up2_nj (by omega), e5, up2_nj (by omega)]; exact q1
        · rw [up2_nj (by omega), e5, up2_eq, sumTo_s]
        · rw [up2_eq, w32_id (by omega) (by omega), sumTo_s, es]
        · rw [up2_ne hi, e5, up2_ne hi]; exact q4 i hi
      refine ⟨fun z => fin 0 ?_, fun z => fin _ ?_⟩
      · rw [if_pos (by cases hh : x.testBit k with
          | true => rfl
          | false => exact absurd (t.2.mpr hh) z)]
      · rw [if_neg (by rw [t.2.mp z]; decide)]
    · rintro _ ρ ⟨rfl, q0, q1, q2, q3, q4⟩ K3
      dsimp only [wX2_run_79]
      have hCr : CB b B ρ := hC.fr (fun i a1 a2 => q4 i (by omega))
      exact ⟨fun _ => h ρ q0 q1 q2 q3 q4, fun z => absurd z (by rw [hCr.1]; omega)⟩
  refine ⟨fun z => done (by omega), fun z => ⟨fun z2 => absurd z2 (by
    rw [h1]
    have := pc_mono hx nb.1 (fun o _ ho => (nb.2 o ho).1) (by omega)
    have := pc_8 (x ||| nf B x) (bor_nat hx nb.1).2
    omega), fun z2 => ?_⟩⟩
  rintro m3 e3 m4 e4
  have pm := pc_mono hx nb.1 (fun o _ ho => (nb.2 o ho).1) (by omega)
  have pm8 := pc_8 (x ||| nf B x) (bor_nat hx nb.1).2
  rw [h0, (bor_nat hx nb.1).1] at e3
  have g0 : m4 36 0 = ((x ||| nf B x : Nat) : Int) := by rw [e4, up2_nj (by omega), e3, up2_eq]
  have g1 : m4 36 1 = ((r + 1 : Nat) : Int) := by rw [e4, up2_eq, e3, up2_nj (by omega), h1, w32_id (by omega) (by omega)]; omega
  have g4 : ∀ i, i ≠ 36 → m4 i = σ i := fun i hi => by rw [e4, up2_ne hi, e3, up2_ne hi]; exact hF i hi
  rw [g0]
  refine s_nextToFail (hC.fr (fun i a1 a2 => g4 i (by omega))) hI (bor_nat hx nb.1).2 ?_
  refine hK _ _ ⟨x ||| nf B x, r + 1, (bor_nat hx nb.1).2, rfl, g0, g1, by omega, ?_, g4⟩ ?_
  · rw [← hf, show 8 - r = (8 - (r + 1)) + 1 by omega, flB, if_neg (by omega)]
  · rw [g1, h1]; omega
end CFAIL
