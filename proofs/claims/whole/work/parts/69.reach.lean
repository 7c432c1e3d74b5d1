/-! who is reached -/
def Cls (N : Nat) (s : Nat → Int) (x : Int) (f : Nat) (S : Nat → Prop) : Prop := S f ∧ ∀ u, u < N → ∀ v, v < N → S u → x ≤ s (8 * u + v) → S v
def RB (N : Nat) (s : Nat → Int) (x : Int) (f b : Nat) : Prop := b < 256 ∧ b.testBit f = true ∧ ∀ S : Nat → Prop, Cls N s x f S → ∀ u, b.testBit u = true → S u
def IsR (N : Nat) (s : Nat → Int) (x : Int) (f b : Nat) : Prop := RB N s x f b ∧ ∀ u, u < N → ∀ v, v < N → b.testBit u = true → x ≤ s (8 * u + v) → b.testBit v = true
section REACH
variable {N : Nat} {s : Nat → Int} {x : Int} {f : Nat} {σ : Mem}
theorem IsR.sub {b b' : Nat} (h : IsR N s x f b) (h' : IsR N s x f b') {u : Nat} (hu : b.testBit u = true) : b'.testBit u = true := h.1.2.2 (fun u => b'.testBit u = true) ⟨h'.1.2.1, h'.2⟩ u hu
theorem IsR.eq {b b' : Nat} (h : IsR N s x f b) (h' : IsR N s x f b') : b = b' := by
  refine Nat.eq_of_testBit_eq (fun i => ?_)
  cases e : b.testBit i with
  | true => rw [h.sub h' e]
  | false =>
    cases e' : b'.testBit i with
    | true => rw [h'.sub h e'] at e; cases e
    | false => rfl
theorem RB.lt {b : Nat} (hf : f < N) (h : RB N s x f b) {u : Nat} (hu : b.testBit u = true) : u < N := h.2.2 (fun u => u < N) ⟨hf, fun _ _ v hv _ _ => hv⟩ u hu
theorem RB.add {b u v : Nat} (hN : N ≤ 8) (h : RB N s x f b) (hu : u < N) (hv : v < N) (hb : b.testBit u = true) (he : x ≤ s (8 * u + v)) : RB N s x f (b ||| 2 ^ v) := by
  refine ⟨(bor_nat h.1 (pc_pow v (by omega)).2).2, by rw [Nat.testBit_or, h.2.1]; rfl, fun S hS w hw => ?_⟩
  rw [Nat.testBit_or, Nat.testBit_two_pow] at hw
  by_cases c : v = w
  · subst c
    exact hS.2 u hu v hv (h.2.2 S hS u hb) he
  · simp [c] at hw
    exact h.2.2 S hS w hw
theorem tb_add {b v w : Nat} : (b ||| 2 ^ v).testBit w = true ↔ (b.testBit w = true ∨ w = v) := by
  rw [Nat.testBit_or, Nat.testBit_two_pow]
  by_cases c : v = w
  · simp [c]
  · simp [c, Ne.symm c]
theorem pc8_all : ∀ x, x < 256 → pc x = 8 → ∀ v, v < 8 → x.testBit v = true := by decide +kernel
def RQ (N : Nat) (s : Nat → Int) (x : Int) (f b : Nat) (q : Nat → Int) (hd tl : Nat) : Prop := RB N s x f b ∧ (hd ≤ tl ∧ tl ≤ 8) ∧ tl = pc b ∧ (∀ i, i < tl → ∃ v, v < N ∧ q i = ((v : Nat) : Int) ∧ b.testBit v = true) ∧ (∀ u, b.testBit u = true → ∃ i, i < tl ∧ q i = ((u : Nat) : Int)) ∧ ∀ i, i < hd → ∀ v, v < N → x ≤ s (8 * (q i).toNat + v) → b.testBit v = true
theorem RQ.visit {b hd tl u v : Nat} {q : Nat → Int} (hN : N ≤ 8) (h : RQ N s x f b q hd tl) (hht : hd < tl) (ht8 : tl < 8) (hv : v < N) (hn : b.testBit v = false) (eu : q hd = (u : Int)) (he : x ≤ s (8 * u + v)) : RQ N s x f (b ||| 2 ^ v) (up1 q tl (v : Int)) hd (tl + 1) := by
  obtain ⟨h1, h2, h3, h4, h5, h6⟩ := h
  obtain ⟨u', hu, eu', hub⟩ := h4 hd hht
  obtain rfl : u' = u := by omega
  refine ⟨h1.add hN hu hv hub he, by omega, ?_, fun i hi => ?_, fun w hw => ?_, fun i hi w hw hx => ?_⟩
  · rw [pc_or1 b h1.1 v (by omega) hn, h3]
  · by_cases c : i = tl
    · rw [c, up1_eq]; exact ⟨v, hv, rfl, tb_add.mpr (Or.inr rfl)⟩
    · obtain ⟨w, hw, e, h0⟩ := h4 i (by omega)
      exact ⟨w, hw, by rw [up1_ne c]; exact e, tb_add.mpr (Or.inl h0)⟩
  · rcases tb_add.mp hw with c | c
    · obtain ⟨i, hi, e⟩ := h5 w c
      exact ⟨i, by omega, by rw [up1_ne (by omega)]; exact e⟩
    · exact ⟨tl, by omega, by rw [up1_eq, c]⟩
  · rw [up1_ne (by omega)] at hx
    exact tb_add.mpr (Or.inl (h6 i hi w hw hx))
theorem RQ.next {b hd tl u : Nat} {q : Nat → Int} (h : RQ N s x f b q hd tl) (hht : hd < tl) (eu : q hd = (u : Int)) (hc : ∀ v, v < N → x ≤ s (8 * u + v) → b.testBit v = true) : RQ N s x f b q (hd + 1) tl := by
  obtain ⟨h1, h2, h3, h4, h5, h6⟩ := h
  refine ⟨h1, by omega, h3, h4, h5, fun i hi v hv hx => ?_⟩
  by_cases c : i = hd
  · rw [c, eu, tn] at hx
    exact hc v hv hx
  · exact h6 i (by omega) v hv hx
theorem RQ.done {b tl : Nat} {q : Nat → Int} (h : RQ N s x f b q tl tl) : IsR N s x f b := by
  obtain ⟨h1, h2, h3, h4, h5, h6⟩ := h
  refine ⟨h1, fun u hu v hv hb he => ?_⟩
  obtain ⟨i, hi, e⟩ := h5 u hb
  exact h6 i hi v hv (by rw [e, tn]; exact he)
theorem RB.init (hf : f < 8) : RB N s x f (2 ^ f) := by
  refine ⟨(pc_pow f hf).2, by rw [Nat.testBit_two_pow]; simp, fun S hS u hu => ?_⟩
  rw [Nat.testBit_two_pow] at hu
  simp at hu
  rw [← hu]; exact hS.1
theorem ex_R (N : Nat) (s : Nat → Int) (x : Int) {f : Nat} (hN : N ≤ 8) (hf : f < N) : ∃ b, IsR N s x f b := by
  classical
  have key : ∀ n b, RB N s x f b → 8 - pc b ≤ n → ∃ b, IsR N s x f b := by
    intro n
    induction n with
    | zero =>
      intro b hb hn
      refine ⟨b, hb, fun u hu v hv _ _ => pc8_all b hb.1 ?_ v (by omega)⟩
      have := pc_8 b hb.1
      omega
    | succ n ih =>
      intro b hb hn
      by_cases c : ∃ u v, u < N ∧ v < N ∧ b.testBit u = true ∧ x ≤ s (8 * u + v) ∧ b.testBit v = false
      · obtain ⟨u, v, hu, hv, h1, h2, h3⟩ := c
        refine ih (b ||| 2 ^ v) (hb.add hN hu hv h1 h2) ?_
        rw [pc_or1 b hb.1 v (by omega) h3]
        omega
      · refine ⟨b, hb, fun u hu v hv h1 h2 => ?_⟩
        cases e : b.testBit v with
        | true => rfl
        | false => exact absurd ⟨u, v, hu, hv, h1, h2, e⟩ c
  exact key 8 (2 ^ f) (RB.init (by omega)) (by omega)
theorem s_reached {Q : Int → Mem → Prop} (hN : N ≤ 8) (hf : f < N) (e0 : σ 14 0 = (N : Int)) (eS : ∀ i, i < 64 → σ 15 i = s i) (h : ∀ σ' b, IsR N s x f b → (∀ i, i ≠ 19 → σ' i = σ i) → Q ((b : Nat) : Int) σ') : wX4_reached (f : Int) x σ Q := by
  unfold wX4_reached
  rintro _ rfl m2 e2
  rw [bsl_all f (by omega)]
  have g19 : m2 19 0 = (f : Int) := by rw [e2, up2_eq]
  have gf : ∀ i, i ≠ 19 → m2 i = σ i := fun i hi => by rw [e2, up2_ne hi]
  clear e2
  unfold wLX4_reached_17
  refine lp_in (I := fun y ρ => ∃ b hd tl : Nat, y = (x, (b : Int), (tl : Int), (hd : Int)) ∧ RQ N s x f b (ρ 19) hd tl ∧ ∀ i, i ≠ 19 → ρ i = σ i) (μ := fun y _ => (8 - y.2.2.2).toNat) ?_ _ _ ⟨2 ^ f, 0, 1, rfl, ⟨RB.init (by omega), by omega, (pc_pow f (by omega)).1.symm, fun i hi => ⟨f, hf, by rw [show i = 0 by omega]; exact g19, by rw [Nat.testBit_two_pow]; simp⟩, fun u hu => ⟨0, by omega, by rw [Nat.testBit_two_pow] at hu; simp at hu; rw [← hu]; exact g19⟩, fun i hi => by omega⟩, gf⟩
  rintro y ρ ⟨b, hd, tl, rfl, hB, hF⟩ K hK
  dsimp only [wX4_reached_17]
  have bb := hB.2.1
  refine ⟨fun z => h ρ b (by obtain rfl : hd = tl := by omega
                             exact hB.done) hF, fun z => ⟨fun z8 => absurd z8 (by omega), fun _ => ?_⟩⟩
  obtain ⟨u, hu, eu, hub⟩ := hB.2.2.2.1 hd (by omega)
  rw [band7_all hd (by omega)]
  refine ⟨⟨by omega, by omega⟩, ?_⟩
  rintro _ rfl
  rw [tn, eu]
  unfold wLX4_reached_46
  refine lp_for (fun k y τ => ∃ b' tl' : Nat, y = (x, (b' : Int), (tl' : Int), (hd : Int), (u : Int), (k : Int)) ∧ RQ N s x f b' (τ 19) hd tl' ∧ hd < tl' ∧ τ 19 hd = (u : Int) ∧ (∀ v, v < k → x ≤ s (8 * u + v) → b'.testBit v = true) ∧ ∀ i, i ≠ 19 → τ i = σ i) N ?_ ?_ _ _ ⟨b, tl, rfl, hB, by omega, eu, fun v hv => by omega, hF⟩
  · rintro k hk _ τ ⟨b', tl', rfl, hB', hl, eu', hc, hF'⟩ K2 hK2
    dsimp only [wX4_reached_46]
    have e0' : τ 14 0 = (N : Int) := by rw [hF' 14 (by omega)]; exact e0
    have b2 := hB'.2.1
    have w1 : w32 ((k : Int) + 1) = ((k + 1 : Nat) : Int) := by rw [w32_id (by omega) (by omega)]; rfl
    refine ⟨fun z => absurd z (by rw [e0']; omega), fun _ => ⟨fun z2 => ?_, fun z2 => ?_⟩⟩
    · rintro _ rfl
      obtain rfl : tl' = 8 := by omega
      have w2 : w32 ((hd : Int) + 1) = ((hd + 1 : Nat) : Int) := by rw [w32_id (by omega) (by omega)]; rfl
      rw [w2]
      exact hK _ _ ⟨b', hd + 1, 8, rfl, hB'.next hl eu' (fun v hv _ => pc8_all b' hB'.1.1 hB'.2.2.1.symm v (by omega)), hF'⟩ (by (try dsimp only); omega)
    · have t := tb1 (x := b') (o := k) hB'.1.1 (by omega)
      refine ⟨fun z3 => ?_, fun z3 => ?_⟩
      · rintro _ rfl
        refine hK2 _ _ ⟨b', tl', by rw [w1], hB', hl, eu', fun v hv hx => ?_, hF'⟩
        by_cases c : v = k
        · rw [c]
          cases e : b'.testBit k with
          | true => rfl
          | false => exact absurd (t.2.mpr e) z3
        · exact hc v (by omega) hx
      · refine s_at (by omega) (by omega) ⟨rg64 (by omega) (by omega), ?_⟩
        rw [tn, hF' 15 (by omega), eS _ (lt64 (by omega) (by omega))]
        refine ⟨fun z4 => ?_, fun z4 => ?_⟩
        · rintro _ rfl
          refine hK2 _ _ ⟨b', tl', by rw [w1], hB', hl, eu', fun v hv hx => ?_, hF'⟩
          by_cases c : v = k
          · rw [c] at hx; omega
          · exact hc v (by omega) hx
        · rintro _ rfl
          refine ⟨⟨by omega, by omega⟩, ?_⟩
          rintro m8 e8 _ rfl _ rfl
          rw [tn] at e8
          have r19 : m8 19 = up1 (τ 19) tl' (k : Int) := by rw [e8, up2_row]
          have hvis := hB'.visit hN hl (by omega) hk (t.2.mp z3) eu' (by omega)
          refine hK2 _ _ ⟨b' ||| 2 ^ k, tl' + 1, ?_, by rw [r19]; exact hvis, by omega, by rw [r19, up1_ne (by omega)]; exact eu', fun v hv hx => ?_, fun i hi => by rw [e8, up2_ne hi]; exact hF' i hi⟩
          · rw [w1, bsl_all k (by omega), (bor_nat hB'.1.1 (pc_pow k (by omega)).2).1, w32_id (by omega) (by omega)]; rfl
          · by_cases c : v = k
            · exact tb_add.mpr (Or.inr c)
            · exact tb_add.mpr (Or.inl (hc v (by omega) hx))
  · rintro _ τ ⟨b', tl', rfl, hB', hl, eu', hc, hF'⟩ K2
    dsimp only [wX4_reached_46]
    have e0' : τ 14 0 = (N : Int) := by rw [hF' 14 (by omega)]; exact e0
    have b2 := hB'.2.1
    refine ⟨fun _ => ?_, fun z => absurd z (by rw [e0']; omega)⟩
    rintro _ rfl
    have w2 : w32 ((hd : Int) + 1) = ((hd + 1 : Nat) : Int) := by rw [w32_id (by omega) (by omega)]; rfl
    rw [w2]
    exact hK _ _ ⟨b', hd + 1, tl', rfl, hB'.next hl eu' hc, hF'⟩ (by (try dsimp only); omega)
end REACH
section MREACH
variable {m : Nat} {B : Bk} {s : Nat → Int} {σ : Mem} {x : Int}
theorem m_reached {f : Nat} {Q : Int → Mem → Prop} (hM : MN σ (GM m B s)) (hI : IvA B) (hZ : IvB B) (hS : SI m B s) (hb : ∀ u : Nat, u < 8 → ((u : Int) = σ 300 14 ↔ u = m)) (hf : f < nN B) (hx : 1 ≤ x) (h : ∀ b, IsR (nN B) s x f b → Q ((b : Nat) : Int) σ) : wX11_reached (f : Int) x σ Q := by
  have hN := hI.1
  unfold wX11_reached
  rintro _ rfl
  rw [bsl_all f (by omega)]
  unfold wLX11_reached_7
  refine lp_in (I := fun y ρ => ρ = σ ∧ ∃ b mo : Nat, y = (x, (b : Int), (mo : Int)) ∧ RB (nN B) s x f b ∧ mo ≤ 1 ∧ (mo = 0 → IsR (nN B) s x f b)) (μ := fun y _ => 2 * (8 - pc y.2.1.toNat) + y.2.2.toNat) ?_ _ _ ⟨rfl, 2 ^ f, 1, rfl, RB.init (by omega), by omega, fun e => by omega⟩
  rintro y ρ ⟨rfl, b, mo, rfl, hB, hmo, hR⟩ K hK
  dsimp only [wX11_reached_7]
  have p8 := pc_8 b hB.1
  refine ⟨fun z => h b (hR (by omega)), fun z => ?_⟩
  unfold wLX11_reached_18
  refine lp_for (fun k y τ => τ = ρ ∧ ∃ b' mo' : Nat, y = (x, (b' : Int), (mo' : Int), (k : Int)) ∧ RB (nN B) s x f b' ∧ ((mo' = 0 ∧ b' = b ∧ ∀ u, u < k → ∀ v, v < nN B → b.testBit u = true → x ≤ s (8 * u + v) → b.testBit v = true) ∨ (mo' = 1 ∧ pc b + 1 ≤ pc b'))) (nN B) ?_ ?_ _ _ ⟨rfl, b, 0, rfl, hB, Or.inl ⟨rfl, rfl, fun u hu => by omega⟩⟩
  · rintro k hk _ ρ ⟨rfl, b', mo', rfl, hB', hc⟩ K2 hK2
    dsimp only [wX11_reached_18]
    have wk : w32 ((k : Int) + 1) = ((k + 1 : Nat) : Int) := by rw [w32_id (by omega) (by omega)]; rfl
    refine ⟨fun z => absurd z (by rw [hM.1]; show ¬ ((nN B : Nat) : Int) ≤ _; omega), fun _ => ?_⟩
    unfold wLX11_reached_32
    refine lp_for (fun j y τ => τ = ρ ∧ ∃ b2 mo2 : Nat, y = (x, (b2 : Int), (mo2 : Int), (k : Int), (j : Int)) ∧ RB (nN B) s x f b2 ∧ ((mo2 = 0 ∧ b2 = b ∧ (∀ u, u < k → ∀ v, v < nN B → b.testBit u = true → x ≤ s (8 * u + v) → b.testBit v = true) ∧ ∀ v, v < j → b.testBit k = true → x ≤ s (8 * k + v) → b.testBit v = true) ∨ (mo2 = 1 ∧ pc b + 1 ≤ pc b2))) (nN B) ?_ ?_ _ _ ⟨rfl, b', mo', rfl, hB', hc.imp (fun c => ⟨c.1, c.2.1, c.2.2, fun v hv => by omega⟩) id⟩
    · rintro j hj _ ρ ⟨rfl, b2, mo2, rfl, hB2, hc2⟩ K3 hK3
      dsimp only [wX11_reached_32]
      have wj : w32 ((j : Int) + 1) = ((j + 1 : Nat) : Int) := by rw [w32_id (by omega) (by omega)]; rfl
      have tk := tb1 (x := b2) (o := k) hB2.1 (by omega)
      have tj := tb1 (x := b2) (o := j) hB2.1 (by omega)
      have skip : (b2.testBit k = true → x ≤ s (8 * k + j) → b2.testBit j = true) → ∀ x1 : Int, x1 = w32 ((j : Int) + 1) → K3 (x, (b2 : Int), (mo2 : Int), (k : Int), x1) ρ := by
        rintro hq _ rfl
        refine hK3 _ _ ⟨rfl, b2, mo2, by rw [wj], hB2, hc2.imp (fun c => ⟨c.1, c.2.1, c.2.2.1, fun v hv hk1 hx1 => ?_⟩) id⟩
        by_cases e : v = j
        · rw [e] at hx1 ⊢
          rw [c.2.1] at hq
          exact hq hk1 hx1
        · exact c.2.2.2 v (by omega) hk1 hx1
      refine ⟨fun z => absurd z (by rw [hM.1]; show ¬ ((nN B : Nat) : Int) ≤ _; omega), fun _ => ⟨fun z1 => skip (fun q => by rw [tk.2.mp z1] at q; cases q), fun z1 => ⟨fun z2 => skip (fun _ _ => tj.1.mp z2), fun z2 => ?_⟩⟩⟩
      have hbk : b2.testBit k = true := by
        cases e : b2.testBit k with
        | true => rfl
        | false => exact absurd (tk.2.mpr e) z1
      have hbj : b2.testBit j = false := by
        cases e : b2.testBit j with
        | true => exact absurd (tj.1.mpr e) z2
        | false => rfl
      refine m_canGo hM hI hZ hS hb hk hj hx (fun c => ⟨fun _ => ?_, fun q => absurd q (by decide)⟩) (fun c => ⟨fun q => absurd rfl q, fun _ => skip (fun _ q => absurd q c)⟩)
      rintro _ rfl _ rfl
      have p1 := pc_or1 b2 hB2.1 j (by omega) hbj
      refine hK3 _ _ ⟨rfl, b2 ||| 2 ^ j, 1, ?_, hB2.add (by omega) hk hj hbk c, Or.inr ⟨rfl, ?_⟩⟩
      · rw [wj, bsl_all j (by omega), (bor_nat hB2.1 (pc_pow j (by omega)).2).1]; rfl
      · rcases hc2 with q | q
        · rw [p1, q.2.1]; exact Nat.le_refl _
        · omega
    · rintro _ ρ ⟨rfl, b2, mo2, rfl, hB2, hc2⟩ K3
      dsimp only [wX11_reached_32]
      refine ⟨fun _ => ?_, fun z => absurd z (by rw [hM.1]; show ¬ ¬ ((nN B : Nat) : Int) ≤ _; omega)⟩
      rintro _ rfl
      refine hK2 _ _ ⟨rfl, b2, mo2, by rw [wk], hB2, hc2.imp (fun c => ⟨c.1, c.2.1, fun u hu v hv hbu hxu => ?_⟩) id⟩
      by_cases e : u = k
      · rw [e] at hbu hxu
        exact c.2.2.2 v hv hbu hxu
      · exact c.2.2.1 u (by omega) v hv hbu hxu
  · rintro _ ρ ⟨rfl, b', mo', rfl, hB', hc⟩ K2
    dsimp only [wX11_reached_18]
    have p8' := pc_8 b' hB'.1
    refine ⟨fun _ => ?_, fun z => absurd z (by rw [hM.1]; show ¬ ¬ ((nN B : Nat) : Int) ≤ _; omega)⟩
    rcases hc with c | c
    · obtain ⟨rfl, rfl, c3⟩ := c
      refine hK _ _ ⟨rfl, b', 0, rfl, hB', by omega, fun _ => ⟨hB', c3⟩⟩ ?_
      (try dsimp only)
      rw [tn, tn, tn]
      omega
    · obtain ⟨rfl, c2⟩ := c
      refine hK _ _ ⟨rfl, b', 1, rfl, hB', by omega, fun e => by omega⟩ ?_
      (try dsimp only)
      rw [tn, tn, tn, tn]
      omega
end MREACH
