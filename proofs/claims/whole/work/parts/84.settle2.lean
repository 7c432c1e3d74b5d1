/-! rings are settled, by both; calls ring, rings, settles -/
/-- the debts as far as k -/
def rgK (d : Nat → Int) (n : Nat) (R : Nat → Nat) (x : Int) (k : Nat) : Nat → Int := if k < n then pushS d R x k else rgD d n R x
theorem rgK_s {d : Nat → Int} {n k : Nat} {R : Nat → Nat} {x : Int} (hk : k < n) : pay (rgK d n R x k) (nx n R k) (R k) x = rgK d n R x (k + 1) := by
  unfold rgK nx
  rw [if_pos hk]
  by_cases c : k + 1 < n
  · rw [if_pos c, if_pos c, pushS]
  · rw [if_neg c, if_neg c]
    unfold rgD
    rw [show n - 1 = k by omega]
theorem rgK_b {d : Nat → Int} {n k : Nat} {R : Nat → Nat} {x : Int} (hn : n ≤ 8) (hk : k < n) (hb : ∀ i, i < 64 → -999 ≤ d i ∧ d i ≤ 999) (hx : 0 ≤ x ∧ x ≤ 999) {i : Nat} (hi : i < 64) : -100000 ≤ rgK d n R x k i ∧ rgK d n R x k i ≤ 100000 := by
  unfold rgK
  rw [if_pos hk]
  have := pushS_b (P := R) hb hx k i hi
  omega
theorem brem_all : ∀ a, a < 9 → ∀ n, n < 9 → 1 ≤ n → brem ((a : Nat) : Int) ((n : Nat) : Int) = ((a % n : Nat) : Int) := by decide +kernel
theorem nx_mod {n k : Nat} {R : Nat → Nat} (hk : k < n) : R ((k + 1) % n) = nx n R k := by
  unfold nx
  by_cases c : k + 1 < n
  · rw [if_pos c, Nat.mod_eq_of_lt c]
  · rw [if_neg c, show k + 1 = n by omega, Nat.mod_self]
section CSET
variable {b : Nat} {B' : Bk} {Q : Int → Mem → Prop}
theorem s_settle2 (hb : 40 ≤ b) : ∀ (k : Nat) (B : Bk) (j : Nat) (σ : Mem), j + k ≤ 63 → IvA B → IvB B → CB b B σ → Srun k B B' → (∀ σ', CB b B' σ' → (∀ i, ¬ (32 ≤ i ∧ i ≤ 35) → i ≠ b + 2 → σ' i = σ i) → Q ((j + k : Nat) : Int) σ') → lp (fun (K2 : Int → Mem → Prop) (x : Int) (σ : Mem) => wX7_settleAll_2 b K2 Q x σ) (k + 1) (j : Int) σ := by
  intro k
  induction k with
  | zero =>
    intro B j σ hj hI hZ hC hS h
    obtain ⟨rfl, hn⟩ := hS
    show wX7_settleAll_2 b _ Q (j : Int) σ
    unfold wX7_settleAll_2
    refine ⟨fun z => absurd z (by omega), fun _ => s_find hb hC hI hZ (fun σ1 _ f1 => ⟨fun _ => ?_, fun q => absurd rfl q⟩) (fun σ1 n R hR _ _ _ _ => (hR.no hn).elim)⟩
    exact h σ1 (hC.fr (fun i a1 a2 => f1 i (by omega))) (fun i a1 _ => f1 i a1)
  | succ k ih =>
    intro B j σ hj hI hZ hC hS h
    obtain ⟨n, R, hR, hS1⟩ := hS
    have hN := hI.1
    show wX7_settleAll_2 b (lp _ (k + 1)) Q (j : Int) σ
    unfold wX7_settleAll_2
    refine ⟨fun z => absurd z (by omega), fun _ => s_find hb hC hI hZ (fun σ1 q _ => (hR.no q).elim) (fun σ1 n2 R2 hR2 e3 e35 e4 f1 => ⟨fun q => absurd q (by decide), fun _ => ?_⟩)⟩
    obtain ⟨en, eR⟩ := hR2.eq hR
    subst en
    have h3 := hR2.1.ge hN.2 hZ.1
    have hle := hR2.1.le
    have eS := setB_congr (B := B) (by omega) eR
    rw [← eS] at hS1
    have xb := rgL_b hI h3 hR2.1
    have a := set_A hI hZ hR2.1
    have C1 : CB b B σ1 := hC.fr (fun i a1 a2 => f1 i (by omega))
    unfold wLX7_settleAll_18
    refine lp_for (fun i y τ => y = ((j : Int), (i : Int)) ∧ CB b (wDeb B (rgK (deb B) n2 R2 (rgL (deb B) n2 R2 9999) i)) τ ∧ ∀ c, c ≠ b + 2 → τ c = σ1 c) n2 ?_ ?_ _ _ ⟨rfl, ?_, fun _ _ => rfl⟩
    · rintro i hi _ τ ⟨rfl, hT, hF⟩ K hK
      dsimp only [wX7_settleAll_18]
      have q := rg_nx hR2.1 hi
      have e3' : τ 32 3 = (n2 : Int) := by rw [hF 32 (by omega)]; exact e3
      have e35' : ∀ i, i < n2 → τ 35 i = ((R2 i : Nat) : Int) := fun i hi => by rw [hF 35 (by omega)]; exact e35 i hi
      refine ⟨fun z => absurd z (by rw [e3']; omega), fun _ => s_nextOn ⟨by omega, by omega⟩ e3' e35' hi (s_memAt (by omega) e35' hi ?_)⟩
      rw [hF 32 (by omega), e4]
      refine s_pay (by omega) (by omega) hT (rgK_b (by omega) hi hI.2.2.1 (by omega) (by omega)) (rgK_b (by omega) hi hI.2.2.1 (by omega) (by omega)) (by omega) (fun σ2 C2 f2 => ?_)
      rintro _ rfl
      refine hK _ _ ⟨by rw [w32_id (by omega) (by omega)]; rfl, ?_, fun c hc => by rw [f2 c hc]; exact hF c hc⟩
      rw [← rgK_s hi]; exact C2
    · rintro _ τ ⟨rfl, hT, hF⟩ K
      dsimp only [wX7_settleAll_18]
      have e3' : τ 32 3 = (n2 : Int) := by rw [hF 32 (by omega)]; exact e3
      refine ⟨fun _ => ?_, fun z => absurd z (by rw [e3']; omega)⟩
      rintro _ rfl
      rw [show w32 ((j : Int) + 1) = ((j + 1 : Nat) : Int) by rw [w32_id (by omega) (by omega)]; rfl]
      have CT : CB b (setB B n2 R2) τ := by
        unfold rgK at hT
        rw [if_neg (by omega)] at hT
        exact hT
      refine ih (setB B n2 R2) (j + 1) τ (by omega) a.1 a.2.1 CT hS1 (fun σ' C' f' => ?_)
      rw [show j + 1 + k = j + (k + 1) by omega]
      exact h σ' C' (fun i a1 a2 => by rw [f' i a1 a2, hF i a2]; exact f1 i a1)
    · unfold rgK
      rw [if_pos (by omega)]; exact C1
theorem s_settleAll {k : Nat} {B : Bk} {σ : Mem} (hb : 40 ≤ b) (hk : k ≤ 63) (hI : IvA B) (hZ : IvB B) (hC : CB b B σ) (hS : Srun k B B') (h : ∀ σ', CB b B' σ' → (∀ i, ¬ (32 ≤ i ∧ i ≤ 35) → i ≠ b + 2 → σ' i = σ i) → Q ((k : Nat) : Int) σ') : wX7_settleAll b σ Q := by
  unfold wX7_settleAll wLX7_settleAll_2
  refine ⟨k + 1, s_settle2 hb k B 0 σ (by omega) hI hZ hC hS (fun σ' c f => ?_)⟩
  rw [Nat.zero_add]
  exact h σ' c f
end CSET
section MSET
variable {B' : Bk} {Q : Int → Mem → Prop}
theorem m_leastDebt {B : Bk} {σ : Mem} {n : Nat} {R : Nat → Nat} (hI : IvA B) (h3 : 3 ≤ n) (hM : MN σ B) (hRg : Rg (nN B) (deb B) n R) (hR : ∀ i, i < n → σ 320 i = ((R i : Nat) : Int)) (h : Q (rgL (deb B) n R 9999) σ) : wX11_leastDebt (n : Int) σ Q := by
  have hN := hI.1
  have hle := hRg.le
  unfold wX11_leastDebt wLX11_leastDebt_5
  refine lp_for (fun k y τ => τ = σ ∧ y = ((n : Int), rgM (deb B) n R 2147483647 k, (k : Int))) n ?_ ?_ _ _ ⟨rfl, ?_⟩
  · rintro k hk _ σ ⟨rfl, rfl⟩ K hK
    dsimp only [wX11_leastDebt_5]
    have q := rg_nx hRg hk
    have hm : (k + 1) % n < n := Nat.mod_lt _ (by omega)
    rw [show w32 ((k : Int) + 1) = ((k + 1 : Nat) : Int) by rw [w32_id (by omega) (by omega)]; rfl, brem_all (k + 1) (by omega) n (by omega) (by omega), tn, tn, hR k hk, hR _ hm, nx_mod (R := R) hk]
    refine ⟨fun z => absurd z (by omega), fun _ => ⟨⟨by omega, by omega⟩, by omega, by omega, m_owes hM (by omega) (by omega) ?_⟩⟩
    rintro _ rfl _ rfl
    refine hK _ _ ⟨rfl, ?_⟩
    rw [rgM_s hk, owe_eq q.2.2]
  · rintro _ σ ⟨rfl, rfl⟩ K
    dsimp only [wX11_leastDebt_5]
    refine ⟨fun _ => ?_, fun z => absurd z (by omega)⟩
    unfold rgM
    rw [if_neg (by omega), rgL_cap (c' := 9999) (by omega) (fun i hi => by have := hI.2.2.1 i hi; omega) (fun i hi => by have := hRg.2.1 i hi; omega)]; exact h
  · unfold rgM
    rw [if_pos (by omega)]; rfl
theorem m_settle7 : ∀ (k : Nat) (B : Bk) (j : Nat) (many : Int) (σ : Mem), j + k ≤ 1000 → IvA B → IvB B → MN σ B → Srun k B B' → ((NoRg (nN B) (deb B) ∧ many = 0) ∨ ∃ n R, IsRg (nN B) (deb B) n R ∧ many = ((n : Nat) : Int) ∧ ∀ i, i < n → σ 320 i = ((R i : Nat) : Int)) → (∀ σ', MN σ' B' → (∀ i, i ≠ 301 → i ≠ 320 → σ' i = σ i) → Q ((j + k : Nat) : Int) σ') → lp (fun (K7 : (Int × Int) → Mem → Prop) (x : Int × Int) (σ : Mem) => wX11_goSettle_7 K7 Q x.1 x.2 σ) (k + 1) ((j : Int), many) σ := by
  intro k
  induction k with
  | zero =>
    intro B j many σ hj hI hZ hM hS hc h
    obtain ⟨rfl, hn⟩ := hS
    show wX11_goSettle_7 _ Q (j : Int) many σ
    unfold wX11_goSettle_7
    rcases hc with ⟨_, rfl⟩ | ⟨n, R, hR, _, _⟩
    · exact ⟨fun _ => h σ hM (fun _ _ _ => rfl), fun z => absurd (Int.le_refl _) z⟩
    · exact (hR.no hn).elim
  | succ k ih =>
    intro B j many σ hj hI hZ hM hS hc h
    obtain ⟨n, R, hR, hS1⟩ := hS
    have hN := hI.1
    show wX11_goSettle_7 (lp _ (k + 1)) Q (j : Int) many σ
    rcases hc with ⟨hn, _⟩ | ⟨n2, R2, hR2, rfl, e320⟩
    · exact (hR.no hn).elim
    obtain ⟨en, eR⟩ := hR2.eq hR
    subst en
    have h3 := hR2.1.ge hN.2 hZ.1
    have hle := hR2.1.le
    have eS := setB_congr (B := B) (by omega) eR
    rw [← eS] at hS1
    have xb := rgL_b hI h3 hR2.1
    have a := set_A hI hZ hR2.1
    unfold wX11_goSettle_7
    refine ⟨fun z => absurd z (by omega), fun _ => m_leastDebt hI h3 hM hR2.1 e320 ?_⟩
    unfold wLX11_goSettle_20
    refine lp_for (fun i y τ => y = ((j : Int), (n2 : Int), rgL (deb B) n2 R2 9999, (i : Int)) ∧ MN τ (wDeb B (rgK (deb B) n2 R2 (rgL (deb B) n2 R2 9999) i)) ∧ ∀ c, c ≠ 301 → τ c = σ c) n2 ?_ ?_ _ _ ⟨rfl, ?_, fun _ _ => rfl⟩
    · rintro i hi _ τ ⟨rfl, hT, hF⟩ K hK
      dsimp only [wX11_goSettle_20]
      have q := rg_nx hR2.1 hi
      have hm : (i + 1) % n2 < n2 := Nat.mod_lt _ (by omega)
      rw [show w32 ((i : Int) + 1) = ((i + 1 : Nat) : Int) by rw [w32_id (by omega) (by omega)]; rfl, brem_all (i + 1) (by omega) n2 (by omega) (by omega), tn, tn, hF 320 (by omega), e320 i hi, e320 _ hm, nx_mod (R := R2) hi]
      refine ⟨fun z => absurd z (by omega), fun _ => ⟨by omega, by omega, by omega, m_straight hT (by omega) (by omega) (rgK_b (by omega) hi hI.2.2.1 (by omega) (by omega)) (rgK_b (by omega) hi hI.2.2.1 (by omega) (by omega)) (by omega) (fun σ2 M2 f2 => ?_)⟩⟩
      rintro _ rfl
      refine hK _ _ ⟨rfl, ?_, fun c hc => by rw [f2 c hc]; exact hF c hc⟩
      rw [← rgK_s hi]; exact M2
    · rintro _ τ ⟨rfl, hT, hF⟩ K
      dsimp only [wX11_goSettle_20]
      refine ⟨fun _ => ?_, fun z => absurd z (by omega)⟩
      rintro _ rfl
      rw [show w32 ((j : Int) + 1) = ((j + 1 : Nat) : Int) by rw [w32_id (by omega) (by omega)]; rfl]
      have MT2 : MN τ (setB B n2 R2) := by
        unfold rgK at hT
        rw [if_neg (by omega)] at hT
        exact hT
      refine m_findRing a.1 a.2.1 MT2 (fun σ3 hn f3 => ?_) (fun σ3 n3 R3 hR3 e3 f3 => ?_)
      · refine ih (setB B n2 R2) (j + 1) 0 σ3 (by omega) a.1 a.2.1 (by unfold MN; rw [f3 301 (by omega)]; exact MT2) hS1 (Or.inl ⟨hn, rfl⟩) (fun σ' M' f' => ?_)
        rw [show j + 1 + k = j + (k + 1) by omega]
        exact h σ' M' (fun i a1 a2 => by rw [f' i a1 a2, f3 i a2, hF i a1])
      · refine ih (setB B n2 R2) (j + 1) n3 σ3 (by omega) a.1 a.2.1 (by unfold MN; rw [f3 301 (by omega)]; exact MT2) hS1 (Or.inr ⟨n3, R3, hR3, rfl, e3⟩) (fun σ' M' f' => ?_)
        rw [show j + 1 + k = j + (k + 1) by omega]
        exact h σ' M' (fun i a1 a2 => by rw [f' i a1 a2, f3 i a2, hF i a1])
    · unfold rgK
      rw [if_pos (by omega)]; exact hM
theorem m_goSettle {k : Nat} {B : Bk} {σ : Mem} (hk : k ≤ 1000) (hI : IvA B) (hZ : IvB B) (hM : MN σ B) (hS : Srun k B B') (h : ∀ σ', MN σ' B' → (∀ i, i ≠ 301 → i ≠ 320 → σ' i = σ i) → Q ((k : Nat) : Int) σ') : wX11_goSettle σ Q := by
  unfold wX11_goSettle
  refine m_findRing hI hZ hM (fun σ3 hn f3 => ?_) (fun σ3 n3 R3 hR3 e3 f3 => ?_)
  · unfold wLX11_goSettle_7
    refine ⟨k + 1, m_settle7 k B 0 0 σ3 (by omega) hI hZ (by unfold MN; rw [f3 301 (by omega)]; exact hM) hS (Or.inl ⟨hn, rfl⟩) (fun σ' M' f' => ?_)⟩
    rw [Nat.zero_add]
    exact h σ' M' (fun i a1 a2 => by rw [f' i a1 a2, f3 i a2])
  · unfold wLX11_goSettle_7
    refine ⟨k + 1, m_settle7 k B 0 n3 σ3 (by omega) hI hZ (by unfold MN; rw [f3 301 (by omega)]; exact hM) hS (Or.inr ⟨n3, R3, hR3, rfl, e3⟩) (fun σ' M' f' => ?_)⟩
    rw [Nat.zero_add]
    exact h σ' M' (fun i a1 a2 => by rw [f' i a1 a2, f3 i a2])
end MSET
theorem op_ring : OpOK wX10_ring wX11_ring := by
  refine OpOK.of (fun X hI => ?_)
  have hN := hI.1.1.1
  rcases ex_Rg (nN X.1) (deb X.1) with hn | ⟨n, R, hR⟩
  · refine ⟨-2, X, fun σ Q hC h => ?_, fun σ Q hM h => ?_, hI⟩
    · unfold wX10_ring
      refine s_find (by omega) hC.1 hI.1.1 hI.1.2.1 (fun σ1 _ f1 => ⟨fun q => absurd rfl q, fun _ => ?_⟩) (fun σ1 n R hR _ _ _ _ => (hR.no hn).elim)
      exact h σ1 (hC.fr (fun i a1 a2 a3 a4 => f1 i (by omega))) (fun i hi => f1 i (by omega))
    · unfold wX11_ring
      rintro m1 rfl
      have hM1 := hM.thr (v := 0)
      refine m_findRing hI.1.1 hI.1.2.1 hM1.1 (fun σ3 _ f3 => ⟨fun q => absurd rfl q, fun _ => ?_⟩) (fun σ3 n3 R3 hR3 e3 f3 => (hR3.no hn).elim)
      exact h σ3 (hM1.fr (fun j _ => by rw [f3 300 (by omega)]) (fun i hi => f3 i (by omega))) (fun i hi => by rw [f3 i (by omega), fr2 hi])
  · have h3 := hR.1.ge hN.2 hI.1.2.1.1
    have hle := hR.1.le
    have xb := rgL_b hI.1.1 h3 hR.1
    refine ⟨(n : Int), wL X (wayR n R ++ [rgL (deb X.1) n R 9999]), fun σ Q hC h => ?_, fun σ Q hM h => ?_, xi_row hI ⟨fun y hy => ?_, by rw [List.length_append, wayR_len]; simp; omega⟩⟩
    · unfold wX10_ring
      refine s_find (by omega) hC.1 hI.1.1 hI.1.2.1 (fun σ1 q _ => (hR.no q).elim) (fun σ1 n2 R2 hR2 e3 e35 e4 f1 => ⟨fun _ => ?_, fun q => absurd q (by decide)⟩)
      obtain ⟨en, eR⟩ := hR2.eq hR
      subst en
      have eL : rgL (deb X.1) n2 R2 9999 = rgL (deb X.1) n2 R 9999 := by
        unfold rgL
        rw [leastS_congr (n2 - 1) (fun i hi => eR i (by omega)), eR (n2 - 1) (by omega), eR 0 (by omega)]
      have e35' : ∀ i, i < n2 → σ1 35 i = ((R i : Nat) : Int) := fun i hi => by rw [e35 i hi, eR i hi]
      have C1 : CSt X σ1 := hC.fr (fun i a1 a2 a3 a4 => f1 i (by omega))
      refine c_begin (fun σ2 r2 f2 => ?_)
      unfold wLX10_ring_26
      refine lp_for (fun k y τ => y = (k : Int) ∧ CR (wayR k R) τ ∧ ∀ i, i ≠ 12 → i ≠ 13 → τ i = σ1 i) n2 ?_ ?_ _ _ ⟨rfl, r2, fun i a1 _ => f2 i a1⟩
      · rintro k hk _ τ ⟨rfl, hT, hF⟩ K hK
        dsimp only [wX10_ring_26]
        have e3' : τ 32 3 = (n2 : Int) := by rw [hF 32 (by omega) (by omega)]; exact e3
        refine ⟨fun z => absurd z (by rw [e3']; omega), fun _ => s_memAt (n := n2) (R := R) (by omega) (fun i hi => by rw [hF 35 (by omega) (by omega)]; exact e35' i hi) hk (c_addn hT (by rw [wayR_len]; omega) (fun σ3 r3 f3 => ?_))⟩
        rintro _ rfl
        exact hK _ _ ⟨by rw [w32_id (by omega) (by omega)]; rfl, by rw [wayR_s]; exact r3, fun i a1 a2 => by rw [f3 i a1 a2]; exact hF i a1 a2⟩
      · rintro _ τ ⟨rfl, hT, hF⟩ K
        dsimp only [wX10_ring_26]
        have e3' : τ 32 3 = (n2 : Int) := by rw [hF 32 (by omega) (by omega)]; exact e3
        refine ⟨fun _ => ?_, fun z => absurd z (by rw [e3']; omega)⟩
        rw [hF 32 (by omega) (by omega), e4, eL]
        refine c_addn hT (by rw [wayR_len]; omega) (fun σ3 r3 f3 => ?_)
        rw [show σ3 32 3 = (n2 : Int) by rw [f3 32 (by omega) (by omega)]; exact e3']
        exact h σ3 (C1.row r3 (fun i a1 a2 _ => by rw [f3 i a1 a2]; exact hF i a1 a2)) (fun i hi => by rw [f3 i (by omega) (by omega), hF i (by omega) (by omega)]; exact f1 i (by omega))
    · unfold wX11_ring
      rintro m1 rfl
      have hM1 := hM.thr (v := 0)
      refine m_findRing hI.1.1 hI.1.2.1 hM1.1 (fun σ3 q _ => (hR.no q).elim) (fun σ3 n2 R2 hR2 e3 f3 => ?_)
      obtain ⟨en, eR⟩ := hR2.eq hR
      subst en
      have e3' : ∀ i, i < n2 → σ3 320 i = ((R i : Nat) : Int) := fun i hi => by rw [e3 i hi, eR i hi]
      refine ⟨fun _ => ?_, fun q => absurd q (by omega)⟩
      have M3 : MSt X σ3 := hM1.fr (fun j _ => by rw [f3 300 (by omega)]) (fun i hi => f3 i (by omega))
      rintro m4 e4
      have M4 : MSt (wL X []) m4 := by rw [e4]; exact mo_row0 M3
      have F4 : ∀ i, i < 300 ∨ i = 340 → m4 i = σ i := fun i hi => by rw [e4, up2_ne (by omega), f3 i (by omega), fr2 hi]
      have r4 : ∀ i, i < n2 → m4 320 i = ((R i : Nat) : Int) := fun i hi => by rw [e4, up2_ne (by omega)]; exact e3' i hi
      clear e4
      unfold wLX11_ring_24
      refine lp_for (fun k y τ => y = ((n2 : Int), (k : Int)) ∧ MSt (wL X (wayR k R)) τ ∧ (∀ i, i ≠ 300 → i ≠ 304 → τ i = m4 i)) n2 ?_ ?_ _ _ ⟨rfl, M4, fun _ _ _ => rfl⟩
      · rintro k hk _ τ ⟨rfl, hT, hF⟩ K hK
        dsimp only [wX11_ring_24]
        rw [tn, hF 320 (by omega) (by omega), r4 k hk]
        refine ⟨fun z => absurd z (by omega), fun _ => ⟨⟨by omega, by omega⟩, mo_tell hT (by show (wayR k R).length < 2400; rw [wayR_len]; omega) (fun σ5 M5 f5 j5 => ?_)⟩⟩
        rintro _ rfl
        exact hK _ _ ⟨by rw [w32_id (by omega) (by omega)]; rfl, by rw [wayR_s]; exact M5, fun i a1 a2 => by rw [f5 i a1 a2]; exact hF i a1 a2⟩
      · rintro _ τ ⟨rfl, hT, hF⟩ K
        dsimp only [wX11_ring_24]
        refine ⟨fun _ => m_leastDebt hI.1.1 h3 hT.1 hR.1 (fun i hi => by rw [hF 320 (by omega) (by omega)]; exact r4 i hi) ?_, fun z => absurd z (by omega)⟩
        refine mo_tell hT (by show (wayR n2 R).length < 2400; rw [wayR_len]; omega) (fun σ5 M5 f5 j5 => ?_)
        exact h σ5 M5 (fun i hi => by rw [f5 i (by omega) (by omega), hF i (by omega) (by omega)]; exact F4 i hi)
    · rcases List.mem_append.mp hy with q | q
      · exact (wayR_b (L := n) (P := R) (by omega) (fun i hi => by have := hR.1.2.1 i hi; omega)).1 y q
      · simp at q
        omega
theorem oweAll_b {B : Bk} (hI : IvA B) : 0 ≤ oweAll B ∧ oweAll B ≤ 63936 := by
  have := sumTo_le (f := fun i => max (deb B i) 0) (n := 64) (a := 0) (b := 999) (fun i hi => by
    have := hI.2.2.1 i hi
    (try dsimp only)
    omega)
  unfold oweAll
  omega
theorem op_rings : OpOK wX10_rings wX11_rings := by
  refine OpOK.of (fun X hI => ?_)
  have hN := hI.1.1.1
  obtain ⟨k, B', hS, hk⟩ := ex_Srun 56 X.1 hI.1.1 hI.1.2.1 (cnt_62 hI.1.1 hI.1.2.1)
  have kp := hS.keep hI.1.1 hI.1.2.1
  have ob := oweAll_b kp.1
  refine ⟨(k : Int), wL X [oweAll B'], fun σ Q hC h => ?_, fun σ Q hM h => ?_, xi_row hI ⟨fun y hy => ?_, by simp⟩⟩
  · unfold wX10_rings
    refine s_copyFrom (b := 72) (by omega) hC.1 (fun σ1 C1 f1 => ?_)
    refine s_settleAll (by omega) (by omega) hI.1.1 hI.1.2.1 C1 hS (fun σ2 C2 f2 => ?_)
    refine s_owedInAll C2 kp.1 (c_tell1 (fun σ3 r3 f3 => ?_))
    have F2 : ∀ i, ¬ (32 ≤ i ∧ i ≤ 35) → ¬ (72 ≤ i ∧ i < 85) → σ2 i = σ i := fun i a1 a2 => by rw [f2 i a1 (by omega)]; exact f1 i (by omega)
    have S2 : CSt X σ2 := hC.fr (fun i a1 a2 a3 a4 => F2 i (by omega) (by omega))
    exact h σ3 (S2.row r3 (fun i a1 a2 _ => f3 i a1 a2)) (fun i hi => by rw [f3 i (by omega) (by omega)]; exact F2 i (by omega) (by omega))
  · unfold wX11_rings
    rintro m1 rfl
    have hM1 := hM.thr (v := 0)
    refine m_layAside (d := 0) hM1.1 (by omega) (fun σ1 a1 k1 f1 => ?_)
    have M1 : MSt X σ1 := hM1.fr (fun j _ => by rw [f1 300 (by omega)]) (fun i hi => f1 i (by omega))
    refine m_goSettle (by omega) hI.1.1 hI.1.2.1 M1.1 hS (fun σ2 M2 f2 => ?_)
    have MS2 : MSt (wB X B') σ2 := M1.bk M2 (M1.2.2.2.2.1.fr (by rw [f2 300 (by omega) (by omega)]) (f2 304 (by omega) (by omega))) (fun i hi => f2 i (by omega) (by omega)) (fun j hj => by rw [f2 300 (by omega) (by omega)])
    rintro m5 e5
    have M5 : MSt (wL (wB X B') []) m5 := by rw [e5]; exact mo_row0 MS2
    refine m_allDebts M5.1 kp.1 kp.2.1 (mo_tell M5 (by simp) (fun σ6 M6 f6 j6 => ?_))
    refine m_comesBack (B := X.1) (d := 0) (by rw [f6 316 (by omega) (by omega), e5, up2_ne (by omega), f2 316 (by omega) (by omega)]; exact a1) (by omega) (fun σ7 M7 f7 => ?_)
    exact h σ7 (M6.now M7 f7) (fun i hi => by rw [f7 i (by omega), f6 i (by omega) (by omega), e5, up2_ne (by omega), f2 i (by omega) (by omega), f1 i (by omega), fr2 hi])
  · simp at hy
    omega
def aSettle (B : Bk) (L : List Int) (k : Nat) (B' : Bk) : Act := if heldB B ≠ 0 then (-5, B, L) else if k = 0 then (-2, B, L) else ((k : Int), B', [oweAll B - oweAll B'])
theorem ca_settle {B B' : Bk} {L : List Int} {k : Nat} (hI : IvA B) (hZ : IvB B) (hk : k ≤ 63) (hS : Srun k B B') : CAct B L (fun τ Q => wX10_settleRings τ Q) (aSettle B L k B') := by
  intro τ Q hC hR h
  have kp := hS.keep hI hZ
  have o1 := oweAll_b hI
  have o2 := oweAll_b kp.1
  show wX10_settleRings τ Q
  unfold wX10_settleRings
  refine s_holdsAny hC (fun hh => ⟨fun z => absurd z (by decide), fun _ => ?_⟩) (fun hh => ⟨fun _ => ?_, fun z => absurd rfl z⟩)
  · have ea : aSettle B L k B' = (-5, B, L) := by unfold aSettle; rw [if_pos hh]
    rw [ea] at h
    exact h _ hC hR (fun _ _ _ => rfl)
  · refine s_owedInAll hC hI (s_settleAll (by omega) hk hI hZ hC hS (fun σ2 C2 f2 => ⟨fun z => ?_, fun z => ?_⟩))
    · have ea : aSettle B L k B' = ((k : Int), B', [oweAll B - oweAll B']) := by unfold aSettle; rw [if_neg (fun q => q hh), if_neg (by omega)]
      rw [ea] at h
      refine s_owedInAll C2 kp.1 ?_
      rw [w32_id (by omega) (by omega)]
      exact c_tell1 (fun σ3 r3 f3 => h σ3 (C2.fr (fun i a1 a2 => f3 i (by omega) (by omega))) r3 (fun i a1 a2 => by rw [f3 i (by omega) (by omega)]; exact f2 i (by omega) (by omega)))
    · have hk0 : k = 0 := by omega
      subst hk0
      obtain ⟨rfl, _⟩ := hS
      have ea : aSettle B' L 0 B' = (-2, B', L) := by unfold aSettle; rw [if_neg (fun q => q hh), if_pos rfl]
      rw [ea] at h
      exact h σ2 C2 (hR.fr (f2 12 (by omega) (by omega)) (f2 13 (by omega) (by omega))) (fun i a1 a2 => f2 i (by omega) (by omega))
theorem op_settles : OpOK wX10_settles wX11_settles := by
  refine OpOK.of (fun X hI => ?_)
  have hN := hI.1.1.1
  obtain ⟨k, B', hS, hk⟩ := ex_Srun 56 X.1 hI.1.1 hI.1.2.1 (cnt_62 hI.1.1 hI.1.2.1)
  have kp := hS.keep hI.1.1 hI.1.2.1
  have o1 := oweAll_b hI.1.1
  have o2 := oweAll_b kp.1
  refine ⟨_, _, cto_rem (ca_settle hI.1.1 hI.1.2.1 (by omega) hS), fun σ Q hM h => ?_, xi_rem hI ?_ ?_⟩
  · unfold wX11_settles
    rintro m1 rfl
    have hM1 := hM.thr (v := 0)
    refine m_heldBits hM1.1 ⟨fun hh => ?_, fun hh => ?_⟩
    · refine m_findRing hI.1.1 hI.1.2.1 hM1.1 (fun σ3 hn f3 => ⟨fun q => absurd rfl q, fun _ => ?_⟩) (fun σ3 n3 R3 hR3 e3 f3 => ⟨fun _ => ?_, fun q => ?_⟩)
      · have hk0 : k = 0 := by
          cases k with
          | zero => rfl
          | succ k =>
            obtain ⟨n, R, hR, _⟩ := hS
            exact (hR.no hn).elim
        subst hk0
        have ea : aSettle X.1 X.2.2.2.2 0 B' = (-2, X.1, X.2.2.2.2) := by unfold aSettle; rw [if_neg (fun q => q hh), if_pos rfl]
        rw [remX_neg ea (by omega), ea] at h
        exact h σ3 (hM1.fr (fun j _ => by rw [f3 300 (by omega)]) (fun i hi => f3 i (by omega))) (fun i hi => by rw [f3 i (by omega), fr2 hi])
      · have hk0 : k ≠ 0 := by
          rintro rfl
          exact hR3.no hS.2
        have ea : aSettle X.1 X.2.2.2.2 k B' = ((k : Int), B', [oweAll X.1 - oweAll B']) := by unfold aSettle; rw [if_neg (fun q => q hh), if_neg hk0]
        rw [ea, remX_pos rfl (by omega)] at h
        have M3 : MSt X σ3 := hM1.fr (fun j _ => by rw [f3 300 (by omega)]) (fun i hi => f3 i (by omega))
        refine mo_change M3 hI.2.2.1.2 (fun σ4 M4 f4 => ?_)
        refine m_allDebts (B := X.1) M4.1 hI.1.1 hI.1.2.1 (m_goSettle (B := X.1) (by omega) hI.1.1 hI.1.2.1 M4.1 hS (fun σ5 M5 f5 => ?_))
        have MS5 := M4.bk M5 (M4.2.2.2.2.1.fr (by rw [f5 300 (by omega) (by omega)]) (f5 304 (by omega) (by omega))) (fun i hi => f5 i (by omega) (by omega)) (fun j hj => by rw [f5 300 (by omega) (by omega)])
        rintro m6 e6
        have M6 := mo_row0 MS5
        rw [← e6] at M6
        refine m_allDebts (B := B') M6.1 kp.1 kp.2.1 ?_
        rw [w32_id (by omega) (by omega)]
        refine mo_tell M6 (by simp) (fun σ7 M7 f7 j7 => ?_)
        exact h σ7 M7 (fun i hi => by rw [f7 i (by omega) (by omega), e6, up2_ne (by omega), f5 i (by omega) (by omega), f4 i (by omega) (by omega) (by omega), f3 i (by omega), fr2 hi])
      · have := hR3.1.1
        omega
    · have ea : aSettle X.1 X.2.2.2.2 k B' = (-5, X.1, X.2.2.2.2) := by unfold aSettle; rw [if_pos hh]
      rw [remX_neg ea (by omega), ea] at h
      exact h _ hM1 (fun i hi => fr2 hi)
  · unfold aSettle
    split
    · exact hI.1
    · rename_i hh
      split
      · exact hI.1
      · exact kp.2.2.2.2 (by omega) hI.1
  · unfold aSettle
    split
    · exact hI.2.2.2.2
    · split
      · exact hI.2.2.2.2
      · refine ⟨fun y hy => ?_, by simp⟩
        simp at hy
        omega
