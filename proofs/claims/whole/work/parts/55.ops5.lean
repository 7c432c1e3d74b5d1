/-- pairs, the most, who -/
def dbt (B : Bk) : Nat → Int × Int × Int
  | 0 => (0, 0, -1)
  | u + 1 => if oweOf B u ≤ (dbt B u).2.1 then ((dbt B u).1 + sumTo (fun v => pos1 (owe B u v)) (nN B), (dbt B u).2.1, (dbt B u).2.2) else ((dbt B u).1 + sumTo (fun v => pos1 (owe B u v)) (nN B), oweOf B u, (u : Int))
theorem dbt_b {B : Bk} (hI : IvA B) : ∀ n, n ≤ nN B → (0 ≤ (dbt B n).1 ∧ (dbt B n).1 ≤ 8 * n) ∧ (0 ≤ (dbt B n).2.1 ∧ (dbt B n).2.1 ≤ 7992) ∧ (((dbt B n).2.2 = -1 ∧ (dbt B n).2.1 = 0) ∨ ∃ u : Nat, u < n ∧ (dbt B n).2.2 = (u : Int) ∧ (dbt B n).2.1 = oweOf B u) := by
  have hN := hI.1
  intro n
  induction n with
  | zero => intro _; simp [dbt]
  | succ n ih =>
    intro hn
    obtain ⟨h1, h2, h3⟩ := ih (by omega)
    have hs := sumTo_le (f := fun v => pos1 (owe B n v)) (n := nN B) (a := 0) (b := 1) (fun v _ => pos1_b _)
    have ho := oweOf_b hI (u := n) (by omega)
    unfold dbt
    split
    · refine ⟨⟨by dsimp only; omega, by dsimp only; omega⟩, h2, ?_⟩
      rcases h3 with h3 | ⟨u, a1, a2⟩
      · exact Or.inl h3
      · exact Or.inr ⟨u, by omega, a2⟩
    · exact ⟨⟨by dsimp only; omega, by dsimp only; omega⟩, ho, Or.inr ⟨n, by omega, rfl, rfl⟩⟩
def oDebts (X : St) : Int × St := (oweAll X.1, wL X [(dbt X.1 (nN X.1)).1, (dbt X.1 (nN X.1)).2.2, (dbt X.1 (nN X.1)).2.1])
theorem op_debts : OpOK (wX10_debts) (wX11_debts) := by
  refine ⟨oDebts, ?_, ?_, ?_⟩
  · intro X σ Q hI hC h
    have hN := hI.1.1.1
    have e := hC.1.1
    unfold wX10_debts wLX10_debts_9
    refine lp_for (fun u x τ => τ = σ ∧ x = ((dbt X.1 u).1, (dbt X.1 u).2.1, (dbt X.1 u).2.2, (u : Int))) (nN X.1) ?_ ?_ _ _ ⟨rfl, rfl⟩
    · rintro u hu _ τ ⟨rfl, rfl⟩ K hK
      dsimp only [wX10_debts_9]
      have db := dbt_b hI.1.1 u (by omega)
      refine ⟨fun z => absurd z (by rw [e]; omega), fun _ => ?_⟩
      unfold wLX10_debts_27
      refine lp_for (fun v x ρ => ρ = τ ∧ x = ((dbt X.1 u).1 + sumTo (fun v => pos1 (owe X.1 u v)) v, (dbt X.1 u).2.1, (dbt X.1 u).2.2, (u : Int), sumTo (fun v => owe X.1 u v) v, (v : Int))) (nN X.1) ?_ ?_ _ _ ⟨rfl, by simp [sumTo]⟩
      · rintro v hv _ _ ⟨rfl, rfl⟩ K2 hK2
        dsimp only [wX10_debts_27, wX10_debts_70]
        have s1 := sumTo_le (f := fun v => pos1 (owe X.1 u v)) (n := v) (a := 0) (b := 1) (fun v _ => pos1_b _)
        have s2 := sumTo_le (f := fun v => owe X.1 u v) (n := v) (a := 0) (b := 999) (fun v hv => owe_b hI.1.1 (by omega) (by omega))
        have s3 := owe_b hI.1.1 (u := u) (v := v) (by omega) (by omega)
        refine ⟨fun z => absurd z (by rw [e]; omega), fun _ => s_owed (by omega) (by omega) hC.1 ?_⟩
        rintro _ rfl
        refine ⟨fun z => ?_, fun z => ?_⟩
        · rintro _ rfl _ rfl
          refine hK2 _ _ ⟨rfl, ?_⟩
          have p0 : pos1 (owe X.1 u v) = 0 := by unfold pos1; rw [if_pos z]
          rw [w32_id (by omega) (by omega), w32_id (by omega) (by omega), w32_id (by omega) (by omega), sumTo_s, sumTo_s, p0, Int.add_assoc]
          rfl
        · rintro _ rfl _ rfl
          refine hK2 _ _ ⟨rfl, ?_⟩
          have p0 : pos1 (owe X.1 u v) = 1 := by unfold pos1; rw [if_neg z]
          rw [w32_id (by omega) (by omega), w32_id (by omega) (by omega), w32_id (by omega) (by omega), sumTo_s, sumTo_s, p0, Int.add_assoc]
          rfl
      · rintro _ _ ⟨rfl, rfl⟩ K2
        dsimp only [wX10_debts_27]
        refine ⟨fun _ => ⟨fun z => ?_, fun z => ?_⟩, fun z => absurd z (by rw [e]; omega)⟩
        · rintro _ rfl
          refine hK _ _ ⟨rfl, ?_⟩
          rw [w32_id (by omega) (by omega), dbt, if_pos (show oweOf X.1 u ≤ _ from z)]
          rfl
        · rintro _ rfl
          refine hK _ _ ⟨rfl, ?_⟩
          rw [w32_id (by omega) (by omega), dbt, if_neg (show ¬ oweOf X.1 u ≤ _ from z)]
          rfl
    · rintro _ _ ⟨rfl, rfl⟩ K
      dsimp only [wX10_debts_9]
      refine ⟨fun _ => c_tell3 (fun σ1 r1 f1 => ?_), fun z => absurd z (by rw [e]; omega)⟩
      have hC1 := hC.row r1 (fun i a1 a2 _ => f1 i a1 a2)
      exact s_owedInAll hC1.1 hI.1.1 (h _ hC1 (fun i hi => f1 i (by omega) (by omega)))
  · intro X σ Q hI hM h
    have hN := hI.1.1.1
    unfold wX11_debts
    rintro m1 rfl
    have hM1 := hM.thr (v := 0)
    have e := hM1.1.1
    unfold wLX11_debts_11
    refine lp_for (fun u x τ => τ = up2 σ 300 5 0 ∧ x = ((dbt X.1 u).1, (dbt X.1 u).2.2, (u : Int))) (nN X.1) ?_ ?_ _ _ ⟨rfl, rfl⟩
    · rintro u hu _ _ ⟨rfl, rfl⟩ K hK
      dsimp only [wX11_debts_11]
      have db := dbt_b hI.1.1 u (by omega)
      refine ⟨fun z => absurd z (by rw [e]; omega), fun _ => ?_⟩
      unfold wLX11_debts_24
      refine lp_for (fun v x ρ => ρ = up2 σ 300 5 0 ∧ x = ((dbt X.1 u).1 + sumTo (fun v => pos1 (owe X.1 u v)) v, (dbt X.1 u).2.2, (u : Int), (v : Int))) (nN X.1) ?_ ?_ _ _ ⟨rfl, by simp [sumTo]⟩
      · rintro v hv _ _ ⟨rfl, rfl⟩ K2 hK2
        dsimp only [wX11_debts_24, wX11_debts_51]
        have s1 := sumTo_le (f := fun v => pos1 (owe X.1 u v)) (n := v) (a := 0) (b := 1) (fun v _ => pos1_b _)
        refine ⟨fun z => absurd z (by rw [e]; omega), fun _ => m_owes hM1.1 (by omega) (by omega) ⟨fun z => ?_, fun z => ?_⟩⟩
        · rintro _ rfl _ rfl
          refine hK2 _ _ ⟨rfl, ?_⟩
          have p0 : pos1 (owe X.1 u v) = 0 := by unfold pos1; rw [if_pos z]
          rw [w32_id (by omega) (by omega), w32_id (by omega) (by omega), sumTo_s, p0, Int.add_assoc]
          rfl
        · rintro _ rfl _ rfl
          refine hK2 _ _ ⟨rfl, ?_⟩
          have p0 : pos1 (owe X.1 u v) = 1 := by unfold pos1; rw [if_neg z]
          rw [w32_id (by omega) (by omega), w32_id (by omega) (by omega), sumTo_s, p0, Int.add_assoc]
          rfl
      · rintro _ _ ⟨rfl, rfl⟩ K2
        dsimp only [wX11_debts_24, wX11_debts_78]
        have fin : ∀ s0, s0 = (dbt X.1 u).2.1 → ((oweOf X.1 u ≤ s0 → ∀ x1, x1 = w32 ((u : Int) + 1) → K ((dbt X.1 u).1 + sumTo (fun v => pos1 (owe X.1 u v)) (nN X.1), (dbt X.1 u).2.2, x1) (up2 σ 300 5 0)) ∧ (¬ oweOf X.1 u ≤ s0 → ∀ x2, x2 = w32 ((u : Int) + 1) → K ((dbt X.1 u).1 + sumTo (fun v => pos1 (owe X.1 u v)) (nN X.1), (u : Int), x2) (up2 σ 300 5 0))) := by
          rintro s0 rfl
          refine ⟨fun z => ?_, fun z => ?_⟩
          · rintro _ rfl
            refine hK _ _ ⟨rfl, ?_⟩
            rw [w32_id (by omega) (by omega), dbt, if_pos z]
            rfl
          · rintro _ rfl
            refine hK _ _ ⟨rfl, ?_⟩
            rw [w32_id (by omega) (by omega), dbt, if_neg z]
            rfl
        refine ⟨fun _ => m_owesAll hM1.1 hI.1.1 (by omega) ⟨fun z => ?_, fun z => ?_⟩, fun z => absurd z (by rw [e]; omega)⟩
        · rcases db.2.2 with ⟨a1, _⟩ | ⟨w, a1, a2, a3⟩
          · exact absurd a1 z
          · rw [a2]
            refine m_owesAll hM1.1 hI.1.1 (by omega) ?_
            have := fin (oweOf X.1 w) a3.symm
            rw [a2] at this
            exact this
        · rcases db.2.2 with ⟨_, a1⟩ | ⟨w, a1, a2, a3⟩
          · exact fin 0 a1.symm
          · rw [a2] at z; omega
    · rintro _ _ ⟨rfl, rfl⟩ K
      dsimp only [wX11_debts_11]
      have db := dbt_b hI.1.1 (nN X.1) (by omega)
      refine ⟨fun _ => ?_, fun z => absurd z (by rw [e]; omega)⟩
      rintro m2 rfl
      have hM2 := mo_row0 hM1
      refine mo_tell hM2 (by show 0 < 2400; omega) (fun σ3 m3 f3 g3 => mo_tell m3 (by show 1 < 2400; omega) (fun σ4 m4 f4 g4 => ?_))
      have fin : ∀ s0, s0 = (dbt X.1 (nN X.1)).2.1 → wX11_debts_122 Q s0 σ4 := by
        rintro s0 rfl
        unfold wX11_debts_122
        refine mo_tell m4 (by show 2 < 2400; omega) (fun σ5 m5 f5 g5 => m_allDebts m5.1 hI.1.1 hI.1.2.1 ?_)
        exact h _ m5 (fun i hi => by rw [f5 i (by omega) (by omega), f4 i (by omega) (by omega), f3 i (by omega) (by omega), fr2 hi, fr2 hi])
      refine ⟨fun z => ?_, fun z => ?_⟩
      · rcases db.2.2 with ⟨a1, _⟩ | ⟨w, a1, a2, a3⟩
        · exact absurd a1 z
        · rw [a2]
          exact m_owesAll m4.1 hI.1.1 (by omega) (fin _ a3.symm)
      · rcases db.2.2 with ⟨_, a1⟩ | ⟨w, a1, a2, a3⟩
        · exact fin 0 a1.symm
        · rw [a2] at z; omega
  · intro X hI
    have hN := hI.1.1.1
    have db := dbt_b hI.1.1 (nN X.1) (by omega)
    refine xi_row hI ⟨fun v hv => ?_, by simp⟩
    simp only [List.mem_cons, List.not_mem_nil, or_false] at hv
    rcases hv with rfl | rfl | rfl
    · omega
    · rcases db.2.2 with ⟨a1, _⟩ | ⟨w, a1, a2, a3⟩ <;> omega
    · omega
/-! calls that throw -/
def GoT (G : Mem → Prop) (y1 y3 : Int) (m4 : Mem) : Prop := wX11_thrown m4 (fun y5 m6 => ((y5 = y1 → ((¬ y1 = 0 → G m6) ∧ (y1 = 0 → ((lcmpI (m6 340 0) y3 = 0 → G m6) ∧ (¬ lcmpI (m6 340 0) y3 = 0 → False))))) ∧ (¬ y5 = y1 → False)))
theorem lcmpI_self (a : Int) : lcmpI a a = 0 := by unfold lcmpI; rw [if_neg (by omega), if_pos rfl]
theorem goT0 {G : Mem → Prop} {r : Int} {m4 : Mem} (h5 : m4 300 5 = 0) (h340 : m4 340 0 = r) (h : G m4) : GoT G 0 r m4 := by
  unfold GoT wX11_thrown
  dsimp only
  rw [h5, h340, lcmpI_self]
  exact ⟨fun _ => ⟨fun z => absurd rfl z, fun _ => ⟨fun _ => h, fun z => absurd rfl z⟩⟩, fun z => absurd rfl z⟩
theorem goT1 {G : Mem → Prop} {r : Int} {m4 : Mem} (h5 : m4 300 5 = 1) (h : G m4) : GoT G 1 r m4 := by
  unfold GoT wX11_thrown
  rw [h5]
  exact ⟨fun _ => ⟨fun _ => h, fun z => absurd z (by decide)⟩, fun z => absurd rfl z⟩
theorem Rel.frC {σ σ' : Mem} {X : St} (hI : XInv X) (hC : CSt X σ) (hM : MSt X σ) (f : ∀ i, i < 300 → σ' i = σ i) (g : ∀ i, i = 301 ∨ i = 302 ∨ i = 304 ∨ i = 327 ∨ i = 331 ∨ i = 332 → σ' i = σ i) (k : ∀ j, j = 2 ∨ j = 4 ∨ j = 14 ∨ j = 28 → σ' 300 j = σ 300 j) : Rel σ' := ⟨X, hI, hC.all f, hM.fr k g⟩
theorem use_row {σ : Mem} {l1 : Int} (hR : Rel σ) {P : Prop} (hP : P) {G : Mem → Prop} (hG : ∀ m, Rel m → G m) : wL_row l1 σ (fun y1 m2 => P ∧ wX11_row l1 m2 (fun y3 m4 => GoT G y1 y3 m4)) := by
  obtain ⟨X, hI, hC, hM⟩ := hR
  have hl := hI.2.2.2.2.2
  unfold wL_row wX10_row wX10_row_15
  rw [hC.2.2.2.2.1]
  have key0 : ¬ (0 ≤ l1 ∧ l1 < (X.2.2.2.2.length : Int)) → P ∧ wX11_row l1 σ (fun y3 m4 => GoT G 1 y3 m4) := fun z => by
    refine ⟨hP, ?_⟩
    unfold wX11_row
    rintro m1 rfl
    have hM1 := hM.thr (v := 0)
    rw [hM1.2.2.2.2.1.1, w32_id (by omega) (by omega)]
    refine m_in (fun z1 z2 => absurd (by omega) z) (fun _ => ⟨fun _ => ?_, fun z => absurd rfl z⟩)
    unfold wX11_lost
    rintro _ rfl
    exact goT1 (by rw [up2_eq]) (hG _ ⟨X, hI, hC.all (fun i hi => by rw [fr2 (Or.inl hi), fr2 (Or.inl hi)]), hM1.thr⟩)
  refine ⟨fun z => key0 (by omega), fun z => ⟨fun z2 => ⟨by omega, ?_⟩, fun z2 => key0 (by omega)⟩⟩
  rintro m1 e1
  refine ⟨hP, ?_⟩
  have hM0 : MSt X m1 := hM.fr (fun j _ => by rw [e1, up2_ne (by omega)]) (fun i hi => by rw [e1, up2_ne (by omega)])
  have hC0 : CSt X m1 := hC.all (fun i hi => by rw [e1, up2_ne (by omega)])
  unfold wX11_row
  rintro m2 rfl
  have hM1 := hM0.thr (v := 0)
  rw [hM1.2.2.2.2.1.1, w32_id (by omega) (by omega)]
  refine m_in (fun z3 z4 => ⟨fun z => absurd z (by decide), fun _ => ⟨by omega, ?_⟩⟩) (fun z3 => absurd (by omega) z3)
  have hk : l1.toNat < X.2.2.2.2.length := by omega
  have r1 := hC.2.2.2.2.2 l1.toNat _ (List.getElem?_eq_getElem hk)
  have r2 := hM1.2.2.2.2.1.2 l1.toNat _ (List.getElem?_eq_getElem hk)
  rw [r2]
  refine goT0 (by rw [up2_eq]) (by rw [up2_ne (by omega), e1, up2_eq]; exact r1) (hG _ ⟨X, hI, hC0.all (fun i hi => fr2 (Or.inl hi)), hM1⟩)
def netB (B : Bk) (u : Nat) : Int := sumTo (fun o => deb B (8 * o + u)) (nN B)
theorem use_net {σ : Mem} {l1 : Int} (hR : Rel σ) {P : Prop} (hP : P) {G : Mem → Prop} (hG : ∀ m, Rel m → G m) : wL_net l1 σ (fun y1 m2 => P ∧ wX11_net l1 m2 (fun y3 m4 => GoT G y1 y3 m4)) := by
  obtain ⟨X, hI, hC, hM⟩ := hR
  have hN := hI.1.1.1
  have e := hC.1.1
  unfold wL_net wX10_net
  refine s_has (fun u e1 hu => ⟨fun _ => ?_, fun z => absurd z (by decide)⟩) (fun z => ⟨fun z => absurd rfl z, fun _ => ⟨hP, ?_⟩⟩)
  · subst e1
    unfold wLX10_net_25
    refine lp_for (fun k x τ => τ = σ ∧ x = ((u : Int), sumTo (fun o => deb X.1 (8 * o + u)) k, (k : Int))) (nN X.1) ?_ ?_ _ _ ⟨rfl, rfl⟩
    · rintro k hk _ _ ⟨rfl, rfl⟩ K hK
      dsimp only [wX10_net_25]
      have hb := sumTo_le (f := fun o => deb X.1 (8 * o + u)) (n := k) (a := -999) (b := 999) (fun o ho => hI.1.1.2.2.1 _ (by omega))
      have h2 := hI.1.1.2.2.1 (8 * k + u) (by omega)
      refine ⟨fun z => absurd z (by rw [e]; omega), fun _ => s_at (by omega) (by omega) ⟨rg64 (by omega) (by omega), ?_⟩⟩
      rintro _ rfl _ rfl
      rw [tn, hC.1.2.2.1 _ (by omega)]
      refine hK _ _ ⟨rfl, ?_⟩
      rw [w32_id (by omega) (by omega), w32_id (by omega) (by omega), sumTo_s]
      rfl
    · rintro _ _ ⟨rfl, rfl⟩ K
      dsimp only [wX10_net_25]
      refine ⟨fun _ => ?_, fun z => absurd z (by rw [e]; omega)⟩
      rintro m1 e1
      refine ⟨hP, ?_⟩
      have hM0 : MSt X m1 := hM.fr (fun j _ => by rw [e1, up2_ne (by omega)]) (fun i hi => by rw [e1, up2_ne (by omega)])
      have hC0 : CSt X m1 := hC.all (fun i hi => by rw [e1, up2_ne (by omega)])
      unfold wX11_net
      rintro m2 rfl
      have hM1 := hM0.thr (v := 0)
      refine m_isMember hM1.1 hI.1.1 (fun v e2 hv => ⟨fun _ => ?_, fun z => absurd z (by decide)⟩) (fun z => absurd (by omega) z)
      unfold wLX11_net_22
      refine lp_for (fun k x τ => τ = up2 m1 300 5 0 ∧ x = ((u : Int), sumTo (fun o => deb X.1 (8 * o + u)) k, (k : Int))) (nN X.1) ?_ ?_ _ _ ⟨rfl, rfl⟩
      · rintro k hk _ _ ⟨rfl, rfl⟩ K hK
        dsimp only [wX11_net_22]
        have hb := sumTo_le (f := fun o => deb X.1 (8 * o + u)) (n := k) (a := -999) (b := 999) (fun o ho => hI.1.1.2.2.1 _ (by omega))
        have h2 := hI.1.1.2.2.1 (8 * k + u) (by omega)
        refine ⟨fun z => absurd z (by rw [hM1.1.1]; omega), fun _ => m_pair (by omega) (by omega) ?_⟩
        rw [w32n (65 + (8 * k + u)) (by omega) (by omega), tn, mn_deb hM1.1 (by omega)]
        refine ⟨by omega, ?_⟩
        rintro _ rfl _ rfl
        refine hK _ _ ⟨rfl, ?_⟩
        rw [w32_id (by omega) (by omega), w32_id (by omega) (by omega), sumTo_s]
        rfl
      · rintro _ _ ⟨rfl, rfl⟩ K
        dsimp only [wX11_net_22]
        refine ⟨fun _ => ?_, fun z => absurd z (by rw [hM1.1.1]; omega)⟩
        exact goT0 (by rw [up2_eq]) (by rw [up2_ne (by omega), e1, up2_eq]) (hG _ ⟨X, hI, hC0.all (fun i hi => fr2 (Or.inl hi)), hM1⟩)
  · unfold wX11_net
    rintro m1 rfl
    have hM1 := hM.thr (v := 0)
    refine m_isMember hM1.1 hI.1.1 (fun v e2 hv => absurd (by omega) z) (fun _ => ⟨fun z => absurd rfl z, fun _ => ?_⟩)
    unfold wX11_lost
    rintro _ rfl
    exact goT1 (by rw [up2_eq]) (hG _ ⟨X, hI, hC.all (fun i hi => by rw [fr2 (Or.inl hi), fr2 (Or.inl hi)]), hM1.thr⟩)
theorem use_held {σ : Mem} {l1 l2 : Int} (hR : Rel σ) {P1 P2 : Prop} (hP : P1 ∧ P2) {G : Mem → Prop} (hG : ∀ m, Rel m → G m) : wL_held l1 l2 σ (fun y1 m2 => P1 ∧ P2 ∧ wX11_held l1 l2 m2 (fun y3 m4 => GoT G y1 y3 m4)) := by
  obtain ⟨X, hI, hC, hM⟩ := hR
  have hN := hI.1.1.1
  unfold wL_held wX10_held wX10_held_20
  have key0 : ¬ ((0 ≤ l1 ∧ l1 < 4 ∧ 0 < hdr X.1 l1.toNat 2) ∧ 0 ≤ l2 ∧ l2 ≤ 3) → P1 ∧ P2 ∧ wX11_held l1 l2 σ (fun y3 m4 => GoT G 1 y3 m4) := fun z => by
    refine ⟨hP.1, hP.2, ?_⟩
    unfold wX11_held wX11_held_22 wX11_lost
    rintro m1 rfl
    have hM1 := hM.thr (v := 0)
    have fin : ∀ m : Mem, m = up2 (up2 σ 300 5 0) 300 5 1 → GoT G 1 0 m := by
      rintro _ rfl
      exact goT1 (by rw [up2_eq]) (hG _ ⟨X, hI, hC.all (fun i hi => by rw [fr2 (Or.inl hi), fr2 (Or.inl hi)]), hM1.thr⟩)
    refine m_isHeld hM1.1 (fun p e hp hh => ⟨fun z => absurd z (by decide), fun _ => m_in (fun z1 z2 => absurd ⟨⟨by omega, by omega, by rw [e, tn]; exact hh⟩, z1, z2⟩ z) (fun _ => ⟨fun z => absurd rfl z, fun _ => fin⟩)⟩) (fun _ => ⟨fun _ => fin, fun z => absurd rfl z⟩)
  refine s_isHeldAt hC.1 (fun p e hp hh => ⟨fun z => absurd z (by decide), fun _ => ⟨fun z => key0 (by omega), fun z => ⟨fun z2 => ⟨by omega, ?_⟩, fun z2 => key0 (by omega)⟩⟩⟩) (fun z => ⟨fun _ => key0 (fun t => z t.1), fun z => absurd rfl z⟩)
  subst e
  have fin : ∀ r, (∀ m1, m1 = up2 σ 340 0 r → ∀ Q' : Int → Mem → Prop, Q' r (up2 m1 300 5 0) → wX11_held (p : Int) l2 m1 Q') → ∀ m1 : Mem, m1 = up2 σ 340 0 r → P1 ∧ P2 ∧ wX11_held (p : Int) l2 m1 (fun y3 m4 => GoT G 0 y3 m4) := by
    intro r hr m1 e1
    refine ⟨hP.1, hP.2, hr m1 e1 _ ?_⟩
    have hM0 : MSt X m1 := hM.fr (fun j _ => by rw [e1, up2_ne (by omega)]) (fun i hi => by rw [e1, up2_ne (by omega)])
    have hC0 : CSt X m1 := hC.all (fun i hi => by rw [e1, up2_ne (by omega)])
    exact goT0 (by rw [up2_eq]) (by rw [up2_ne (by omega), e1, up2_eq]) (hG _ ⟨X, hI, hC0.all (fun i hi => fr2 (Or.inl hi)), hM0.thr⟩)
  have mh : ∀ r, ∀ m1, m1 = up2 σ 340 0 r → ∀ Q' : Int → Mem → Prop, (MSt X (up2 m1 300 5 0) → ((3 ≤ l2 → wLX11_held_49 Q' p 0 0 (up2 m1 300 5 0)) ∧ (¬ 3 ≤ l2 → Q' (hdr X.1 p l2.toNat) (up2 m1 300 5 0)))) → wX11_held (p : Int) l2 m1 Q' := by
    intro r m1 e1 Q' hQ
    have hM0 : MSt X m1 := hM.fr (fun j _ => by rw [e1, up2_ne (by omega)]) (fun i hi => by rw [e1, up2_ne (by omega)])
    unfold wX11_held
    rintro m2 rfl
    have hM1 := hM0.thr (v := 0)
    have hq := hQ hM1
    refine m_isHeld hM1.1 (fun p' e' hp' hh' => ⟨fun z => absurd z (by decide), fun _ => m_in (fun z1 z2 => ⟨fun _ => ⟨hq.1, fun z3 => m_holdAt hp ?_⟩, fun z => absurd z (by decide)⟩) (fun z => absurd (by omega) z)⟩) (fun z => absurd ⟨by omega, by omega, by rw [tn]; exact hh⟩ z)
    have e2 : w32 (((137 + 67 * p : Nat) : Int) + l2) = ((137 + 67 * p + l2.toNat : Nat) : Int) := w32n _ (by omega) (by omega)
    rw [e2, tn, mn_hdr hM1.1 hp (by omega)]
    exact ⟨by omega, hq.2 z3⟩
  rw [tn]
  refine ⟨fun z3 => fin _ (fun m1 e1 Q' hq => mh _ m1 e1 Q' (fun hM1 => ⟨(fun hno => absurd hno (by omega)), fun _ => ?_⟩)), fun z3 => fin _ (fun m1 e1 Q' hq => mh _ m1 e1 Q' (fun hM1 => ⟨(fun hno => absurd hno (by omega)), fun _ => ?_⟩)), fun z3 => fin _ (fun m1 e1 Q' hq => mh _ m1 e1 Q' (fun hM1 => ⟨(fun hno => absurd hno (by omega)), fun _ => ?_⟩)), fun z3 => s_steps hp hh hC.1 (fin _ (fun m1 e1 Q' hq => mh _ m1 e1 Q' (fun hM1 => ⟨fun _ => ?_, (fun hno => absurd hno (by omega))⟩)))⟩
  · subst z3
    rw [((hC.1.2.2.2.2 p hp).2 hh).1] at hq
    exact hq
  · subst z3
    rw [((hC.1.2.2.2.2 p hp).2 hh).2.1] at hq
    exact hq
  · subst z3
    rw [(hC.1.2.2.2.2 p hp).1] at hq
    exact hq
  · unfold wLX11_held_49
    refine lp_for (fun k x τ => τ = up2 m1 300 5 0 ∧ x = ((p : Int), sumTo (fun i => pos1 (flo X.1 p i)) k, (k : Int))) 64 ?_ ?_ _ _ ⟨rfl, rfl⟩
    · rintro k hk _ _ ⟨rfl, rfl⟩ K hK
      dsimp only [wX11_held_49, wX11_held_79]
      have hb := sumTo_le (f := fun i => pos1 (flo X.1 p i)) (n := k) (a := 0) (b := 1) (fun i _ => pos1_b _)
      refine ⟨(fun hno => absurd hno (by omega)), fun _ => m_holdAt hp ?_⟩
      rw [w32_id (a := ((137 + 67 * p : Nat) : Int) + 3) (by omega) (by omega), w32n (140 + 67 * p + k) (by omega) (by omega), tn, mn_flo hM1.1 hp hk]
      refine ⟨by omega, fun z => ?_, fun z => ?_⟩
      · rintro _ rfl _ rfl
        refine hK _ _ ⟨rfl, ?_⟩
        have p0 : pos1 (flo X.1 p k) = 0 := by unfold pos1; rw [if_pos z]
        rw [w32_id (by omega) (by omega), w32_id (by omega) (by omega), sumTo_s, p0]
        rfl
      · rintro _ rfl _ rfl
        refine hK _ _ ⟨rfl, ?_⟩
        have p0 : pos1 (flo X.1 p k) = 1 := by unfold pos1; rw [if_neg z]
        rw [w32_id (by omega) (by omega), w32_id (by omega) (by omega), sumTo_s, p0]
        rfl
    · rintro _ _ ⟨rfl, rfl⟩ K
      dsimp only [wX11_held_49]
      exact ⟨fun _ => hq, (fun hno => absurd hno (by omega))⟩
