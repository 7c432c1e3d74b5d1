def oLeaves (m : Int) (X : St) : Int × St := if ¬ (0 ≤ m ∧ m < (nN X.1 : Int)) then (-1, X) else if heldB X.1 ≠ 0 then (-5, X) else if ¬ ∀ o, o < nN X.1 → deb X.1 (8 * m.toNat + o) = 0 then (-4, X) else (closeN X.1 m.toNat, wBP X (closeB X.1 m.toNat) (pushP X.2.2.1 X.1))
theorem op_leaves (m : Int) : OpOK (wX10_leaves m) (wX11_leaves m) := by
  refine ⟨oLeaves m, ?_, ?_, ?_⟩
  · intro X σ Q hI hC h
    have hN := hI.1.1.1
    have e := hC.1.1
    unfold wX10_leaves
    refine s_has (fun u e1 hu => ⟨fun _ => s_holdsAny hC.1 (fun hh => ⟨fun z => absurd z (by decide), fun _ => ?_⟩) (fun hh => ⟨fun _ => ?_, fun z => absurd rfl z⟩), fun z => absurd z (by decide)⟩) (fun z => ⟨fun z => absurd rfl z, fun _ => ?_⟩)
    · subst e1
      have ea : oLeaves (u : Int) X = (-5, X) := by unfold oLeaves; rw [if_neg (fun t => t (by omega)), if_pos hh]
      rw [ea] at h
      exact h _ hC (fun _ _ => rfl)
    · subst e1
      unfold wLX10_leaves_28
      refine lp_for (fun k x τ => τ = σ ∧ x = ((u : Int), (k : Int)) ∧ ∀ o, o < k → deb X.1 (8 * u + o) = 0) (nN X.1) ?_ ?_ _ _ ⟨rfl, rfl, fun o ho => absurd ho (by omega)⟩
      · rintro k hk _ _ ⟨rfl, rfl, hz⟩ K hK
        dsimp only [wX10_leaves_28]
        refine ⟨fun z => absurd z (by rw [e]; omega), fun _ => s_at (by omega) (by omega) ⟨rg64 (by omega) (by omega), ?_⟩⟩
        rw [tn, hC.1.2.2.1 _ (by omega)]
        refine ⟨fun z => ?_, fun z => ?_⟩
        · rintro _ rfl
          refine hK _ _ ⟨rfl, by rw [w32_id (by omega) (by omega)]; rfl, fun o ho => ?_⟩
          by_cases c : o = k
          · rw [c]; exact z
          · exact hz o (by omega)
        · have ea : oLeaves (u : Int) X = (-4, X) := by
            unfold oLeaves
            rw [if_neg (fun t => t (by omega)), if_neg (fun t => t hh), tn, if_pos (fun t => z (t k hk))]
          rw [ea] at h
          exact h _ hC (fun _ _ => rfl)
      · rintro _ _ ⟨rfl, rfl, hz⟩ K
        dsimp only [wX10_leaves_28]
        refine ⟨fun _ => ?_, fun z => absurd z (by rw [e]; omega)⟩
        have ea : oLeaves (u : Int) X = (closeN X.1 u, wBP X (closeB X.1 u) (pushP X.2.2.1 X.1)) := by
          unfold oLeaves
          rw [if_neg (fun t => t (by omega)), if_neg (fun t => t hh), tn, if_neg (fun t => t hz)]
        rw [ea] at h
        refine c_add (by omega) (by omega) hC.2.2.1 hC.1 (fun σ1 p1 f1 => ?_)
        have hC1 : CSt (wBP X X.1 (pushP X.2.2.1 X.1)) σ1 := ⟨hC.1.fr (fun i a1 a2 => f1 i (by omega) (by omega) (by omega)), hC.2.1.fr (f1 2 (by omega) (by omega) (by omega)) (fun i a1 a2 => f1 i (by omega) (by omega) (by omega)), p1, hC.2.2.2.1.fr (f1 5 (by omega) (by omega) (by omega)) (f1 6 (by omega) (by omega) (by omega)), hC.2.2.2.2.fr (f1 12 (by omega) (by omega) (by omega)) (f1 13 (by omega) (by omega) (by omega))⟩
        refine s_closeLines (B := X.1) (by omega) hC1.1 hI.1.1 hI.1.2.1 (fun σ2 c2 f2 => ?_)
        exact h _ (hC1.bk c2 (fun i a1 a2 => f2 i (by omega))) (fun i hi => by rw [f2 i (by omega), f1 i (by omega) (by omega) (by omega)])
    · have ea : oLeaves m X = (-1, X) := by unfold oLeaves; rw [if_pos (fun t => z (by rw [e]; exact t))]
      rw [ea] at h
      exact h _ hC (fun _ _ => rfl)
  · intro X σ Q hI hM h
    have hN := hI.1.1.1
    unfold wX11_leaves
    rintro m1 rfl
    have hM1 := hM.thr (v := 0)
    refine m_isMember hM1.1 hI.1.1 (fun u e1 hu => ⟨fun _ => m_heldBits hM1.1 ⟨fun hh => ?_, fun hh => ?_⟩, fun z => absurd z (by decide)⟩) (fun z => ⟨fun z => absurd rfl z, fun _ => ?_⟩)
    · subst e1
      unfold wLX11_leaves_27
      refine lp_for (fun k x τ => τ = up2 σ 300 5 0 ∧ x = ((u : Int), (k : Int)) ∧ ∀ o, o < k → deb X.1 (8 * u + o) = 0) (nN X.1) ?_ ?_ _ _ ⟨rfl, rfl, fun o ho => absurd ho (by omega)⟩
      · rintro k hk _ _ ⟨rfl, rfl, hz⟩ K hK
        dsimp only [wX11_leaves_27]
        refine ⟨fun z => absurd z (by rw [hM1.1.1]; omega), fun _ => m_pair (by omega) (by omega) ?_⟩
        rw [w32n (65 + (8 * u + k)) (by omega) (by omega), tn, mn_deb hM1.1 (by omega)]
        refine ⟨by omega, fun z => ?_, fun z => ?_⟩
        · rintro _ rfl
          refine hK _ _ ⟨rfl, by rw [w32_id (by omega) (by omega)]; rfl, fun o ho => ?_⟩
          by_cases c : o = k
          · rw [c]; exact z
          · exact hz o (by omega)
        · have ea : oLeaves (u : Int) X = (-4, X) := by
            unfold oLeaves
            rw [if_neg (fun t => t (by omega)), if_neg (fun t => t hh), tn, if_pos (fun t => z (t k hk))]
          rw [ea] at h
          exact h _ hM1 (fun i hi => fr2 hi)
      · rintro _ _ ⟨rfl, rfl, hz⟩ K
        dsimp only [wX11_leaves_27]
        refine ⟨fun _ => ?_, fun z => absurd z (by rw [hM1.1.1]; omega)⟩
        have ea : oLeaves (u : Int) X = (closeN X.1 u, wBP X (closeB X.1 u) (pushP X.2.2.1 X.1)) := by
          unfold oLeaves
          rw [if_neg (fun t => t (by omega)), if_neg (fun t => t hh), tn, if_neg (fun t => t hz)]
        rw [ea] at h
        refine mo_change hM1 hI.2.2.1.2 (fun σ2 m2 f2 => ?_)
        unfold wLX11_leaves_70
        refine lp_for (fun k x τ => x = ((u : Int), sumTo (fun o => pos1 (lim X.1 (8 * u + o)) + pos1 (lim X.1 (8 * o + u))) k, (k : Int)) ∧ MN τ (wLim X.1 (fun i => if (i / 8 = u ∧ i % 8 < k) ∨ (i % 8 = u ∧ i / 8 < k) then 0 else lim X.1 i)) ∧ ∀ j, j ≠ 301 → τ j = σ2 j) (nN X.1) ?_ ?_ _ _ ⟨rfl, ?_, fun _ _ => rfl⟩
        · rintro k hk _ τ ⟨rfl, hT, hF⟩ K hK
          dsimp only [wX11_leaves_70, wX11_leaves_95, wX11_leaves_109]
          have hb := sumTo_le (f := fun o => pos1 (lim X.1 (8 * u + o)) + pos1 (lim X.1 (8 * o + u))) (n := k) (a := 0) (b := 2) (fun o _ => by
            have h1 := pos1_b (lim X.1 (8 * u + o))
            have h2 := pos1_b (lim X.1 (8 * o + u))
            omega)
          have el : ∀ i, i = 8 * u + k ∨ i = 8 * k + u → (if (i / 8 = u ∧ i % 8 < k) ∨ (i % 8 = u ∧ i / 8 < k) then 0 else lim X.1 i) = lim X.1 i := fun i hi => if_neg (by omega)
          have fin : ∀ s0 s1, s1 = pos1 (lim X.1 (8 * u + k)) → s0 = pos1 (lim X.1 (8 * k + u)) → ∀ x1, x1 = w32 (sumTo (fun o => pos1 (lim X.1 (8 * u + o)) + pos1 (lim X.1 (8 * o + u))) k + w32 (s1 + s0)) → wX11_pair u k τ (fun y3 m2 => ((0 ≤ w32 (1 + y3) ∧ w32 (1 + y3) < 405) ∧ (∀ m4 : Mem, m4 = up2 m2 301 (w32 (1 + y3)).toNat 0 → (wX11_pair k u m4 (fun y6 m5 => ((0 ≤ w32 (1 + y6) ∧ w32 (1 + y6) < 405) ∧ (∀ m7 : Mem, m7 = up2 m5 301 (w32 (1 + y6)).toNat 0 → (∀ x8 : Int, x8 = w32 ((k : Int) + 1) → K (u, x1, x8) m7)))))))) := by
            rintro s0 s1 e1 e0 x1 rfl
            have p1 := pos1_b (lim X.1 (8 * u + k))
            have p2 := pos1_b (lim X.1 (8 * k + u))
            refine m_pair (by omega) (by omega) ?_
            rw [w32n (1 + (8 * u + k)) (by omega) (by omega), tn]
            refine ⟨by omega, ?_⟩
            rintro _ rfl
            refine m_pair (by omega) (by omega) ?_
            rw [w32n (1 + (8 * k + u)) (by omega) (by omega), tn]
            refine ⟨by omega, ?_⟩
            rintro _ rfl _ rfl
            have n1 := MN_lim (v := 0) (i := 8 * k + u) (by omega) (MN_lim (v := 0) (i := 8 * u + k) (by omega) hT)
            refine hK _ _ ⟨?_, ?_, fun j hj => by rw [up2_ne hj, up2_ne hj]; exact hF j hj⟩
            · rw [e1, e0, w32_id (a := pos1 (lim X.1 (8 * u + k)) + pos1 (lim X.1 (8 * k + u))) (by omega) (by omega), w32_id (by omega) (by omega), w32_id (by omega) (by omega), sumTo_s]
              rfl
            · refine ⟨n1.1, fun i hi => (n1.2.1 i hi).trans ?_, n1.2.2.1, n1.2.2.2.1, n1.2.2.2.2⟩
              show up1 (up1 (fun i => if (i / 8 = u ∧ i % 8 < k) ∨ (i % 8 = u ∧ i / 8 < k) then 0 else lim X.1 i) (8 * u + k) 0) (8 * k + u) 0 i = if (i / 8 = u ∧ i % 8 < k + 1) ∨ (i % 8 = u ∧ i / 8 < k + 1) then 0 else lim X.1 i
              unfold up1
              by_cases c1 : i = 8 * k + u
              · rw [if_pos c1, if_pos (by omega)]
              · rw [if_neg c1]
                by_cases c2 : i = 8 * u + k
                · rw [if_pos c2, if_pos (by omega)]
                · rw [if_neg c2]
                  dsimp only
                  by_cases c3 : (i / 8 = u ∧ i % 8 < k) ∨ (i % 8 = u ∧ i / 8 < k)
                  · rw [if_pos c3, if_pos (by omega)]
                  · rw [if_neg c3, if_neg (by omega)]
          refine ⟨fun z => absurd z (by rw [hT.1]; show ¬ ((nN X.1 : Nat) : Int) ≤ _; omega), fun _ => m_limit hT (by omega) (by omega) ?_⟩
          have l1 : lim (wLim X.1 (fun i => if (i / 8 = u ∧ i % 8 < k) ∨ (i % 8 = u ∧ i / 8 < k) then 0 else lim X.1 i)) (8 * u + k) = lim X.1 (8 * u + k) := el _ (Or.inl rfl)
          have l2 : lim (wLim X.1 (fun i => if (i / 8 = u ∧ i % 8 < k) ∨ (i % 8 = u ∧ i / 8 < k) then 0 else lim X.1 i)) (8 * k + u) = lim X.1 (8 * k + u) := el _ (Or.inr rfl)
          rw [l1]
          refine ⟨fun z1 => m_limit hT (by omega) (by omega) ?_, fun z1 => m_limit hT (by omega) (by omega) ?_⟩
          · rw [l2]
            refine ⟨fun z2 => fin 0 0 (by unfold pos1; rw [if_pos z1]) (by unfold pos1; rw [if_pos z2]), fun z2 => fin 1 0 (by unfold pos1; rw [if_pos z1]) (by unfold pos1; rw [if_neg z2])⟩
          · rw [l2]
            refine ⟨fun z2 => fin 0 1 (by unfold pos1; rw [if_neg z1]) (by unfold pos1; rw [if_pos z2]), fun z2 => fin 1 1 (by unfold pos1; rw [if_neg z1]) (by unfold pos1; rw [if_neg z2])⟩
        · rintro _ τ ⟨rfl, hT, hF⟩ K
          dsimp only [wX11_leaves_70]
          refine ⟨fun _ => h τ (m2.now ?_ hF) (fun i hi => by rw [hF i (by omega), f2 i (by omega) (by omega) (by omega), fr2 hi]), fun z => absurd z (by rw [hT.1]; show ¬ ¬ ((nN X.1 : Nat) : Int) ≤ _; omega)⟩
          refine ⟨hT.1, fun i hi => (hT.2.1 i hi).trans ?_, hT.2.2.1, hT.2.2.2.1, hT.2.2.2.2⟩
          show (if (i / 8 = u ∧ i % 8 < nN X.1) ∨ (i % 8 = u ∧ i / 8 < nN X.1) then 0 else lim X.1 i) = if i / 8 = u ∨ i % 8 = u then 0 else lim X.1 i
          by_cases c1 : (i / 8 = u ∧ i % 8 < nN X.1) ∨ (i % 8 = u ∧ i / 8 < nN X.1)
          · rw [if_pos c1, if_pos (by omega)]
          · rw [if_neg c1]
            by_cases c2 : i / 8 = u ∨ i % 8 = u
            · rw [if_pos c2]
              have := (hI.1.2.1.2.2.1 (i / 8) (by omega) (i % 8) (by omega) (by omega)).1
              rw [show 8 * (i / 8) + i % 8 = i by omega] at this
              exact this
            · rw [if_neg c2]
        · refine ⟨m2.1.1, fun i hi => (m2.1.2.1 i hi).trans ?_, m2.1.2.2.1, m2.1.2.2.2.1, m2.1.2.2.2.2⟩
          show lim X.1 i = if (i / 8 = u ∧ i % 8 < 0) ∨ (i % 8 = u ∧ i / 8 < 0) then 0 else lim X.1 i
          rw [if_neg (by omega)]
    · subst e1
      have ea : oLeaves (u : Int) X = (-5, X) := by unfold oLeaves; rw [if_neg (fun t => t (by omega)), if_pos hh]
      rw [ea] at h
      exact h _ hM1 (fun i hi => fr2 hi)
    · have ea : oLeaves m X = (-1, X) := by unfold oLeaves; rw [if_pos (fun t => z t)]
      rw [ea] at h
      exact h _ hM1 (fun i hi => fr2 hi)
  · intro X hI
    unfold oLeaves
    split
    · exact hI
    · split
      · exact hI
      · split
        · exact hI
        · rename_i z1 z2 z3
          have hz : ∀ o, o < nN X.1 → deb X.1 (8 * m.toNat + o) = 0 := by
            by_cases c : ∀ o, o < nN X.1 → deb X.1 (8 * m.toNat + o) = 0
            · exact c
            · exact absurd c z3
          exact ⟨inv_close hI.1 (by omega) (by omega) hz, hI.2.1, xi_push hI, hI.2.2.2⟩
