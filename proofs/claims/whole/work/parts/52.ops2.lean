theorem CSt.bk {X : St} {σ σ' : Mem} {B : Bk} (h : CSt X σ) (hC : CB 40 B σ') (hF : ∀ i, ¬ (40 ≤ i ∧ i < 53) → i < 300 → σ' i = σ i) : CSt (wB X B) σ' := ⟨hC, h.2.1.fr (hF 2 (by omega) (by omega)) (fun i a1 a2 => hF i (by omega) (by omega)), h.2.2.1.fr (by rw [hF 3 (by omega) (by omega)]) (hF 4 (by omega) (by omega)) (fun i a1 a2 => hF i (by omega) (by omega)), h.2.2.2.1.fr (hF 5 (by omega) (by omega)) (hF 6 (by omega) (by omega)), h.2.2.2.2.fr (hF 12 (by omega) (by omega)) (hF 13 (by omega) (by omega))⟩
theorem CSt.row {X : St} {σ σ' : Mem} {L : List Int} (h : CSt X σ) (hL : CR L σ') (hF : ∀ i, i ≠ 12 → i ≠ 13 → i < 300 → σ' i = σ i) : CSt (wL X L) σ' := ⟨h.1.fr (fun i a1 a2 => hF i (by omega) (by omega) (by omega)), h.2.1.fr (hF 2 (by omega) (by omega) (by omega)) (fun i a1 a2 => hF i (by omega) (by omega) (by omega)), h.2.2.1.fr (by rw [hF 3 (by omega) (by omega) (by omega)]) (hF 4 (by omega) (by omega) (by omega)) (fun i a1 a2 => hF i (by omega) (by omega) (by omega)), h.2.2.2.1.fr (hF 5 (by omega) (by omega) (by omega)) (hF 6 (by omega) (by omega) (by omega)), hL⟩
theorem MSt.row {X : St} {σ σ' : Mem} {L : List Int} (h : MSt X σ) (hL : MR L σ') (hF : ∀ i, i ≠ 300 → i ≠ 304 → 300 ≤ i → i ≠ 340 → σ' i = σ i) (hj : ∀ j, j = 2 ∨ j = 14 ∨ j = 28 → σ' 300 j = σ 300 j) : MSt (wL X L) σ' := ⟨by unfold MN; rw [hF 301 (by omega) (by omega) (by omega) (by omega)]; exact h.1, h.2.1.fr (hF 332 (by omega) (by omega) (by omega) (by omega)) (hF 331 (by omega) (by omega) (by omega) (by omega)), h.2.2.1.fr (hj 28 (by omega)) (hF 327 (by omega) (by omega) (by omega) (by omega)), h.2.2.2.1.fr (hj 2 (by omega)) (hF 302 (by omega) (by omega) (by omega) (by omega)), hL, by rw [hj 14 (by omega)]; exact h.2.2.2.2.2⟩
theorem xi_row {X : St} {L : List Int} (h : XInv X) (hL : (∀ v ∈ L, -2147483648 ≤ v ∧ v < 2147483648) ∧ L.length ≤ 512) : XInv (wL X L) := ⟨h.1, h.2.1, h.2.2.1, h.2.2.2.1, hL⟩
/-! one number after the other -/
theorem mo_tell {X : St} {σ : Mem} {v : Int} {Q : Mem → Prop} (h : MSt X σ) (hl : X.2.2.2.2.length < 2400) (k : ∀ σ', MSt (wL X (X.2.2.2.2 ++ [v])) σ' → (∀ i, i ≠ 300 → i ≠ 304 → σ' i = σ i) → (∀ j, j ≠ 4 → σ' 300 j = σ 300 j) → Q σ') : wX11_tell v σ Q := m_tell h.2.2.2.2.1 hl (fun σ' r f1 f2 => k σ' (h.row r (fun i a1 a2 _ _ => f1 i a1 a2) (fun j hj => f2 j (by omega))) f1 f2)
theorem mo_row0 {X : St} {σ : Mem} (h : MSt X σ) : MSt (wL X []) (up2 σ 300 4 0) := h.row m_row0 (fun i a1 _ _ _ => up2_ne a1) (fun j hj => up2_nj (by omega))
def oEnd (n : Int) (X : St) : Int × St := if 0 ≤ n ∧ n ≤ (X.2.2.2.1.length : Int) then (1, (X.1, X.2.1, X.2.2.1, X.2.2.2.1.take n.toNat, X.2.2.2.2)) else (0, X)
theorem op_end (n : Int) : OpOK (wX10_end n) (wX11_end n) := by
  refine ⟨oEnd n, ?_, ?_, ?_⟩
  · intro X σ Q hI hC h
    unfold wX10_end wX9_cutTo
    rw [hC.2.2.2.1.1]
    have e0 : ¬ (0 ≤ n ∧ n ≤ (X.2.2.2.1.length : Int)) → oEnd n X = (0, X) := fun z => by unfold oEnd; rw [if_neg z]
    have e1 : 0 ≤ n ∧ n ≤ (X.2.2.2.1.length : Int) → oEnd n X = (1, (X.1, X.2.1, X.2.2.1, X.2.2.2.1.take n.toNat, X.2.2.2.2)) := fun z => by unfold oEnd; rw [if_pos z]
    refine ⟨fun z => ⟨Or.inl rfl, ?_⟩, fun z => ⟨fun z2 => ?_, fun z2 => ⟨Or.inl rfl, ?_⟩⟩⟩
    · rw [e0 (by omega)] at h
      exact h _ hC (fun _ _ => rfl)
    · rintro _ rfl
      refine ⟨Or.inr rfl, ?_⟩
      rw [e1 ⟨by omega, z2⟩] at h
      refine h _ ⟨hC.1.fr (fun i a1 a2 => up2_ne (by omega)), hC.2.1.fr (up2_ne (by omega)) (fun i a1 a2 => up2_ne (by omega)), hC.2.2.1.fr (by rw [up2_ne (by omega)]) (up2_ne (by omega)) (fun i a1 a2 => up2_ne (by omega)), ⟨?_, fun j v hj => ?_⟩, hC.2.2.2.2.fr (up2_ne (by omega)) (up2_ne (by omega))⟩ (fun i hi => up2_ne (by omega))
      · rw [up2_eq]; show n = ((List.take n.toNat X.2.2.2.1).length : Int); rw [List.length_take]; omega
      · rw [up2_ne (by omega)]
        refine hC.2.2.2.1.2 j v ?_
        have hj' : (List.take n.toNat X.2.2.2.1)[j]? = some v := hj
        rw [List.getElem?_take] at hj'
        split at hj'
        · exact hj'
        · simp at hj'
    · rw [e0 (by omega)] at h
      exact h _ hC (fun _ _ => rfl)
  · intro X σ Q hI hM h
    unfold wX11_end
    rintro m1 rfl
    have hM1 := hM.thr (v := 0)
    rw [hM1.2.2.2.1.1]
    refine m_in (fun z1 z2 => ⟨fun _ => ?_, fun z => absurd z (by decide)⟩) (fun z => ⟨fun z => absurd rfl z, fun _ => ?_⟩)
    · rintro _ rfl
      have e1 : oEnd n X = (1, (X.1, X.2.1, X.2.2.1, X.2.2.2.1.take n.toNat, X.2.2.2.2)) := by unfold oEnd; rw [if_pos ⟨z1, z2⟩]
      rw [e1] at h
      refine h _ ⟨by unfold MN; rw [up2_ne (by omega)]; exact hM1.1, hM1.2.1.fr (up2_ne (by omega)) (up2_ne (by omega)), hM1.2.2.1.fr (up2_nj (by omega)) (up2_ne (by omega)), ⟨?_, fun j v hj => ?_⟩, hM1.2.2.2.2.1.fr (up2_nj (by omega)) (up2_ne (by omega)), by rw [up2_nj (by omega)]; exact hM1.2.2.2.2.2⟩ (fun i hi => by rw [fr2 hi, fr2 hi])
      · rw [up2_eq]; show n = ((List.take n.toNat X.2.2.2.1).length : Int); rw [List.length_take]; omega
      · rw [up2_ne (by omega)]
        refine hM1.2.2.2.1.2 j v ?_
        have hj' : (List.take n.toNat X.2.2.2.1)[j]? = some v := hj
        rw [List.getElem?_take] at hj'
        split at hj'
        · exact hj'
        · simp at hj'
    · have e0 : oEnd n X = (0, X) := by unfold oEnd; rw [if_neg z]
      rw [e0] at h
      exact h _ hM1 (fun i hi => fr2 hi)
  · intro X hI
    unfold oEnd
    split
    · refine ⟨hI.1, hI.2.1, hI.2.2.1, ⟨fun v hv => hI.2.2.2.1.1 v (List.mem_of_mem_take hv), ?_⟩, hI.2.2.2.2⟩
      show (List.take n.toNat X.2.2.2.1).length ≤ 80
      rw [List.length_take]
      have := hI.2.2.2.1.2
      omega
    · exact hI
def oLine (f t : Int) (X : St) : Int × St := if two (nN X.1) f t then (lim X.1 (8 * f.toNat + t.toNat), wL X [owe X.1 t.toNat f.toNat, rm X.1 t.toNat f.toNat, hld X.1 t.toNat f.toNat]) else (-1, X)
theorem op_line (f t : Int) : OpOK (wX10_line f t) (wX11_line f t) := by
  refine ⟨oLine f t, ?_, ?_, ?_⟩
  · intro X σ Q hI hC h
    have hN := hI.1.1.1
    have e := hC.1.1
    unfold wX10_line
    refine s_hasBoth (fun u v e1 e2 hu hv hne => ⟨fun _ => ?_, fun z => absurd z (by decide)⟩) (fun z => ⟨fun z => absurd rfl z, fun _ => ?_⟩)
    · subst e1 e2
      have e1 : oLine (u : Int) (v : Int) X = (lim X.1 (8 * u + v), wL X [owe X.1 v u, rm X.1 v u, hld X.1 v u]) := by unfold oLine; rw [if_pos (two_n (by omega) (by omega) hne), tn, tn]
      rw [e1] at h
      refine s_owed (by omega) (by omega) hC.1 (s_room (by omega) (by omega) hC.1 hI.1.1 hI.1.2.1 (s_heldBetween (by omega) (by omega) hC.1 hI.1.1 hI.1.2.1 (c_tell3 (fun σ1 r1 f1 => s_at (by omega) (by omega) ⟨rg64 (by omega) (by omega), ?_⟩))))
      have hC1 := hC.row r1 (fun i a1 a2 _ => f1 i a1 a2)
      rw [tn, hC1.1.2.1 _ (by omega)]
      exact h _ hC1 (fun i hi => f1 i (by omega) (by omega))
    · have e1 : oLine f t X = (-1, X) := by unfold oLine; rw [if_neg (fun t => z (by rw [e]; exact t))]
      rw [e1] at h
      exact h _ hC (fun _ _ => rfl)
  · intro X σ Q hI hM h
    have hN := hI.1.1.1
    unfold wX11_line
    rintro m1 rfl
    have hM1 := hM.thr (v := 0)
    refine m_areTwo hM1.1 hI.1.1 (fun u v e1 e2 hu hv hne => ⟨fun _ => ?_, fun z => absurd z (by decide)⟩) (fun z => ⟨fun z => absurd rfl z, fun _ => ?_⟩)
    · subst e1 e2
      have e1 : oLine (u : Int) (v : Int) X = (lim X.1 (8 * u + v), wL X [owe X.1 v u, rm X.1 v u, hld X.1 v u]) := by unfold oLine; rw [if_pos (two_n (by omega) (by omega) hne), tn, tn]
      rw [e1] at h
      rintro m2 rfl
      have hM2 := mo_row0 hM1
      refine m_owes hM2.1 (by omega) (by omega) (mo_tell hM2 (by show 0 < 2400; omega) (fun σ3 m3 f3 g3 => m_room m3.1 hI.1.1 (by omega) (by omega) (mo_tell m3 (by show 1 < 2400; omega) (fun σ4 m4 f4 g4 => m_heldOf m4.1 hI.1.1 (by omega) (by omega) (mo_tell m4 (by show 2 < 2400; omega) (fun σ5 m5 f5 g5 => m_limit m5.1 (by omega) (by omega) ?_))))))
      exact h _ m5 (fun i hi => by rw [f5 i (by omega) (by omega), f4 i (by omega) (by omega), f3 i (by omega) (by omega), fr2 hi, fr2 hi])
    · have e1 : oLine f t X = (-1, X) := by unfold oLine; rw [if_neg z]
      rw [e1] at h
      exact h _ hM1 (fun i hi => fr2 hi)
  · intro X hI
    have hN := hI.1.1.1
    unfold oLine
    split
    · rename_i z
      refine xi_row hI ⟨fun v hv => ?_, by simp⟩
      simp only [List.mem_cons, List.not_mem_nil, or_false] at hv
      have b1 := owe_b hI.1.1 (u := t.toNat) (v := f.toNat) (by omega) (by omega)
      have b2 := rm_b hI.1.1 (u := t.toNat) (v := f.toNat) (by omega) (by omega)
      have b3 := hld_b hI.1.1 (u := t.toNat) (v := f.toNat) (by omega) (by omega)
      rcases hv with rfl | rfl | rfl <;> omega
    · exact hI
/-! what is kept -/
theorem z11 : z1 1 = 1 := by decide +kernel
def oKeep (i : Int) (X : St) : Int × St := if 0 ≤ i ∧ i < 2 then (1, (X.1, fun k => if k = i.toNat then some X.1 else X.2.1 k, X.2.2)) else (0, X)
theorem op_keep (n : Int) : OpOK (wX10_keep n) (wX11_keep n) := by
  refine ⟨oKeep n, ?_, ?_, ?_⟩
  · intro X σ Q hI hC h
    unfold wX10_keep
    have e0 : ¬ (0 ≤ n ∧ n < 2) → oKeep n X = (0, X) := fun z => by unfold oKeep; rw [if_neg z]
    refine ⟨fun z => ?_, fun z => ⟨fun z2 => ⟨by omega, ?_⟩, fun z2 => ?_⟩⟩
    · rw [e0 (by omega)] at h
      exact h _ hC (fun _ _ => rfl)
    · have e1 : oKeep n X = (1, (X.1, fun k => if k = n.toNat then some X.1 else X.2.1 k, X.2.2)) := by unfold oKeep; rw [if_pos ⟨by omega, z2⟩]
      rw [e1] at h
      refine s_copyFrom (by omega) hC.1 (fun σ1 c1 f1 => ⟨by omega, ?_⟩)
      rintro _ rfl
      have f : ∀ i, i ≠ 2 → ¬ (88 + 16 * n.toNat ≤ i ∧ i < 88 + 16 * n.toNat + 13) → up2 σ1 2 n.toNat (z1 1) i = σ i := fun i a1 a2 => by rw [up2_ne a1]; exact f1 i a2
      refine h _ ⟨hC.1.fr (fun i a1 a2 => f i (by omega) (by omega)), fun i hi => ⟨?_, fun B hB => ?_⟩, hC.2.2.1.fr (by rw [f 3 (by omega) (by omega)]) (f 4 (by omega) (by omega)) (fun i a1 a2 => f i (by omega) (by omega)), hC.2.2.2.1.fr (f 5 (by omega) (by omega)) (f 6 (by omega) (by omega)), hC.2.2.2.2.fr (f 12 (by omega) (by omega)) (f 13 (by omega) (by omega))⟩ (fun i hi => f i (by omega) (by omega))
      · show _ = kfl (if i = n.toNat then some X.1 else X.2.1 i)
        rw [up2_app]
        by_cases c : i = n.toNat
        · rw [if_pos ⟨rfl, c⟩, if_pos c]
          exact z11
        · rw [if_neg (fun z => c z.2), if_neg c, f1 2 (by omega)]; exact (hC.2.1 i hi).1
      · dsimp only at hB
        by_cases c : i = n.toNat
        · rw [if_pos c] at hB
          obtain rfl := Option.some.inj hB
          rw [c]
          exact c1.fr (fun j a1 a2 => up2_ne (by omega))
        · rw [if_neg c] at hB
          exact ((hC.2.1 i hi).2 B hB).fr (fun j a1 a2 => f j (by omega) (by omega))
    · rw [e0 (by omega)] at h
      exact h _ hC (fun _ _ => rfl)
  · intro X σ Q hI hM h
    unfold wX11_keep
    rintro m1 rfl
    have hM1 := hM.thr (v := 0)
    refine m_in (fun z1 z2 => ⟨fun _ => ⟨by omega, ?_⟩, fun z => absurd z (by decide)⟩) (fun z => ⟨fun z => absurd rfl z, fun _ => ?_⟩)
    · have e1 : oKeep n X = (1, (X.1, fun k => if k = n.toNat then some X.1 else X.2.1 k, X.2.2)) := by unfold oKeep; rw [if_pos ⟨z1, by omega⟩]
      rw [e1] at h
      rintro m4 e4
      have en : n = ((n.toNat : Nat) : Int) := by omega
      have g4 : ∀ i, i ≠ 332 → m4 i = up2 σ 300 5 0 i := fun i hi => by rw [e4, up2_ne hi]
      unfold wLX11_keep_25
      refine lp_for (fun k x τ => x = (n, (k : Int)) ∧ (∀ j, τ 331 j = if 405 * n.toNat ≤ j ∧ j < 405 * n.toNat + k then m4 301 (j - 405 * n.toNat) else m4 331 j) ∧ ∀ i, i ≠ 331 → τ i = m4 i) 405 ?_ ?_ _ _ ⟨rfl, fun j => by rw [if_neg (by omega)], fun _ _ => rfl⟩
      · rintro k hk _ τ ⟨rfl, hT, hF⟩ K hK
        dsimp only [wX11_keep_25]
        rw [w32_id (a := 405 * n) (by omega) (by omega), w32n (405 * n.toNat + k) (by omega) (by omega), tn, tn]
        refine ⟨(fun hno => absurd hno (by omega)), fun _ => ⟨⟨by omega, by omega⟩, ⟨by omega, by omega⟩, ?_⟩⟩
        rintro _ rfl _ rfl
        refine hK _ _ ⟨by rw [w32_id (by omega) (by omega)]; rfl, fun j => ?_, fun i hi => by rw [up2_ne hi]; exact hF i hi⟩
        rw [up2_app, hF 301 (by omega), hT j]
        by_cases c : j = 405 * n.toNat + k
        · rw [if_pos ⟨rfl, c⟩, if_pos (by omega)]
          congr 1
          omega
        · rw [if_neg (fun z => c z.2)]
          by_cases c2 : 405 * n.toNat ≤ j ∧ j < 405 * n.toNat + k
          · rw [if_pos c2, if_pos (by omega)]
          · rw [if_neg c2, if_neg (by omega)]
      · rintro _ τ ⟨rfl, hT, hF⟩ K
        dsimp only [wX11_keep_25]
        refine ⟨fun _ => ?_, (fun hno => absurd hno (by omega))⟩
        have g : ∀ i, i ≠ 331 → i ≠ 332 → τ i = up2 σ 300 5 0 i := fun i a1 a2 => by rw [hF i a1, g4 i a2]
        refine h τ ⟨by unfold MN; rw [g 301 (by omega) (by omega)]; exact hM1.1, fun i hi => ⟨?_, fun B hB => ?_⟩, hM1.2.2.1.fr (by rw [g 300 (by omega) (by omega)]) (g 327 (by omega) (by omega)), hM1.2.2.2.1.fr (by rw [g 300 (by omega) (by omega)]) (g 302 (by omega) (by omega)), hM1.2.2.2.2.1.fr (by rw [g 300 (by omega) (by omega)]) (g 304 (by omega) (by omega)), by rw [g 300 (by omega) (by omega)]; exact hM1.2.2.2.2.2⟩ (fun i hi => by rw [g i (by omega) (by omega), fr2 hi])
        · show _ = kfl (if i = n.toNat then some X.1 else X.2.1 i)
          rw [hF 332 (by omega), e4, up2_app]
          by_cases c : i = n.toNat
          · rw [if_pos ⟨rfl, c⟩, if_pos c]
            exact z11
          · rw [if_neg (fun z => c z.2), if_neg c]; exact (hM1.2.1 i hi).1
        · dsimp only at hB
          by_cases c : i = n.toNat
          · rw [if_pos c] at hB
            obtain rfl := Option.some.inj hB
            refine hM1.1.cp (fun k hk => ?_)
            rw [hT, if_pos (by omega), g4 301 (by omega)]
            congr 1
            omega
          · rw [if_neg c] at hB
            refine ((hM1.2.1 i hi).2 B hB).cp (fun k hk => ?_)
            rw [hT, if_neg (by omega), g4 331 (by omega)]
    · have e0 : oKeep n X = (0, X) := by unfold oKeep; rw [if_neg (by omega)]
      rw [e0] at h
      exact h _ hM1 (fun i hi => fr2 hi)
  · intro X hI
    unfold oKeep
    split
    · refine ⟨hI.1, fun i hi B hB => ?_, hI.2.2⟩
      dsimp only at hB
      by_cases c : i = n.toNat
      · rw [if_pos c] at hB
        obtain rfl := Option.some.inj hB
        exact hI.1
      · rw [if_neg c] at hB
        exact hI.2.1 i hi B hB
    · exact hI
