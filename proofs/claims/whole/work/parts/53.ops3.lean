def oAgain (i : Int) (X : St) : Int × St := if 0 ≤ i ∧ i < 2 then (match X.2.1 i.toNat with
  | some B => (1, (B, X.2.1, [], X.2.2.2.1, X.2.2.2.2))
  | none => (0, X)) else (0, X)
theorem op_again (n : Int) : OpOK (wX10_again n) (wX11_again n) := by
  refine ⟨oAgain n, ?_, ?_, ?_⟩
  · intro X σ Q hI hC h
    unfold wX10_again
    have e0 : ¬ (0 ≤ n ∧ n < 2) → oAgain n X = (0, X) := fun z => by unfold oAgain; rw [if_neg z]
    refine ⟨fun z => ?_, fun z => ⟨fun z2 => ?_, fun z2 => ⟨by omega, ?_⟩⟩⟩
    · rw [e0 (by omega)] at h
      exact h _ hC (fun _ _ => rfl)
    · rw [e0 (by omega)] at h
      exact h _ hC (fun _ _ => rfl)
    · have hk := hC.2.1 n.toNat (by omega)
      cases e : X.2.1 n.toNat with
      | none =>
        have e1 : oAgain n X = (0, X) := by unfold oAgain; rw [if_pos (by omega), e]
        rw [e1] at h
        rw [e] at hk
        rw [hk.1]
        exact ⟨fun z => absurd rfl z, fun _ => h _ hC (fun _ _ => rfl)⟩
      | some B =>
        have e1 : oAgain n X = (1, (B, X.2.1, [], X.2.2.2.1, X.2.2.2.2)) := by unfold oAgain; rw [if_pos (by omega), e]
        rw [e1] at h
        have hkB := hk.2 B e
        rw [e] at hk
        rw [hk.1]
        refine ⟨fun _ => ⟨by omega, ?_⟩, fun z => absurd z (by show ¬ (1 : Int) = 0; decide)⟩
        refine s_copyFrom (b := 40) (by omega) hkB (fun σ1 c1 f1 => ?_)
        unfold wX6_forget
        rintro _ rfl
        have f : ∀ i, i ≠ 3 → ¬ (40 ≤ i ∧ i < 53) → up2 σ1 3 1 0 i = σ i := fun i a1 a2 => by rw [up2_ne a1]; exact f1 i (by omega)
        obtain ⟨q1, q2, π, q3, q4, q5⟩ := hC.2.2.1
        refine h _ ⟨c1.fr (fun i a1 a2 => up2_ne (by omega)), hC.2.1.fr (f 2 (by omega) (by omega)) (fun i a1 a2 => f i (by omega) (by omega)), ⟨by rw [up2_eq]; rfl, by simp, π, by rw [f 4 (by omega) (by omega)]; exact q3, q4, fun j B hj => by simp at hj⟩, hC.2.2.2.1.fr (f 5 (by omega) (by omega)) (f 6 (by omega) (by omega)), hC.2.2.2.2.fr (f 12 (by omega) (by omega)) (f 13 (by omega) (by omega))⟩ (fun i hi => f i (by omega) (by omega))
  · intro X σ Q hI hM h
    unfold wX11_again
    rintro m1 rfl
    have hM1 := hM.thr (v := 0)
    refine m_in (fun z1 z2 => ⟨fun z => absurd z (by decide), fun _ => ⟨by omega, ?_⟩⟩) (fun z => ⟨fun _ => ?_, fun z => absurd rfl z⟩)
    · have hk := hM1.2.1 n.toNat (by omega)
      cases e : X.2.1 n.toNat with
      | none =>
        have e1 : oAgain n X = (0, X) := by unfold oAgain; rw [if_pos (by omega), e]
        rw [e1] at h
        rw [e] at hk
        rw [hk.1]
        exact ⟨fun z => absurd rfl z, fun _ => h _ hM1 (fun i hi => fr2 hi)⟩
      | some B =>
        have e1 : oAgain n X = (1, (B, X.2.1, [], X.2.2.2.1, X.2.2.2.2)) := by unfold oAgain; rw [if_pos (by omega), e]
        rw [e1] at h
        have hkB := hk.2 B e
        rw [e] at hk
        rw [hk.1]
        refine ⟨fun _ => ?_, fun z => absurd z (by show ¬ (1 : Int) = 0; decide)⟩
        unfold wLX11_again_27
        refine lp_for (fun k x τ => x = (n, (k : Int)) ∧ (∀ j, j < k → τ 301 j = σ 331 (405 * n.toNat + j)) ∧ ∀ i, i ≠ 301 → τ i = up2 σ 300 5 0 i) 405 ?_ ?_ _ _ ⟨rfl, fun j hj => absurd hj (by omega), fun _ _ => rfl⟩
        · rintro k hk _ τ ⟨rfl, hT, hF⟩ K hK
          dsimp only [wX11_again_27]
          rw [w32_id (a := 405 * n) (by omega) (by omega), w32n (405 * n.toNat + k) (by omega) (by omega), tn, tn]
          refine ⟨(fun hno => absurd hno (by omega)), fun _ => ⟨⟨by omega, by omega⟩, ⟨by omega, by omega⟩, ?_⟩⟩
          rintro _ rfl _ rfl
          refine hK _ _ ⟨by rw [w32_id (by omega) (by omega)]; rfl, fun j hj => ?_, fun i hi => by rw [up2_ne hi]; exact hF i hi⟩
          rw [up2_app, hF 331 (by omega), up2_ne (by omega)]
          by_cases c : j = k
          · rw [if_pos ⟨rfl, c⟩, c]
          · rw [if_neg (fun z => c z.2)]; exact hT j (by omega)
        · rintro _ τ ⟨rfl, hT, hF⟩ K
          dsimp only [wX11_again_27]
          refine ⟨fun _ => ?_, (fun hno => absurd hno (by omega))⟩
          rintro _ rfl
          have g : ∀ i, i ≠ 301 → i ≠ 300 → up2 τ 300 28 0 i = up2 σ 300 5 0 i := fun i a1 a2 => by rw [up2_ne a2]; exact hF i a1
          have g0 : ∀ j, j ≠ 28 → up2 τ 300 28 0 300 j = up2 σ 300 5 0 300 j := fun j hj => by rw [up2_nj hj, hF 300 (by omega)]
          refine h _ ⟨?_, hM1.2.1.fr (g 332 (by omega) (by omega)) (g 331 (by omega) (by omega)), ⟨by rw [up2_eq]; rfl, fun j B hj => by simp at hj⟩, hM1.2.2.2.1.fr (g0 2 (by omega)) (g 302 (by omega) (by omega)), hM1.2.2.2.2.1.fr (g0 4 (by omega)) (g 304 (by omega) (by omega)), by rw [g0 14 (by omega)]; exact hM1.2.2.2.2.2⟩ (fun i hi => by rw [g i (by omega) (by omega), fr2 hi])
          unfold MN
          rw [up2_ne (by omega)]
          rw [up2_ne (by omega)] at hkB
          exact hkB.cp (fun k hk => by rw [Nat.zero_add]; exact hT k hk)
    · have e0 : oAgain n X = (0, X) := by unfold oAgain; rw [if_neg (by omega)]
      rw [e0] at h
      exact h _ hM1 (fun i hi => fr2 hi)
  · intro X hI
    unfold oAgain
    split
    · cases e : X.2.1 n.toNat with
      | none => exact hI
      | some B => exact ⟨hI.2.1 n.toNat (by omega) B e, hI.2.1, ⟨fun B hB => by simp at hB, by simp⟩, hI.2.2.2.1, hI.2.2.2.2⟩
    · exact hI
def oUndo (X : St) : Int × St := match X.2.2.1.getLast? with
  | none => (-1, X)
  | some B => ((X.2.2.1.length : Int) - 1, (B, X.2.1, X.2.2.1.dropLast, X.2.2.2.1, X.2.2.2.2))
theorem last_cases (P : List Bk) : P = [] ∨ ∃ P' B, P = P' ++ [B] := by
  cases h : P.reverse with
  | nil => left; simpa using h
  | cons b t => right; exact ⟨t.reverse, b, by have := congrArg List.reverse h; simpa using this⟩
theorem op_undo : OpOK (wX10_undo) (wX11_undo) := by
  refine ⟨oUndo, ?_, ?_, ?_⟩
  · intro X σ Q hI hC h
    obtain ⟨B0, κ, P, T, L⟩ := X
    unfold wX10_undo
    have e3 := hC.2.2.1.1
    dsimp only at e3
    rcases last_cases P with rfl | ⟨P', B, rfl⟩
    · refine ⟨fun z => absurd (by rw [e3]; rfl) z, fun _ => ?_⟩
      have e1 : oUndo (B0, κ, [], T, L) = (-1, (B0, κ, [], T, L)) := rfl
      rw [e1] at h
      exact h _ hC (fun _ _ => rfl)
    · have e1 : oUndo (B0, κ, P' ++ [B], T, L) = ((P'.length : Int), (B, κ, P', T, L)) := by
        unfold oUndo
        simp
      rw [e1] at h
      have hl := hC.2.2.1.2.1
      dsimp only at hl
      have hl2 : (P' ++ [B]).length = P'.length + 1 := by simp
      refine ⟨fun _ => ?_, fun z => absurd z (by rw [e3, hl2]; omega)⟩
      refine c_takeInto (by omega) (by omega) hC.2.2.1 (fun σ1 p1 c1 f1 => ?_)
      rw [p1.1]
      refine h _ ⟨c1, hC.2.1.fr (f1 2 (by omega) (by omega)) (fun i a1 a2 => f1 i (by omega) (by omega)), p1, hC.2.2.2.1.fr (f1 5 (by omega) (by omega)) (f1 6 (by omega) (by omega)), hC.2.2.2.2.fr (f1 12 (by omega) (by omega)) (f1 13 (by omega) (by omega))⟩ (fun i hi => f1 i (by omega) (by omega))
  · intro X σ Q hI hM h
    obtain ⟨B0, κ, P, T, L⟩ := X
    unfold wX11_undo
    rintro m1 rfl
    have hM1 := hM.thr (v := 0)
    have e3 := hM1.2.2.1.1
    dsimp only at e3
    rw [e3]
    rcases last_cases P with rfl | ⟨P', B, rfl⟩
    · refine ⟨fun z => absurd (by rfl) z, fun _ => ?_⟩
      have e1 : oUndo (B0, κ, [], T, L) = (-1, (B0, κ, [], T, L)) := rfl
      rw [e1] at h
      exact h _ hM1 (fun i hi => fr2 hi)
    · have e1 : oUndo (B0, κ, P' ++ [B], T, L) = ((P'.length : Int), (B, κ, P', T, L)) := by
        unfold oUndo
        simp
      rw [e1] at h
      have hl := hI.2.2.1.2
      dsimp only at hl
      have hl2 : (P' ++ [B]).length = P'.length + 1 := by simp
      rw [hl2] at hl ⊢
      refine ⟨fun _ => ?_, (fun hno => absurd hno (by omega))⟩
      rintro m2 e2
      rw [w32n P'.length (by omega) (by omega)] at e2
      have hB : MB (up2 σ 300 5 0 327) (405 * P'.length) B := hM1.2.2.1.2 P'.length B (by simp)
      unfold wLX11_undo_26
      refine lp_for (fun k x τ => x = (k : Int) ∧ (∀ j, j < k → τ 301 j = up2 σ 300 5 0 327 (405 * P'.length + j)) ∧ ∀ i, i ≠ 301 → τ i = m2 i) 405 ?_ ?_ _ _ ⟨rfl, fun j hj => absurd hj (by omega), fun _ _ => rfl⟩
      · rintro k hk _ τ ⟨rfl, hT, hF⟩ K hK
        dsimp only [wX11_undo_26]
        have e28 : τ 300 28 = (P'.length : Int) := by rw [hF 300 (by omega), e2, up2_eq]
        rw [e28, w32_id (a := 405 * (P'.length : Int)) (by omega) (by omega), w32n (x := 405 * (P'.length : Int) + (k : Int)) (405 * P'.length + k) (by omega) (by omega), tn, tn]
        refine ⟨(fun hno => absurd hno (by omega)), fun _ => ⟨⟨by omega, by omega⟩, ⟨by omega, by omega⟩, ?_⟩⟩
        rintro _ rfl _ rfl
        refine hK _ _ ⟨by rw [w32_id (by omega) (by omega)]; rfl, fun j hj => ?_, fun i hi => by rw [up2_ne hi]; exact hF i hi⟩
        rw [up2_app, hF 327 (by omega), e2, up2_ne (by omega)]
        by_cases c : j = k
        · rw [if_pos ⟨rfl, c⟩, c]
        · rw [if_neg (fun z => c z.2)]; exact hT j (by omega)
      · rintro _ τ ⟨rfl, hT, hF⟩ K
        dsimp only [wX11_undo_26]
        refine ⟨fun _ => ?_, (fun hno => absurd hno (by omega))⟩
        have g : ∀ i, i ≠ 301 → i ≠ 300 → τ i = up2 σ 300 5 0 i := fun i a1 a2 => by rw [hF i a1, e2, up2_ne a2]
        have g0 : ∀ j, j ≠ 28 → τ 300 j = up2 σ 300 5 0 300 j := fun j hj => by rw [hF 300 (by omega), e2, up2_nj hj]
        have e28 : τ 300 28 = (P'.length : Int) := by rw [hF 300 (by omega), e2, up2_eq]
        rw [e28]
        refine h _ ⟨hB.cp (fun k hk => by rw [Nat.zero_add]; exact hT k hk), hM1.2.1.fr (g 332 (by omega) (by omega)) (g 331 (by omega) (by omega)), ⟨e28, fun j B' hj => ?_⟩, hM1.2.2.2.1.fr (g0 2 (by omega)) (g 302 (by omega) (by omega)), hM1.2.2.2.2.1.fr (g0 4 (by omega)) (g 304 (by omega) (by omega)), by rw [g0 14 (by omega)]; exact hM1.2.2.2.2.2⟩ (fun i hi => by rw [g i (by omega) (by omega), fr2 hi])
        rw [g 327 (by omega) (by omega)]
        exact hM1.2.2.1.2 j B' (by
          have hj' : P'[j]? = some B' := hj
          show (P' ++ [B])[j]? = some B'
          rw [List.getElem?_append_left (List.getElem?_eq_some_iff.mp hj').1]; exact hj')
  · intro X hI
    obtain ⟨B0, κ, P, T, L⟩ := X
    rcases last_cases P with rfl | ⟨P', B, rfl⟩
    · exact hI
    · have e1 : oUndo (B0, κ, P' ++ [B], T, L) = ((P'.length : Int), (B, κ, P', T, L)) := by
        unfold oUndo
        simp
      rw [e1]
      refine ⟨hI.2.2.1.1 B (by show B ∈ P' ++ [B]; simp), hI.2.1, ⟨fun C hC => hI.2.2.1.1 C (by show C ∈ P' ++ [B]; exact List.mem_append_left _ hC), ?_⟩, hI.2.2.2.1, hI.2.2.2.2⟩
      have hl := hI.2.2.1.2
      have hl2 : (P' ++ [B]).length = P'.length + 1 := by simp
      dsimp only at hl ⊢
      omega
/-! counts -/
section MCNT
variable {B : Bk} {σ : Mem}
theorem m_lineMany {Q : Int → Mem → Prop} (hM : MN σ B) (h : Q (opnAll B) σ) : wX11_lineMany σ Q := by
  unfold wX11_lineMany wLX11_lineMany_4
  refine lp_for (fun k x τ => τ = σ ∧ x = (sumTo (fun i => if lim B i ≤ 0 then 0 else 1) k, (k : Int))) 64 ?_ ?_ _ _ ⟨rfl, rfl⟩
  · rintro k hk _ _ ⟨rfl, rfl⟩ K hK
    dsimp only [wX11_lineMany_4, wX11_lineMany_27]
    have hb := sumTo_le (f := fun i => if lim B i ≤ 0 then 0 else 1) (n := k) (a := 0) (b := 1) (fun p hp => by
      by_cases c : lim B p ≤ 0 <;> simp [c])
    rw [w32n (1 + k) (by omega) (by omega), tn, mn_lim hM hk]
    refine ⟨(fun hno => absurd hno (by omega)), fun _ => ⟨⟨by omega, by omega⟩, fun h0 => ?_, fun h0 => ?_⟩⟩
    · rintro _ rfl _ rfl
      refine hK _ _ ⟨rfl, ?_⟩
      rw [w32_id (by omega) (by omega), w32_id (by omega) (by omega), sumTo_s, if_pos h0]
      rfl
    · rintro _ rfl _ rfl
      refine hK _ _ ⟨rfl, ?_⟩
      rw [w32_id (by omega) (by omega), w32_id (by omega) (by omega), sumTo_s, if_neg h0]
      rfl
  · rintro _ _ ⟨rfl, rfl⟩ K
    dsimp only [wX11_lineMany_4]
    exact ⟨fun _ => h, (fun hno => absurd hno (by omega))⟩
theorem m_allLimits {Q : Int → Mem → Prop} (hM : MN σ B) (hI : IvA B) (h : Q (limAll B) σ) : wX11_allLimits σ Q := by
  unfold wX11_allLimits wLX11_allLimits_4
  refine lp_for (fun k x τ => τ = σ ∧ x = (sumTo (lim B) k, (k : Int))) 64 ?_ ?_ _ _ ⟨rfl, rfl⟩
  · rintro k hk _ _ ⟨rfl, rfl⟩ K hK
    dsimp only [wX11_allLimits_4]
    have hb := sumTo_le (f := lim B) (n := k) (a := 0) (b := 999) (fun p hp => hI.2.1 p (by omega))
    have h2 := hI.2.1 k hk
    rw [w32n (1 + k) (by omega) (by omega), tn, mn_lim hM hk]
    refine ⟨(fun hno => absurd hno (by omega)), fun _ => ⟨⟨by omega, by omega⟩, ?_⟩⟩
    rintro _ rfl _ rfl
    refine hK _ _ ⟨rfl, ?_⟩
    rw [w32_id (by omega) (by omega), w32_id (by omega) (by omega), sumTo_s]
    rfl
  · rintro _ _ ⟨rfl, rfl⟩ K
    dsimp only [wX11_allLimits_4]
    exact ⟨fun _ => h, (fun hno => absurd hno (by omega))⟩
theorem m_allStocks {Q : Int → Mem → Prop} (hM : MN σ B) (hI : IvA B) (h : Q (stkAll B) σ) : wX11_allStocks σ Q := by
  unfold wX11_allStocks wLX11_allStocks_4
  refine lp_for (fun k x τ => τ = σ ∧ x = (sumTo (stk B) k, (k : Int))) 8 ?_ ?_ _ _ ⟨rfl, rfl⟩
  · rintro k hk _ _ ⟨rfl, rfl⟩ K hK
    dsimp only [wX11_allStocks_4]
    have hb := sumTo_le (f := stk B) (n := k) (a := 0) (b := 999) (fun p hp => hI.2.2.2.1 p (by omega))
    have h2 := hI.2.2.2.1 k hk
    rw [w32n (129 + k) (by omega) (by omega), tn, mn_stk hM hk]
    refine ⟨(fun hno => absurd hno (by omega)), fun _ => ⟨⟨by omega, by omega⟩, ?_⟩⟩
    rintro _ rfl _ rfl
    refine hK _ _ ⟨rfl, ?_⟩
    rw [w32_id (by omega) (by omega), w32_id (by omega) (by omega), sumTo_s]
    rfl
  · rintro _ _ ⟨rfl, rfl⟩ K
    dsimp only [wX11_allStocks_4]
    exact ⟨fun _ => h, (fun hno => absurd hno (by omega))⟩
end MCNT
def oCount (w : Int) (X : St) : Int × St := (if w = 0 then (nN X.1 : Int) else if w = 1 then opnAll X.1 else if w = 2 then limAll X.1 else if w = 3 then oweAll X.1 else if w = 4 then (X.2.2.1.length : Int) else if w = 5 then (X.2.2.2.2.length : Int) else if w = 6 then (X.2.2.2.1.length : Int) else if w = 7 then heldB X.1 else if w = 8 then stkAll X.1 else -1, X)
theorem op_count (w : Int) : OpOK (wX10_count w) (wX11_count w) := by
  refine ⟨oCount w, ?_, ?_, fun X hI => hI⟩
  · intro X σ Q hI hC h
    replace h : Q (oCount w X).1 σ := h σ hC (fun _ _ => rfl)
    unfold oCount at h
    dsimp only at h
    unfold wX10_count
    refine ⟨fun e => ?_, fun e => ?_, fun e => ?_, fun e => ?_, fun e => ?_, fun e => ?_, fun e => ?_, fun e => ?_, fun e => ?_, fun e => ?_⟩
    · subst e; rw [if_pos rfl] at h; rw [hC.1.1]; exact h
    · subst e; rw [if_neg (by decide), if_pos rfl] at h; exact s_openLines hC.1 h
    · subst e; rw [if_neg (by decide), if_neg (by decide), if_pos rfl] at h; exact s_limitsInAll hC.1 hI.1.1 h
    · subst e; rw [if_neg (by decide), if_neg (by decide), if_neg (by decide), if_pos rfl] at h; exact s_owedInAll hC.1 hI.1.1 h
    · subst e; rw [if_neg (by decide), if_neg (by decide), if_neg (by decide), if_neg (by decide), if_pos rfl] at h; rw [hC.2.2.1.1]; exact h
    · subst e; rw [if_neg (by decide), if_neg (by decide), if_neg (by decide), if_neg (by decide), if_neg (by decide), if_pos rfl] at h; rw [hC.2.2.2.2.1]; exact h
    · subst e; rw [if_neg (by decide), if_neg (by decide), if_neg (by decide), if_neg (by decide), if_neg (by decide), if_neg (by decide), if_pos rfl] at h; rw [hC.2.2.2.1.1]; exact h
    · subst e; rw [if_neg (by decide), if_neg (by decide), if_neg (by decide), if_neg (by decide), if_neg (by decide), if_neg (by decide), if_neg (by decide), if_pos rfl] at h; exact s_heldPlaces hC.1 h
    · subst e; rw [if_neg (by decide), if_neg (by decide), if_neg (by decide), if_neg (by decide), if_neg (by decide), if_neg (by decide), if_neg (by decide), if_neg (by decide), if_pos rfl] at h; exact s_stockInAll hC.1 hI.1.1 h
    · rw [if_neg e.1, if_neg e.2.1, if_neg e.2.2.1, if_neg e.2.2.2.1, if_neg e.2.2.2.2.1, if_neg e.2.2.2.2.2.1, if_neg e.2.2.2.2.2.2.1, if_neg e.2.2.2.2.2.2.2.1, if_neg e.2.2.2.2.2.2.2.2] at h; exact h
  · intro X σ Q hI hM h
    unfold wX11_count
    rintro m1 rfl
    have hM1 := hM.thr (v := 0)
    replace h : Q (oCount w X).1 _ := h _ hM1 (fun i hi => fr2 hi)
    unfold oCount at h
    dsimp only at h
    refine ⟨fun e => ?_, fun e => ?_, fun e => ?_, fun e => ?_, fun e => ?_, fun e => ?_, fun e => ?_, fun e => ?_, fun e => ?_, fun e => ?_⟩
    · subst e; rw [if_pos rfl] at h; rw [hM1.1.1]; exact h
    · subst e; rw [if_neg (by decide), if_pos rfl] at h; exact m_lineMany hM1.1 h
    · subst e; rw [if_neg (by decide), if_neg (by decide), if_pos rfl] at h; exact m_allLimits hM1.1 hI.1.1 h
    · subst e; rw [if_neg (by decide), if_neg (by decide), if_neg (by decide), if_pos rfl] at h; exact m_allDebts hM1.1 hI.1.1 hI.1.2.1 h
    · subst e; rw [if_neg (by decide), if_neg (by decide), if_neg (by decide), if_neg (by decide), if_pos rfl] at h; rw [hM1.2.2.1.1]; exact h
    · subst e; rw [if_neg (by decide), if_neg (by decide), if_neg (by decide), if_neg (by decide), if_neg (by decide), if_pos rfl] at h; rw [hM1.2.2.2.2.1.1]; exact h
    · subst e; rw [if_neg (by decide), if_neg (by decide), if_neg (by decide), if_neg (by decide), if_neg (by decide), if_neg (by decide), if_pos rfl] at h; rw [hM1.2.2.2.1.1]; exact h
    · subst e; rw [if_neg (by decide), if_neg (by decide), if_neg (by decide), if_neg (by decide), if_neg (by decide), if_neg (by decide), if_neg (by decide), if_pos rfl] at h; exact m_heldBits hM1.1 h
    · subst e; rw [if_neg (by decide), if_neg (by decide), if_neg (by decide), if_neg (by decide), if_neg (by decide), if_neg (by decide), if_neg (by decide), if_neg (by decide), if_pos rfl] at h; exact m_allStocks hM1.1 hI.1.1 h
    · rw [if_neg e.1, if_neg e.2.1, if_neg e.2.2.1, if_neg e.2.2.2.1, if_neg e.2.2.2.2.1, if_neg e.2.2.2.2.2.1, if_neg e.2.2.2.2.2.2.1, if_neg e.2.2.2.2.2.2.2.1, if_neg e.2.2.2.2.2.2.2.2] at h; exact h
