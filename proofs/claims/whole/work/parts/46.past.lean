/-! what is remembered -/
def pushP (P : List Bk) (B : Bk) : List Bk := (if P.length = 8 then P.tail else P) ++ [B]
theorem pushP_len {P : List Bk} {B : Bk} (h : P.length ≤ 8) : (pushP P B).length ≤ 8 := by
  unfold pushP
  by_cases c : P.length = 8
  · rw [if_pos c]; simp [c]
  · rw [if_neg c]; simp; omega
def MP (P : List Bk) (σ : Mem) : Prop := σ 300 28 = (P.length : Int) ∧ ∀ (j : Nat) (B : Bk), P[j]? = some B → MB (σ 327) (405 * j) B
section MPAST
variable {B : Bk} {P : List Bk} {σ : Mem}
theorem m_layAside {d : Nat} {Q : Mem → Prop} (hM : MN σ B) (hd : d < 4) (h : ∀ σ', MB (σ' 316) (405 * d) B → (∀ k, ¬ (405 * d ≤ k ∧ k < 405 * d + 405) → σ' 316 k = σ 316 k) → (∀ i, i ≠ 316 → σ' i = σ i) → Q σ') : wX11_layAside d σ Q := by
  unfold wX11_layAside wLX11_layAside_2
  refine lp_for (fun k x τ => x = ((d : Int), (k : Int)) ∧ (∀ j, τ 316 j = if 405 * d ≤ j ∧ j < 405 * d + k then σ 301 (j - 405 * d) else σ 316 j) ∧ ∀ i, i ≠ 316 → τ i = σ i) 405 ?_ ?_ _ _ ⟨rfl, fun j => by rw [if_neg (by omega)], fun _ _ => rfl⟩
  · rintro k hk _ τ ⟨rfl, hT, hF⟩ K hK
    dsimp only [wX11_layAside_2]
    rw [w32_id (a := 405 * (d : Int)) (by omega) (by omega), w32n (405 * d + k) (by omega) (by omega), tn, tn]
    refine ⟨(fun hno => absurd hno (by omega)), fun _ => ⟨⟨by omega, by omega⟩, ⟨by omega, by omega⟩, ?_⟩⟩
    rintro _ rfl _ rfl
    refine hK _ _ ⟨by rw [w32_id (by omega) (by omega)]; rfl, fun j => ?_, fun i hi => by rw [up2_ne hi]; exact hF i hi⟩
    rw [up2_app, hF 301 (by omega), hT j]
    by_cases c : j = 405 * d + k
    · rw [if_pos ⟨rfl, c⟩, if_pos (by omega)]
      congr 1
      omega
    · rw [if_neg (fun z => c z.2)]
      by_cases c2 : 405 * d ≤ j ∧ j < 405 * d + k
      · rw [if_pos c2, if_pos (by omega)]
      · rw [if_neg c2, if_neg (by omega)]
  · rintro _ τ ⟨rfl, hT, hF⟩ K
    dsimp only [wX11_layAside_2]
    refine ⟨fun _ => h τ (hM.cp (fun k hk => ?_)) (fun k hk => ?_) hF, (fun hno => absurd hno (by omega))⟩
    · rw [hT, if_pos (by omega)]; congr 1; omega
    · rw [hT, if_neg hk]
theorem m_comesBack {d : Nat} {Q : Mem → Prop} (hM : MB (σ 316) (405 * d) B) (hd : d < 4) (h : ∀ σ', MN σ' B → (∀ i, i ≠ 301 → σ' i = σ i) → Q σ') : wX11_comesBack d σ Q := by
  unfold wX11_comesBack wLX11_comesBack_2
  refine lp_for (fun k x τ => x = ((d : Int), (k : Int)) ∧ (∀ j, j < k → τ 301 j = σ 316 (405 * d + j)) ∧ ∀ i, i ≠ 301 → τ i = σ i) 405 ?_ ?_ _ _ ⟨rfl, fun j hj => absurd hj (by omega), fun _ _ => rfl⟩
  · rintro k hk _ τ ⟨rfl, hT, hF⟩ K hK
    dsimp only [wX11_comesBack_2]
    rw [w32_id (a := 405 * (d : Int)) (by omega) (by omega), w32n (405 * d + k) (by omega) (by omega), tn, tn]
    refine ⟨(fun hno => absurd hno (by omega)), fun _ => ⟨⟨by omega, by omega⟩, ⟨by omega, by omega⟩, ?_⟩⟩
    rintro _ rfl _ rfl
    refine hK _ _ ⟨by rw [w32_id (by omega) (by omega)]; rfl, fun j hj => ?_, fun i hi => by rw [up2_ne hi]; exact hF i hi⟩
    rw [up2_app, hF 316 (by omega)]
    by_cases c : j = k
    · rw [if_pos ⟨rfl, c⟩, c]
    · rw [if_neg (fun z => c z.2)]; exact hT j (by omega)
  · rintro _ τ ⟨rfl, hT, hF⟩ K
    dsimp only [wX11_comesBack_2]
    refine ⟨fun _ => h τ (hM.cp (fun k hk => by rw [Nat.zero_add]; exact hT k hk)) hF, (fun hno => absurd hno (by omega))⟩
theorem m_lay {Q : Mem → Prop} (hM : MN σ B) (h : ∀ σ', MB (σ' 328) 0 B → (∀ i, i ≠ 328 → σ' i = σ i) → Q σ') : wX11_lay σ Q := by
  unfold wX11_lay wLX11_lay_2
  refine lp_for (fun k x τ => x = (k : Int) ∧ (∀ j, j < k → τ 328 j = σ 301 j) ∧ ∀ i, i ≠ 328 → τ i = σ i) 405 ?_ ?_ _ _ ⟨rfl, fun j hj => absurd hj (by omega), fun _ _ => rfl⟩
  · rintro k hk _ τ ⟨rfl, hT, hF⟩ K hK
    dsimp only [wX11_lay_2]
    rw [tn]
    refine ⟨(fun hno => absurd hno (by omega)), fun _ => ⟨⟨by omega, by omega⟩, ⟨by omega, by omega⟩, ?_⟩⟩
    rintro _ rfl _ rfl
    refine hK _ _ ⟨by rw [w32_id (by omega) (by omega)]; rfl, fun j hj => ?_, fun i hi => by rw [up2_ne hi]; exact hF i hi⟩
    rw [up2_app, hF 301 (by omega)]
    by_cases c : j = k
    · rw [if_pos ⟨rfl, c⟩, c]
    · rw [if_neg (fun z => c z.2)]; exact hT j (by omega)
  · rintro _ τ ⟨rfl, hT, hF⟩ K
    dsimp only [wX11_lay_2]
    refine ⟨fun _ => h τ (hM.cp (fun k hk => by rw [Nat.zero_add]; exact hT k hk)) hF, (fun hno => absurd hno (by omega))⟩
theorem m_note50 {Q : Mem → Prop} (hW : MB (σ 328) 0 B) (hP : MP P σ) (hl : P.length < 8) (h : ∀ σ', MP (P ++ [B]) σ' → (∀ i, i ≠ 327 → i ≠ 300 → σ' i = σ i) → (∀ j, j ≠ 28 → σ' 300 j = σ 300 j) → Q σ') : wX11_note_50 Q σ := by
  unfold wX11_note_50 wLX11_note_52
  refine lp_for (fun k x τ => x = (k : Int) ∧ (∀ j, τ 327 j = if 405 * P.length ≤ j ∧ j < 405 * P.length + k then σ 328 (j - 405 * P.length) else σ 327 j) ∧ ∀ i, i ≠ 327 → τ i = σ i) 405 ?_ ?_ _ _ ⟨rfl, fun j => by rw [if_neg (by omega)], fun _ _ => rfl⟩
  · rintro k hk _ τ ⟨rfl, hT, hF⟩ K hK
    dsimp only [wX11_note_52]
    rw [hF 300 (by omega), hP.1, w32_id (a := 405 * (P.length : Int)) (by omega) (by omega), w32n (x := 405 * (P.length : Int) + (k : Int)) (405 * P.length + k) (by omega) (by omega), tn, tn]
    refine ⟨(fun hno => absurd hno (by omega)), fun _ => ⟨⟨by omega, by omega⟩, ⟨by omega, by omega⟩, ?_⟩⟩
    rintro _ rfl _ rfl
    refine hK _ _ ⟨by rw [w32_id (by omega) (by omega)]; rfl, fun j => ?_, fun i hi => by rw [up2_ne hi]; exact hF i hi⟩
    rw [up2_app, hF 328 (by omega), hT j]
    by_cases c : j = 405 * P.length + k
    · rw [if_pos ⟨rfl, c⟩, if_pos (by omega)]
      congr 1
      omega
    · rw [if_neg (fun z => c z.2)]
      by_cases c2 : 405 * P.length ≤ j ∧ j < 405 * P.length + k
      · rw [if_pos c2, if_pos (by omega)]
      · rw [if_neg c2, if_neg (by omega)]
  · rintro _ τ ⟨rfl, hT, hF⟩ K
    dsimp only [wX11_note_52]
    refine ⟨fun _ => ?_, (fun hno => absurd hno (by omega))⟩
    rintro _ rfl
    refine h _ ⟨?_, fun j B' hj => ?_⟩ (fun i h1 h2 => by rw [up2_ne h2]; exact hF i h1) (fun j hj => by rw [up2_nj hj, hF 300 (by omega)])
    · rw [up2_eq, hF 300 (by omega), hP.1, w32_id (by omega) (by omega)]; simp
    · rw [up2_ne (by omega)]
      by_cases c : j < P.length
      · rw [List.getElem?_append_left c] at hj
        refine (hP.2 j B' hj).cp (fun k hk => ?_)
        rw [hT, if_neg (by omega)]
      · rw [List.getElem?_append_right (by omega)] at hj
        have hj0 : j - P.length = 0 := by
          by_cases c2 : j - P.length = 0
          · exact c2
          · obtain ⟨n, hn⟩ := Nat.exists_eq_succ_of_ne_zero c2
            rw [hn] at hj
            simp at hj
        rw [hj0] at hj
        simp at hj
        subst hj
        refine hW.cp (fun k hk => ?_)
        rw [hT, if_pos (by omega)]
        congr 1
        omega
theorem m_note {Q : Mem → Prop} (hW : MB (σ 328) 0 B) (hP : MP P σ) (hl : P.length ≤ 8) (h : ∀ σ', MP (pushP P B) σ' → (∀ i, i ≠ 327 → i ≠ 300 → σ' i = σ i) → (∀ j, j ≠ 28 → σ' 300 j = σ 300 j) → Q σ') : wX11_note σ Q := by
  unfold wX11_note
  refine ⟨fun z => ?_, fun z => ?_⟩
  · have c : P.length ≠ 8 := fun e => z (by rw [hP.1, e]; rfl)
    refine m_note50 hW hP (by omega) (fun σ' h1 h2 h3 => h σ' ?_ h2 h3)
    unfold pushP
    rw [if_neg c]
    exact h1
  · have c : P.length = 8 := by rw [hP.1] at z; omega
    unfold wLX11_note_11
    refine lp_for (fun k x τ => x = (k : Int) ∧ (∀ j, τ 327 j = if j < k then σ 327 (j + 405) else σ 327 j) ∧ ∀ i, i ≠ 327 → τ i = σ i) 2835 ?_ ?_ _ _ ⟨rfl, fun j => by rw [if_neg (by omega)], fun _ _ => rfl⟩
    · rintro k hk _ τ ⟨rfl, hT, hF⟩ K hK
      dsimp only [wX11_note_11]
      rw [w32n (x := (k : Int) + 405) (k + 405) (by omega) (by omega), tn, tn]
      refine ⟨(fun hno => absurd hno (by omega)), fun _ => ⟨⟨by omega, by omega⟩, ⟨by omega, by omega⟩, ?_⟩⟩
      rintro _ rfl _ rfl
      refine hK _ _ ⟨by rw [w32_id (by omega) (by omega)]; rfl, fun j => ?_, fun i hi => by rw [up2_ne hi]; exact hF i hi⟩
      rw [up2_app, hT j, hT (k + 405), if_neg (by omega : ¬ k + 405 < k)]
      by_cases cj : j = k
      · rw [if_pos ⟨rfl, cj⟩, if_pos (by omega), cj]
      · rw [if_neg (fun z => cj z.2)]
        by_cases c2 : j < k
        · rw [if_pos c2, if_pos (by omega)]
        · rw [if_neg c2, if_neg (by omega)]
    · rintro _ τ ⟨rfl, hT, hF⟩ K
      dsimp only [wX11_note_11]
      refine ⟨fun _ => ?_, (fun hno => absurd hno (by omega))⟩
      rintro m1 e1
      have hl2 : P.tail.length = 7 := by simp [c]
      refine m_note50 (P := P.tail) (B := B) ?_ ⟨?_, fun j B' hj => ?_⟩ (by omega) (fun σ' h1 h2 h3 => h σ' ?_ (fun i hi1 hi2 => ?_) (fun j hj => ?_))
      · rw [e1, up2_ne (by omega), hF 328 (by omega)]; exact hW
      · rw [e1, up2_eq, hF 300 (by omega), hP.1, w32_id (by omega) (by omega), hl2]; omega
      · rw [e1, up2_ne (by omega)]
        have hj2 : P[j + 1]? = some B' := by
          rw [List.getElem?_tail] at hj
          exact hj
        have hjl := (List.getElem?_eq_some_iff.mp hj2).1
        refine (hP.2 (j + 1) B' hj2).cp (fun k hk => ?_)
        rw [hT, if_pos (by omega)]
        congr 1
        omega
      · unfold pushP
        rw [if_pos c]
        exact h1
      · rw [h2 i hi1 hi2, e1, up2_ne hi2, hF i hi1]
      · rw [h3 j hj, e1, up2_nj hj, hF 300 (by omega)]
theorem m_change {Q : Mem → Prop} (hM : MN σ B) (hP : MP P σ) (hl : P.length ≤ 8) (h : ∀ σ', MP (pushP P B) σ' → (∀ i, i ≠ 327 → i ≠ 328 → i ≠ 300 → σ' i = σ i) → (∀ j, j ≠ 28 → σ' 300 j = σ 300 j) → Q σ') : wX11_change σ Q := by
  unfold wX11_change
  refine m_lay hM (fun σ1 h1 f1 => m_note (P := P) h1 ⟨by rw [f1 300 (by omega)]; exact hP.1, by rw [f1 327 (by omega)]; exact hP.2⟩ hl (fun σ2 h2 f2 f3 => h σ2 h2 (fun i a1 a2 a3 => by rw [f2 i a1 a3, f1 i a2]) (fun j hj => by rw [f3 j hj, f1 300 (by omega)])))
end MPAST
def CP (P : List Bk) (σ : Mem) : Prop := σ 3 1 = (P.length : Int) ∧ P.length ≤ 8 ∧ ∃ π : Nat → Nat, (∀ j, j < 8 → σ 4 j = ((120 + 16 * π j : Nat) : Int) ∧ π j < 8) ∧ (∀ i, i < 8 → ∀ j, j < 8 → π i = π j → i = j) ∧ ∀ (j : Nat) (B : Bk), P[j]? = some B → CB (120 + 16 * π j) B σ
theorem bk_st : ∀ k, k < 8 → isBk (120 + 16 * k) := by
  intro k hk
  show 120 + 16 * k ∈ bks
  revert k
  decide
section CPAST
variable {B : Bk} {P : List Bk} {σ : Mem}
theorem CP.fr {σ' : Mem} (h : CP P σ) (h3 : σ' 3 1 = σ 3 1) (h4 : σ' 4 = σ 4) (hf : ∀ i, 120 ≤ i → i < 248 → σ' i = σ i) : CP P σ' := by
  obtain ⟨h1, hl, π, h2, hi, h5⟩ := h
  refine ⟨by rw [h3]; exact h1, hl, π, by rw [h4]; exact h2, hi, fun j B' hj => (h5 j B' hj).fr (fun i a1 a2 => hf i (by omega) ?_)⟩
  have := (h2 j (by have := (List.getElem?_eq_some_iff.mp hj).1; omega)).2
  omega
theorem c_add58 {Q : Mem → Prop} {b1 : Nat} (hb : b1 + 13 ≤ 120) (hP : CP P σ) (hl : P.length < 8) (hC : CB b1 B σ) (h : ∀ σ', CP (P ++ [B]) σ' → (∀ i, i ≠ 3 → ¬ (120 ≤ i ∧ i < 248) → σ' i = σ i) → Q σ') : wX6_add_58 b1 Q σ := by
  obtain ⟨h1, hl8, π, h2, hi, h5⟩ := hP
  unfold wX6_add_58
  have hs := h2 P.length (by omega)
  rw [h1, tn, hs.1, tn]
  refine ⟨⟨by omega, by omega⟩, bk_st _ hs.2, ?_⟩
  refine s_copyFrom (b := 120 + 16 * π P.length) (by omega) hC (fun σ1 hC1 hF1 => ?_)
  rintro m3 rfl
  have e3 : σ1 3 = σ 3 := hF1 3 (by omega)
  have e4 : σ1 4 = σ 4 := hF1 4 (by omega)
  refine h _ ⟨?_, by simp; omega, π, ?_, hi, fun j B' hj => ?_⟩ (fun i a1 a2 => ?_)
  · rw [up2_eq, e3, h1, w32_id (by omega) (by omega)]; simp
  · rw [up2_ne (by omega), e4]; exact h2
  · by_cases c : j < P.length
    · rw [List.getElem?_append_left c] at hj
      have hj8 := (h2 j (by omega)).2
      have hne : π j ≠ π P.length := fun e => by have := hi j (by omega) P.length (by omega) e; omega
      refine (h5 j B' hj).fr (fun i a1 a2 => ?_)
      rw [up2_ne (by omega)]
      exact hF1 i (by omega)
    · rw [List.getElem?_append_right (by omega)] at hj
      have hj0 : j = P.length := by
        by_cases c2 : j - P.length = 0
        · omega
        · obtain ⟨n, hn⟩ := Nat.exists_eq_succ_of_ne_zero c2
          rw [hn] at hj
          simp at hj
      subst hj0
      simp at hj
      subst hj
      exact hC1.fr (fun i a1 a2 => up2_ne (by omega))
  · rw [up2_ne a1]
    exact hF1 i (by omega)
theorem c_add {Q : Mem → Prop} {b1 : Nat} (hb : b1 + 13 ≤ 120) (hb4 : 5 ≤ b1) (hP : CP P σ) (hC : CB b1 B σ) (h : ∀ σ', CP (pushP P B) σ' → (∀ i, i ≠ 3 → i ≠ 4 → ¬ (120 ≤ i ∧ i < 248) → σ' i = σ i) → Q σ') : wX6_add b1 σ Q := by
  unfold wX6_add
  refine ⟨fun z => ?_, fun z => ?_⟩
  · have c : P.length < 8 := by rw [hP.1] at z; omega
    refine c_add58 hb hP c hC (fun σ' h1 h2 => h σ' ?_ (fun i a1 a2 a3 => h2 i a1 a3))
    unfold pushP
    rw [if_neg (by omega)]
    exact h1
  · obtain ⟨h1, hl8, π, h2, hi, h5⟩ := hP
    have c : P.length = 8 := by rw [h1] at z; omega
    have h0 := h2 0 (by omega)
    rw [h0.1, tn]
    refine ⟨bk_st _ h0.2, ?_⟩
    unfold wLX6_add_18
    refine lp_from (fun k x τ => x = (120 + 16 * π 0, (k : Int)) ∧ (∀ j, τ 4 j = if j < k - 1 then σ 4 (j + 1) else σ 4 j) ∧ ∀ i, i ≠ 4 → τ i = σ i) 1 8 (by omega) ?_ ?_ _ _ ⟨rfl, fun j => by rw [if_neg (by omega)], fun _ _ => rfl⟩
    · rintro k hk1 hk _ τ ⟨rfl, hT, hF⟩ K hK
      dsimp only [wX6_add_18]
      have e4 : τ 4 k = ((120 + 16 * π k : Nat) : Int) := by rw [hT, if_neg (by omega)]; exact (h2 k hk).1
      rw [w32n (x := (k : Int) - 1) (k - 1) (by omega) (by omega), tn, tn, e4, tn]
      refine ⟨(fun hno => absurd hno (by omega)), fun _ => ⟨⟨by omega, by omega⟩, bk_st _ (h2 k hk).2, ⟨by omega, by omega⟩, ?_⟩⟩
      rintro _ rfl _ rfl
      refine hK _ _ ⟨by rw [w32_id (by omega) (by omega)]; rfl, fun j => ?_, fun i hi => by rw [up2_ne hi]; exact hF i hi⟩
      rw [up2_app, hT j]
      by_cases cj : j = k - 1
      · rw [if_pos ⟨rfl, cj⟩, if_pos (by omega), cj, show k - 1 + 1 = k by omega]
        exact ((h2 k hk).1).symm
      · rw [if_neg (fun z => cj z.2)]
        by_cases c2 : j < k - 1
        · rw [if_pos c2, if_pos (by omega)]
        · rw [if_neg c2, if_neg (by omega)]
    · rintro _ τ ⟨rfl, hT, hF⟩ K
      dsimp only [wX6_add_18]
      refine ⟨fun _ => ?_, (fun hno => absurd hno (by omega))⟩
      rintro m1 e1 m2 e2
      have hl2 : P.tail.length = 7 := by simp [c]
      have f : ∀ i, i ≠ 3 → i ≠ 4 → m2 i = σ i := fun i a1 a2 => by rw [e2, up2_ne a1, e1, up2_ne a2]; exact hF i a2
      refine c_add58 (P := P.tail) (B := B) hb ⟨?_, by omega, fun j => if j = 7 then π 0 else π (j + 1), fun j hj => ?_, fun i hi8 j hj8 e => ?_, fun j B' hj => ?_⟩ (by omega) (hC.fr (fun i a1 a2 => f i (by omega) (by omega))) (fun σ' g1 g2 => h σ' ?_ (fun i a1 a2 a3 => ?_))
      · rw [e2, up2_eq, hl2]; rfl
      · dsimp only
        rw [e2, up2_ne (by omega), e1, up2_app, hT j]
        by_cases cj : j = 7
        · rw [if_pos ⟨rfl, cj⟩, if_pos cj]; exact ⟨rfl, h0.2⟩
        · rw [if_neg (fun z => cj z.2), if_pos (by omega), if_neg cj]
          exact h2 (j + 1) (by omega)
      · dsimp only at e
        by_cases c1 : i = 7
        · by_cases c2 : j = 7
          · omega
          · rw [if_pos c1, if_neg c2] at e
            have := hi 0 (by omega) (j + 1) (by omega) e
            omega
        · by_cases c2 : j = 7
          · rw [if_neg c1, if_pos c2] at e
            have := hi (i + 1) (by omega) 0 (by omega) e
            omega
          · rw [if_neg c1, if_neg c2] at e
            have := hi (i + 1) (by omega) (j + 1) (by omega) e
            omega
      · have hj2 : P[j + 1]? = some B' := by
          rw [List.getElem?_tail] at hj
          exact hj
        have hjl := (List.getElem?_eq_some_iff.mp hj2).1
        have hpj := (h2 (j + 1) (by omega)).2
        dsimp only
        rw [if_neg (by omega)]
        exact (h5 (j + 1) B' hj2).fr (fun i a1 a2 => f i (by omega) (by omega))
      · unfold pushP
        rw [if_pos c]
        exact g1
      · rw [g2 i a1 a3]; exact f i a1 a2
theorem c_takeInto {Q : Mem → Prop} {b1 : Nat} (hb : b1 + 13 ≤ 120) (hb4 : 5 ≤ b1) (hP : CP (P ++ [B]) σ) (h : ∀ σ', CP P σ' → CB b1 B σ' → (∀ i, i ≠ 3 → ¬ (b1 ≤ i ∧ i < b1 + 13) → σ' i = σ i) → Q σ') : wX6_takeInto b1 σ Q := by
  obtain ⟨h1, hl8, π, h2, hi, h5⟩ := hP
  have hlen : (P ++ [B]).length = P.length + 1 := by simp
  rw [hlen] at h1 hl8
  unfold wX6_takeInto
  rw [h1]
  refine ⟨(fun hno => absurd hno (by omega)), fun _ => ?_⟩
  rintro m1 e1
  have e31 : m1 3 1 = (P.length : Int) := by rw [e1, up2_eq, w32_id (by omega) (by omega)]; omega
  have hs := h2 P.length (by omega)
  have e4 : m1 4 P.length = ((120 + 16 * π P.length : Nat) : Int) := by rw [e1, up2_ne (by omega)]; exact hs.1
  rw [e31, tn, e4, tn]
  refine ⟨⟨by omega, by omega⟩, bk_st _ hs.2, ?_⟩
  have hC : CB (120 + 16 * π P.length) B m1 := (h5 P.length B (by simp)).fr (fun i a1 a2 => by rw [e1, up2_ne (by omega)])
  refine s_copyFrom (b := b1) (by omega) hC (fun σ1 hC1 hF1 => h σ1 ⟨?_, by omega, π, fun j hj => ?_, hi, fun j B' hj => ?_⟩ hC1 (fun i a1 a2 => ?_))
  · rw [hF1 3 (by omega)]; exact e31
  · rw [hF1 4 (by omega), e1, up2_ne (by omega)]; exact h2 j hj
  · have hjl := (List.getElem?_eq_some_iff.mp hj).1
    have hpj := (h2 j (by omega)).2
    refine (h5 j B' (by rw [List.getElem?_append_left hjl]; exact hj)).fr (fun i a1 a2 => ?_)
    rw [hF1 i (by omega), e1, up2_ne (by omega)]
  · rw [hF1 i a2, e1, up2_ne a1]
end CPAST
