/-! texts that are read -/
def lbit (a : Int) (i : Nat) : Bool := (Int64.ofInt a).toBitVec.getLsbD i
theorem s_u64 : ∀ n : Nat, n < 64 → (((Int32.ofInt (n : Int)).toInt64.toUInt64 &&& Int64.toUInt64 63).toBitVec % 64).toNat = n := by decide +kernel
theorem lb_one : ∀ i, i < 64 → (Int64.ofInt 1).toBitVec.getLsbD i = decide (i = 0) := by decide +kernel
theorem lb_shl : ∀ j, j < 64 → ∀ i, i < 64 → lbit (lshl 1 ((j : Nat) : Int)) i = decide (i = j) := by decide +kernel
theorem lb_zero : ∀ i, i < 64 → lbit 0 i = false := by decide +kernel
theorem lb_ushr (a : Int) {n : Nat} (hn : n < 64) (i : Nat) : lbit (lushr a (n : Int)) i = lbit a (n + i) := by
  unfold lbit lushr
  rw [Int64.ofInt_toInt]
  show ((Int64.ofInt a).toUInt64 >>> ((Int32.ofInt (n : Int)).toInt64.toUInt64 &&& Int64.toUInt64 63)).toBitVec.getLsbD i = (Int64.ofInt a).toUInt64.toBitVec.getLsbD (n + i)
  rw [UInt64.toBitVec_shiftRight]
  show ((Int64.ofInt a).toUInt64.toBitVec >>> (((Int32.ofInt (n : Int)).toInt64.toUInt64 &&& Int64.toUInt64 63).toBitVec % 64).toNat).getLsbD i = _
  rw [s_u64 n hn, BitVec.getLsbD_ushiftRight]
theorem lb_and1 (x : Int) : lband x 1 = if lbit x 0 then 1 else 0 := by
  have e : Int64.ofInt x &&& Int64.ofInt 1 = if lbit x 0 then Int64.ofInt 1 else Int64.ofInt 0 := by
    apply Int64.toBitVec_inj.mp
    rw [Int64.toBitVec_and]
    apply BitVec.eq_of_getLsbD_eq
    intro i hi
    rw [BitVec.getLsbD_and, lb_one i hi]
    by_cases c : i = 0
    · subst c
      unfold lbit
      cases h : (Int64.ofInt x).toBitVec.getLsbD 0 with
      | true => rw [if_pos rfl, lb_one 0 (by omega)]; rfl
      | false => rw [if_neg (by decide)]; exact (lb_zero 0 (by omega)).symm
    · rw [decide_eq_false c, Bool.and_false]
      cases h : lbit x 0 with
      | true => rw [if_pos rfl, lb_one i hi, decide_eq_false c]
      | false => rw [if_neg (by decide)]; exact (lb_zero i hi).symm
  unfold lband
  rw [e]
  cases h : lbit x 0 with
  | true => rw [if_pos rfl, if_pos rfl]; decide +kernel
  | false => rw [if_neg (by decide), if_neg (by decide)]; decide +kernel
theorem lb_test (a : Int) {n : Nat} (hn : n < 64) : lcmpI (lband (lushr a (n : Int)) 1) 1 = 0 ↔ lbit a n = true := by
  rw [lb_and1, lb_ushr a hn]
  rw [Nat.add_zero]
  cases h : lbit a n with
  | true => rw [if_pos rfl]; exact ⟨fun _ => rfl, fun _ => by decide⟩
  | false => rw [if_neg (by decide)]; exact ⟨fun q => absurd q (by decide), fun q => by cases q⟩
theorem lb_set (a : Int) {j i : Nat} (hj : j < 64) (hi : i < 64) : lbit (lbor a (lshl 1 (j : Int))) i = (lbit a i || decide (i = j)) := by
  have := lb_shl j hj i hi
  unfold lbit at this ⊢
  unfold lbor
  rw [Int64.ofInt_toInt, Int64.toBitVec_or, BitVec.getLsbD_or, this]
/-- the sign at p, -1 behind the end -/
def sgn (T : List Int) (p : Nat) : Int := (T[p]?).getD (-1)
def dg (T : List Int) (p : Nat) : Int := if 48 ≤ sgn T p ∧ sgn T p ≤ 57 then sgn T p - 48 else -1
def ltr (T : List Int) (p m : Nat) : Int := if 97 ≤ sgn T p ∧ sgn T p < 97 + (m : Int) then sgn T p - 97 else -1
def numA (T : List Int) (p : Nat) : Nat → Int
  | 0 => 0
  | j + 1 => 10 * numA T p j + dg T (p + j)
/-- the first place of k from p on that is no digit, as an answer -/
def numE (T : List Int) (p : Nat) : Nat → Option Nat
  | 0 => none
  | k + 1 => match numE T p k with
    | some e => some e
    | none => if dg T (p + k) < 0 then some (p + k) else none
abbrev TB (T : List Int) : Prop := (∀ v ∈ T, 0 ≤ v ∧ v ≤ 255) ∧ T.length ≤ 80
section TEXT
variable {T : List Int} {σ : Mem} {Q : Int → Mem → Prop}
theorem sgn_lt {p : Nat} (h : p < T.length) : T[p]? = some (sgn T p) := by
  unfold sgn
  rw [List.getElem?_eq_getElem h]; rfl
theorem sgn_ge {p : Nat} (h : T.length ≤ p) : sgn T p = -1 := by
  unfold sgn
  rw [List.getElem?_eq_none h]; rfl
theorem sgn_b (hT : TB T) (p : Nat) : -1 ≤ sgn T p ∧ sgn T p ≤ 255 ∧ (p < T.length → 0 ≤ sgn T p) := by
  by_cases c : p < T.length
  · have := hT.1 _ (List.mem_of_getElem? (sgn_lt c))
    exact ⟨by omega, by omega, fun _ => by omega⟩
  · rw [sgn_ge (by omega)]; exact ⟨by omega, by omega, fun q => absurd q c⟩
theorem dg_b (p : Nat) : -1 ≤ dg T p ∧ dg T p ≤ 9 := by unfold dg; split <;> omega
theorem ltr_b (p m : Nat) : -1 ≤ ltr T p m ∧ ltr T p m < max (m : Int) 0 := by unfold ltr; split <;> omega
theorem dg_lt {p : Nat} (h : 0 ≤ dg T p) : p < T.length := by
  by_cases c : p < T.length
  · exact c
  · unfold dg at h
    rw [sgn_ge (by omega), if_neg (by omega)] at h; omega
theorem ltr_lt {p m : Nat} (h : 0 ≤ ltr T p m) : p < T.length := by
  by_cases c : p < T.length
  · exact c
  · unfold ltr at h
    rw [sgn_ge (by omega), if_neg (by omega)] at h; omega
theorem numE_none {p : Nat} : ∀ {k : Nat}, numE T p k = none → ∀ j, j < k → 0 ≤ dg T (p + j)
  | 0, _, j, hj => by omega
  | k + 1, h, j, hj => by
    unfold numE at h
    cases e : numE T p k with
    | some q => rw [e] at h; cases h
    | none =>
      rw [e] at h
      dsimp only at h
      by_cases c : dg T (p + k) < 0
      · rw [if_pos c] at h; cases h
      · by_cases c2 : j = k
        · rw [c2]; omega
        · exact numE_none e j (by omega)
theorem numE_at {p j : Nat} (h : ∀ i, i < j → 0 ≤ dg T (p + i)) (hn : dg T (p + j) < 0) : ∀ {k : Nat}, j < k → numE T p k = some (p + j)
  | 0, hj => by omega
  | k + 1, hj => by
    unfold numE
    by_cases c : j = k
    · have hz : ∀ m, m ≤ k → numE T p m = none := by
        intro m
        induction m with
        | zero => intro _; rfl
        | succ m ih =>
          intro hm
          unfold numE
          rw [ih (by omega)]
          dsimp only
          rw [if_neg (by have := h m (by omega); omega)]
      rw [hz k (Nat.le_refl _)]
      dsimp only
      rw [← c, if_pos hn]
    · rw [numE_at h hn (k := k) (by omega)]
theorem numE_lt {p : Nat} : ∀ {k e : Nat}, numE T p k = some e → p ≤ e ∧ e < p + k
  | 0, e, h => by cases h
  | k + 1, e, h => by
    unfold numE at h
    cases q : numE T p k with
    | some q' =>
      rw [q] at h
      dsimp only at h
      cases h
      have := numE_lt q
      omega
    | none =>
      rw [q] at h
      dsimp only at h
      by_cases c : dg T (p + k) < 0
      · rw [if_pos c] at h
        cases h
        omega
      · rw [if_neg c] at h; cases h
theorem numA_b {p : Nat} : ∀ k : Nat, k ≤ 4 → (∀ j, j < k → 0 ≤ dg T (p + j)) → 0 ≤ numA T p k ∧ (k = 0 → numA T p k ≤ 0) ∧ (k = 1 → numA T p k ≤ 9) ∧ (k = 2 → numA T p k ≤ 99) ∧ (k = 3 → numA T p k ≤ 999) ∧ numA T p k ≤ 9999
  | 0, _, _ => by simp [numA]
  | k + 1, hk, h => by
    have ih := numA_b (p := p) k (by omega) (fun j hj => h j (by omega))
    have d := dg_b (T := T) (p + k)
    have := h k (by omega)
    rw [numA]
    omega
theorem s_signAt {p : Nat} (hT : TB T) (hC : CT T σ) (h : Q (sgn T p) σ) : wX9_signAt (p : Int) σ Q := by
  unfold wX9_signAt
  rw [hC.1]
  refine ⟨(fun hno => absurd hno (by omega)), fun _ => ⟨fun z => ?_, fun z => ⟨fun z2 => ?_, fun z2 => ⟨⟨by omega, by omega⟩, ?_⟩⟩⟩⟩
  · rw [sgn_ge (by omega)] at h; exact h
  · have := hT.2; omega
  · rw [tn, hC.2 p _ (sgn_lt (by omega))]; exact h
theorem s_digitAt {p : Nat} (hT : TB T) (hC : CT T σ) (h : Q (dg T p) σ) : wX9_digitAt (p : Int) σ Q := by
  unfold wX9_digitAt
  have b := sgn_b hT p
  unfold dg at h
  refine s_signAt hT hC ⟨fun z => ?_, fun z => ⟨fun z2 => ?_, fun z2 => ?_⟩⟩
  · rw [if_neg (by omega)] at h; exact h
  · rw [if_neg (by omega)] at h; exact h
  · rw [if_pos (by omega)] at h; rw [w32_id (by omega) (by omega)]; exact h
theorem s_letterAt {p m : Nat} (hm : m ≤ 8) (hT : TB T) (hC : CT T σ) (h : Q (ltr T p m) σ) : wX9_letterAt (p : Int) (m : Int) σ Q := by
  unfold wX9_letterAt
  have b := sgn_b hT p
  unfold ltr at h
  rw [w32_id (a := 97 + (m : Int)) (by omega) (by omega)]
  refine s_signAt hT hC ⟨fun z => ?_, fun z => ⟨fun z2 => ?_, fun z2 => ?_⟩⟩
  · rw [if_neg (by omega)] at h; exact h
  · rw [if_neg (by omega)] at h; exact h
  · rw [if_pos (by omega)] at h; rw [w32_id (by omega) (by omega)]; exact h
theorem s_numberAt {p k : Nat} (hp : p ≤ 1000) (hk : k ≤ 4) (hT : TB T) (hC : CT T σ) (h1 : numE T p k = none → Q (numA T p k) σ) (h0 : ∀ e : Nat, numE T p k = some e → Q (-1 - (e : Int)) σ) : wX9_numberAt (p : Int) (k : Int) σ Q := by
  unfold wX9_numberAt wLX9_numberAt_5
  refine lp_for (fun j y τ => τ = σ ∧ y = ((p : Int), (k : Int), numA T p j, ((p + j : Nat) : Int)) ∧ ∀ i, i < j → 0 ≤ dg T (p + i)) k ?_ ?_ _ _ ⟨rfl, rfl, fun i hi => by omega⟩
  · rintro j hj _ σ ⟨rfl, rfl, hd⟩ K hK
    dsimp only [wX9_numberAt_5]
    have nb := numA_b (T := T) (p := p) j (by omega) hd
    have d := dg_b (T := T) (p + j)
    rw [w32_id (a := (p : Int) + k) (by omega) (by omega)]
    refine ⟨fun z => absurd z (by omega), fun _ => s_digitAt hT hC ⟨fun z => ?_, fun z => ?_⟩⟩
    · rintro _ rfl _ rfl
      refine hK _ _ ⟨rfl, ?_, fun i hi => ?_⟩
      · rw [w32_id (a := 10 * numA T p j) (by omega) (by omega), w32_id (a := 10 * numA T p j + dg T (p + j)) (by omega) (by omega), w32_id (by omega) (by omega)]; rfl
      · by_cases c : i = j
        · rw [c]; exact z
        · exact hd i (by omega)
    · rw [w32_id (by omega) (by omega)]
      exact h0 (p + j) (numE_at hd (by omega) hj)
  · rintro _ σ ⟨rfl, rfl, hd⟩ K
    dsimp only [wX9_numberAt_5]
    rw [w32_id (a := (p : Int) + k) (by omega) (by omega)]
    refine ⟨fun _ => h1 ?_, fun z => absurd (by omega) z⟩
    have hz : ∀ m, m ≤ k → numE T p m = none := by
      intro m
      induction m with
      | zero => intro _; rfl
      | succ m ih =>
        intro hm
        unfold numE
        rw [ih (by omega)]
        dsimp only
        rw [if_neg (by have := hd m (by omega); omega)]
    exact hz k (Nat.le_refl _)
/-! the reference's reading: where it is, what is wrong -/
def PS (T : List Int) (a : Nat) (w : Int) (σ : Mem) : Prop := σ 300 6 = (T.length : Int) ∧ (∀ (j : Nat) (v : Int), T[j]? = some v → σ 302 j = i8 v) ∧ σ 300 7 = (a : Int) ∧ σ 300 8 = w
theorem PS.fr {σ' : Mem} {a : Nat} {w : Int} (h : PS T a w σ) (h1 : ∀ j, j = 6 ∨ j = 7 ∨ j = 8 → σ' 300 j = σ 300 j) (h2 : σ' 302 = σ 302) : PS T a w σ' := ⟨by rw [h1 6 (by omega)]; exact h.1, by rw [h2]; exact h.2.1, by rw [h1 7 (by omega)]; exact h.2.2.1, by rw [h1 8 (by omega)]; exact h.2.2.2⟩
/-- only where it is and what is wrong has changed -/
def PF (σ σ' : Mem) : Prop := (∀ i, i ≠ 300 → σ' i = σ i) ∧ ∀ j, j ≠ 7 → j ≠ 8 → σ' 300 j = σ 300 j
theorem PF.rfl {σ : Mem} : PF σ σ := ⟨fun _ _ => Eq.refl _, fun _ _ _ => Eq.refl _⟩
theorem PF.tr {σ1 σ2 σ3 : Mem} (h : PF σ1 σ2) (h' : PF σ2 σ3) : PF σ1 σ3 := ⟨fun i hi => by rw [h'.1 i hi, h.1 i hi], fun j a1 a2 => by rw [h'.2 j a1 a2, h.2 j a1 a2]⟩
theorem m_fine {a : Nat} {w : Int} (hP : PS T a w σ) (h1 : w = -1 → Q 1 σ) (h0 : w ≠ -1 → Q 0 σ) : wX11_fine σ Q := by
  unfold wX11_fine
  rw [hP.2.2.2]
  exact ⟨h0, h1⟩
theorem m_fault {a : Nat} {w v : Int} {Q : Mem → Prop} (hP : PS T a w σ) (h : ∀ σ', PS T a (if w = -1 then v else w) σ' → PF σ σ' → Q σ') : wX11_fault v σ Q := by
  unfold wX11_fault
  refine m_fine hP (fun e => ⟨fun q => absurd q (by decide), fun _ => ?_⟩) (fun e => ⟨fun _ => ?_, fun q => absurd (Eq.refl _) q⟩)
  · rw [if_pos e] at h
    rintro m3 e3
    refine h m3 ⟨by rw [e3, up2_nj (by omega)]; exact hP.1, by rw [e3, up2_ne (by omega)]; exact hP.2.1, by rw [e3, up2_nj (by omega)]; exact hP.2.2.1, by rw [e3, up2_eq]⟩ ⟨fun i hi => by rw [e3, up2_ne hi], fun j a1 a2 => by rw [e3, up2_nj a2]⟩
  · rw [if_neg e] at h
    exact h σ hP PF.rfl
theorem m_here {a : Nat} {w : Int} (hT : TB T) (hP : PS T a w σ) (h : Q (sgn T a) σ) : wX11_here σ Q := by
  unfold wX11_here
  rw [hP.1, hP.2.2.1, tn]
  have := hT.2
  refine ⟨fun z => ?_, fun z => ⟨by omega, ?_⟩⟩
  · rw [sgn_ge (by omega)] at h; exact h
  · have b := sgn_b hT a
    rw [hP.2.1 a _ (sgn_lt (by omega)), i8_255 (by have := b.2.2 (by omega); omega)]; exact h
/-- one of so many signs from a first one on -/
theorem m_oneOf {a f m : Nat} {w : Int} (hf : f + m ≤ 128) (hf1 : 1 ≤ f) (hT : TB T) (hP : PS T a w σ) (hb : w ≠ -1 → Q 0 σ) (h1 : w = -1 → (f : Int) ≤ sgn T a → sgn T a < (f : Int) + m → ∀ σ', PS T (a + 1) (-1) σ' → PF σ σ' → Q (sgn T a - f) σ') (h0 : w = -1 → ¬ ((f : Int) ≤ sgn T a ∧ sgn T a < (f : Int) + m) → ∀ σ', PS T a (a : Int) σ' → PF σ σ' → Q 0 σ') : wX11_oneOf (f : Int) (m : Int) σ Q := by
  have tl := hT.2
  unfold wX11_oneOf
  refine m_fine hP (fun e => ⟨fun _ => ?_, fun q => absurd q (by decide)⟩) (fun e => ⟨fun q => absurd (Eq.refl _) q, fun _ => hb e⟩)
  rw [w32_id (a := (f : Int) + m) (by omega) (by omega), w32_id (a := (f : Int) + m - 1) (by omega) (by omega)]
  refine m_here hT hP (m_in (fun z1 z2 => ⟨fun _ => ?_, fun q => absurd q (by decide)⟩) (fun z => ⟨fun q => absurd (Eq.refl _) q, fun _ => ?_⟩))
  · have hlt : a < T.length := by
      by_cases c : a < T.length
      · exact c
      · rw [sgn_ge (by omega)] at z1; omega
    rw [hP.2.2.1, show w32 ((a : Int) + 1) = ((a + 1 : Nat) : Int) by rw [w32_id (by omega) (by omega)]; rfl]
    rintro m7 e7
    have e77 : m7 300 7 = ((a + 1 : Nat) : Int) := by rw [e7, up2_eq]
    have g302 : m7 302 = σ 302 := by rw [e7, up2_ne (by omega)]
    rw [e77, show w32 (((a + 1 : Nat) : Int) - 1) = ((a : Nat) : Int) by rw [w32_id (by omega) (by omega)]; omega, tn, g302, hP.2.1 a _ (sgn_lt hlt), i8_127 (by omega), w32_id (by omega) (by omega)]
    refine ⟨by omega, h1 e z1 (by omega) m7 ⟨by rw [e7, up2_nj (by omega)]; exact hP.1, by rw [g302]; exact hP.2.1, e77, by rw [e7, up2_nj (by omega), hP.2.2.2]; exact e⟩ ⟨fun i hi => by rw [e7, up2_ne hi], fun j a1 a2 => by rw [e7, up2_nj a1]⟩⟩
  · rw [hP.2.2.1]
    refine m_fault hP (fun σ' hP' hF => ?_)
    rw [if_pos e] at hP'
    exact h0 e (fun q => z (by omega)) σ' hP' hF
theorem m_digits {a k : Nat} {w : Int} (hk : k ≤ 4) (hT : TB T) (hP : PS T a w σ) (hb : w ≠ -1 → Q 0 σ) (h1 : w = -1 → numE T a k = none → ∀ σ', PS T (a + k) (-1) σ' → PF σ σ' → Q (numA T a k) σ') (h0 : w = -1 → ∀ e : Nat, numE T a k = some e → ∀ v σ', PS T e (e : Int) σ' → PF σ σ' → Q v σ') : wX11_digits (k : Int) σ Q := by
  unfold wX11_digits wLX11_digits_4
  have tl := hT.2
  by_cases cw : w = -1
  · subst cw
    refine lp_for (fun j y τ => ∃ v : Int, y = ((k : Int), v, (j : Int)) ∧ PF σ τ ∧ (((∀ i, i < j → 0 ≤ dg T (a + i)) ∧ v = numA T a j ∧ PS T (a + j) (-1) τ) ∨ ((∃ e : Nat, numE T a k = some e ∧ PS T e (e : Int) τ)))) k ?_ ?_ _ _ ⟨0, rfl, PF.rfl, Or.inl ⟨fun i hi => by omega, rfl, hP⟩⟩
    · rintro j hj _ τ ⟨v, rfl, hF, hc⟩ K hK
      dsimp only [wX11_digits_4]
      have wj : w32 ((j : Int) + 1) = ((j + 1 : Nat) : Int) := by rw [w32_id (by omega) (by omega)]; rfl
      refine ⟨fun z => absurd z (by omega), fun _ => ?_⟩
      rcases hc with ⟨hd, rfl, hP1⟩ | ⟨e, he, hP1⟩
      · have nb := numA_b (T := T) (p := a) j (by omega) hd
        refine m_oneOf (f := 48) (m := 10) (by omega) (by omega) hT hP1 (fun q => absurd (Eq.refl _) q) (fun _ z1 z2 σ' hP' hF' => ?_) (fun _ z σ' hP' hF' => ?_)
        · have ed : dg T (a + j) = sgn T (a + j) - 48 := by unfold dg; rw [if_pos (by omega)]
          rintro _ rfl _ rfl
          refine hK _ _ ⟨numA T a (j + 1), ?_, hF.tr hF', Or.inl ⟨fun i hi => ?_, Eq.refl _, by rw [← Nat.add_assoc]; exact hP'⟩⟩
          · rw [wj, numA, ed, w32_id (a := 10 * numA T a j) (by omega) (by omega), w32_id (by omega) (by omega)]; rfl
          · by_cases c : i = j
            · rw [c, ed]; omega
            · exact hd i (by omega)
        · rintro _ rfl _ rfl
          refine hK _ _ ⟨_, by rw [wj], hF.tr hF', Or.inr ⟨a + j, numE_at hd (by unfold dg; rw [if_neg (by omega)]; omega) hj, hP'⟩⟩
      · refine m_oneOf (f := 48) (m := 10) (by omega) (by omega) hT hP1 (fun q => ?_) (fun q => absurd q (by omega)) (fun q => absurd q (by omega))
        rintro _ rfl _ rfl
        exact hK _ _ ⟨_, by rw [wj], hF, Or.inr ⟨e, he, hP1⟩⟩
    · rintro _ τ ⟨v, rfl, hF, hc⟩ K
      dsimp only [wX11_digits_4]
      refine ⟨fun _ => ?_, fun z => absurd (Int.le_refl _) z⟩
      rcases hc with ⟨hd, rfl, hP1⟩ | ⟨e, he, hP1⟩
      · refine h1 (Eq.refl _) ?_ τ hP1 hF
        cases q : numE T a k with
        | none => rfl
        | some e =>
          exfalso
          have : ∀ m, m ≤ k → numE T a m = none := by
            intro m
            induction m with
            | zero => intro _; rfl
            | succ m ih =>
              intro hm
              unfold numE
              rw [ih (by omega)]
              dsimp only
              rw [if_neg (by have := hd m (by omega); omega)]
          rw [this k (Nat.le_refl _)] at q
          cases q
      · exact h0 (Eq.refl _) e he _ τ hP1 hF
  · refine lp_for (fun j y τ => τ = σ ∧ y = ((k : Int), 0, (j : Int))) k ?_ ?_ _ _ ⟨rfl, rfl⟩
    · rintro j hj _ σ ⟨rfl, rfl⟩ K hK
      dsimp only [wX11_digits_4]
      refine ⟨fun z => absurd z (by omega), fun _ => m_oneOf (f := 48) (m := 10) (by omega) (by omega) hT hP (fun q => ?_) (fun q => absurd q cw) (fun q => absurd q cw)⟩
      rintro _ rfl _ rfl
      refine hK _ _ ⟨rfl, ?_⟩
      rw [w32_id (a := (j : Int) + 1) (by omega) (by omega)]
      rfl
    · rintro _ σ ⟨rfl, rfl⟩ K
      dsimp only [wX11_digits_4]
      exact ⟨fun _ => hb cw, fun z => absurd (Int.le_refl _) z⟩
theorem m_wasRight {a : Nat} {w : Int} (hP : PS T a w σ) (h1 : w = -1 → T.length ≤ a → Q 1 σ) (h0 : ¬ (w = -1 ∧ T.length ≤ a) → ∀ σ', PS T a (if w = -1 then (a : Int) else w) σ' → PF σ σ' → Q 0 σ') : wX11_wasRight σ Q := by
  unfold wX11_wasRight wX11_wasRight_19
  rw [hP.1, hP.2.2.1]
  refine ⟨fun z => m_fine hP (fun e => ⟨Or.inr rfl, h1 e (by omega)⟩) (fun e => ⟨Or.inl rfl, ?_⟩), fun z => m_fault hP (fun σ' hP' hF => ?_)⟩
  · have := h0 (fun q => e q.1) σ
    rw [if_neg e] at this
    exact this hP PF.rfl
  · have q := h0 (fun q => z (by omega)) σ' hP' hF
    refine m_fine hP' (fun e => ?_) (fun e => ⟨Or.inl rfl, q⟩)
    by_cases c : w = -1
    · rw [if_pos c] at e; omega
    · rw [if_neg c] at e; exact absurd e c
theorem m_begin {X : St} {Q : Mem → Prop} (hM : MSt X σ) (h : ∀ σ', MSt (X.1, X.2.1, X.2.2.1, [], X.2.2.2.2) σ' → PS X.2.2.2.1 0 (-1) σ' → (∀ i, i ≠ 300 → σ' i = σ i) → Q σ') : wX11_begin σ Q := by
  unfold wX11_begin
  rintro m1 e1 m2 e2 m3 e3 m4 e4
  have f : ∀ i, i ≠ 300 → m4 i = σ i := fun i hi => by rw [e4, up2_ne hi, e3, up2_ne hi, e2, up2_ne hi, e1, up2_ne hi]
  have j : ∀ j, j ≠ 2 → j ≠ 6 → j ≠ 7 → j ≠ 8 → m4 300 j = σ 300 j := fun j b1 b2 b3 b4 => by rw [e4, up2_nj b1, e3, up2_nj b4, e2, up2_nj b3, e1, up2_nj b2]
  refine h m4 ⟨by unfold MN; rw [f 301 (by omega)]; exact hM.1, hM.2.1.fr (f 332 (by omega)) (f 331 (by omega)), hM.2.2.1.fr (j 28 (by omega) (by omega) (by omega) (by omega)) (f 327 (by omega)), ⟨by rw [e4, up2_eq]; rfl, fun j v hj => by simp at hj⟩, hM.2.2.2.2.1.fr (j 4 (by omega) (by omega) (by omega) (by omega)) (f 304 (by omega)), by rw [j 14 (by omega) (by omega) (by omega) (by omega)]; exact hM.2.2.2.2.2⟩ ⟨?_, by rw [f 302 (by omega)]; exact hM.2.2.2.1.2, ?_, ?_⟩ f
  · rw [e4, up2_nj (by omega), e3, up2_nj (by omega), e2, up2_nj (by omega), e1, up2_eq]; exact hM.2.2.2.1.1
  · rw [e4, up2_nj (by omega), e3, up2_nj (by omega), e2, up2_eq]; rfl
  · rw [e4, up2_nj (by omega), e3, up2_eq]
end TEXT
