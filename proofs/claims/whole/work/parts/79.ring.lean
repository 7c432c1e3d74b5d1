/-! rings of debts -/
def Rg (N : Nat) (d : Nat → Int) (n : Nat) (R : Nat → Nat) : Prop := 1 ≤ n ∧ (∀ i, i < n → R i < N) ∧ (∀ i, 1 ≤ i → i < n → R 0 < R i) ∧ (∀ i, i < n → ∀ j, j < n → R i = R j → i = j) ∧ (∀ i, i + 1 < n → 0 < d (8 * R i + R (i + 1))) ∧ 0 < d (8 * R (n - 1) + R 0)
def LexLe (n : Nat) (R R' : Nat → Nat) : Prop := ∀ k, k < n → (∀ i, i < k → R i = R' i) → R k ≤ R' k
/-- the first ring -/
def IsRg (N : Nat) (d : Nat → Int) (n : Nat) (R : Nat → Nat) : Prop := Rg N d n R ∧ (∀ n' R', Rg N d n' R' → n ≤ n') ∧ ∀ R', Rg N d n R' → LexLe n R R'
def NoRg (N : Nat) (d : Nat → Int) : Prop := ∀ n R, ¬ Rg N d n R
theorem inj_le {N n : Nat} {R : Nat → Nat} (hb : ∀ i, i < n → R i < N) (hi : ∀ i, i < n → ∀ j, j < n → R i = R j → i = j) : n ≤ N := by
  classical
  have key : ∀ k : Nat, k ≤ n → (k : Int) ≤ sumTo (fun w => if ∃ i, i < k ∧ R i = w then 1 else 0) N := by
    intro k
    induction k with
    | zero => intro _; exact sumTo_nn (fun i _ => by split <;> omega)
    | succ k ih =>
      intro hk
      have h1 := ih (by omega)
      have := sumTo_lt (f := fun w => if ∃ i, i < k ∧ R i = w then 1 else 0) (g := fun w => if ∃ i, i < k + 1 ∧ R i = w then 1 else 0) (n := N) (k := R k) (hb k (by omega)) (fun w _ => by
        by_cases c1 : ∃ i, i < k ∧ R i = w
        · obtain ⟨i, a1, a2⟩ := c1
          rw [if_pos ⟨i, a1, a2⟩, if_pos ⟨i, by omega, a2⟩]; omega
        · rw [if_neg c1]; split <;> omega) (by
        rw [if_neg (fun z => by
          obtain ⟨i, a1, a2⟩ := z
          have := hi i (by omega) k (by omega) a2
          omega), if_pos ⟨k, by omega, rfl⟩]; omega)
      omega
  have h1 := key n (Nat.le_refl _)
  have h2 := sumTo_le (f := fun w => if ∃ i, i < n ∧ R i = w then 1 else 0) (n := N) (a := 0) (b := 1) (fun i _ => by split <;> omega)
  omega
section RING
variable {N n : Nat} {d : Nat → Int} {R : Nat → Nat}
theorem Rg.le (h : Rg N d n R) : n ≤ N := inj_le h.2.1 h.2.2.2.1
theorem Rg.ge (hN : N ≤ 8) (ha : ∀ u, u < 8 → ∀ v, v < 8 → d (8 * u + v) = - d (8 * v + u)) (h : Rg N d n R) : 3 ≤ n := by
  obtain ⟨h1, h2, h3, h4, h5, h6⟩ := h
  have b0 := h2 0 (by omega)
  by_cases c1 : n = 1
  · subst c1
    have := ha (R 0) (by omega) (R 0) (by omega)
    rw [show 1 - 1 = 0 from rfl] at h6
    omega
  · by_cases c2 : n = 2
    · subst c2
      have b1 := h2 1 (by omega)
      have := ha (R 0) (by omega) (R 1) (by omega)
      have := h5 0 (by omega)
      rw [show 2 - 1 = 1 from rfl] at h6
      rw [show 0 + 1 = 1 from rfl] at this
      omega
    · omega
theorem Rg.congr {R' : Nat → Nat} (h : Rg N d n R) (e : ∀ i, i < n → R i = R' i) : Rg N d n R' := by
  obtain ⟨h1, h2, h3, h4, h5, h6⟩ := h
  refine ⟨h1, fun i hi => by rw [← e i hi]; exact h2 i hi, fun i a1 a2 => by rw [← e i a2, ← e 0 (by omega)]; exact h3 i a1 a2, fun i hi j hj q => h4 i hi j hj (by rw [e i hi, e j hj]; exact q), fun i hi => by rw [← e i (by omega), ← e (i + 1) hi]; exact h5 i hi, by rw [← e (n - 1) (by omega), ← e 0 (by omega)]; exact h6⟩
theorem IsRg.eq {n' : Nat} {R' : Nat → Nat} (h : IsRg N d n R) (h' : IsRg N d n' R') : n = n' ∧ ∀ i, i < n → R i = R' i := by
  have e : n = n' := by
    have := h.2.1 n' R' h'.1
    have := h'.2.1 n R h.1
    omega
  subst e
  refine ⟨rfl, ?_⟩
  have key : ∀ k, k ≤ n → ∀ i, i < k → R i = R' i := by
    intro k
    induction k with
    | zero => intro _ i hi; omega
    | succ k ih =>
      intro hk i hi
      have ih' := ih (by omega)
      by_cases c : i = k
      · have a1 := h.2.2 R' h'.1 k (by omega) ih'
        have a2 := h'.2.2 R h.1 k (by omega) (fun i hi => (ih' i hi).symm)
        rw [c]; omega
      · exact ih' i (by omega)
  exact key n (Nat.le_refl _)
theorem IsRg.no (h : IsRg N d n R) (h' : NoRg N d) : False := h' n R h.1
theorem IsRg.congr {R' : Nat → Nat} (h : IsRg N d n R) (e : ∀ i, i < n → R i = R' i) : IsRg N d n R' := by
  refine ⟨h.1.congr e, h.2.1, fun R2 h2 k hk q => ?_⟩
  rw [← e k hk]
  exact h.2.2 R2 h2 k hk (fun i hi => by rw [e i (by omega)]; exact q i hi)
/-! rings by how far it is -/
def rs (st : Nat) (d : Nat → Int) (i : Nat) : Int := if st < i / 8 ∧ st ≤ i % 8 then d i else 0
theorem rs_uv {st u v : Nat} (hv : v < 8) : rs st d (8 * u + v) = if st < u ∧ st ≤ v then d (8 * u + v) else 0 := by
  unfold rs
  rw [(dm8 hv).1, (dm8 hv).2]
/-- a ring's members lie no farther than along it -/
theorem rg_far {st : Nat} {D : Nat → Int} (hN : N ≤ 8) (hD : IsD N (rs st d) 1 st D) (h : Rg N d n R) (hs : R 0 = st) : ∀ j i, i + j = n → 1 ≤ i → i < n → 0 ≤ D (R i) ∧ D (R i) ≤ (j : Int) := by
  obtain ⟨h1, h2, h3, h4, h5, h6⟩ := h
  intro j
  induction j with
  | zero => intro i e _ _; omega
  | succ j ih =>
    intro i e hi1 hin
    have hb := h2 i hin
    have hg := h3 i hi1 hin
    by_cases c : i = n - 1
    · have he : 1 ≤ rs st d (8 * R i + R 0) := by
        have b0 := h2 0 (by omega)
        rw [rs_uv (by omega), if_pos (by omega), c]
        omega
      have := hD.2.2.2 (R i) hb (R 0) (h2 0 (by omega)) (by rw [hs, hD.1]; omega) he
      rw [hs, hD.1] at this
      omega
    · have ih' := ih (i + 1) (by omega) (by omega) (by omega)
      have hb1 := h2 (i + 1) (by omega)
      have hg1 := h3 (i + 1) (by omega) (by omega)
      have he : 1 ≤ rs st d (8 * R i + R (i + 1)) := by
        have := h5 i (by omega)
        rw [rs_uv (by omega), if_pos (by omega)]
        omega
      have := hD.2.2.2 (R i) hb (R (i + 1)) hb1 ih'.1 he
      omega
theorem IsD.st {st : Nat} {D : Nat → Int} (hN : N ≤ 8) (hD : IsD N (rs st d) 1 st D) {u : Nat} (hu : u < N) (h0 : 1 ≤ D u) : st < u := by
  by_cases c : u = st
  · rw [c, hD.1] at h0; omega
  · obtain ⟨_, v, hv, _, he⟩ := hD.2.2.1 u hu c (by omega)
    rw [rs_uv (by omega)] at he
    by_cases q : st < u ∧ st ≤ v
    · exact q.1
    · rw [if_neg q] at he; omega
/-- from st over v, which st owes, and from there the nearest back: a ring -/
theorem far_rg {st v : Nat} {D : Nat → Int} (hN : N ≤ 8) (hst : st < N) (hD : IsD N (rs st d) 1 st D) (hv : v < N) (h0 : 1 ≤ D v) (ho : 0 < d (8 * st + v)) {k : Nat} (ek : D v = (k : Int)) : ∃ R, Rg N d (k + 1) R ∧ R 0 = st ∧ R 1 = v := by
  obtain ⟨L, P, hW⟩ := ex_W hD hv (by omega)
  obtain ⟨D', hD', h0', hL, hP0, hP, hE⟩ := hW
  have e := hD'.eq hD
  have eL : L = k + 1 := by have := e v hv; omega
  subst eL
  refine ⟨fun i => if i = 0 then st else P (i - 1), ⟨by omega, fun i hi => ?_, fun i hi1 hi => ?_, fun i hi j hj q => ?_, fun i hi => ?_, ?_⟩, rfl, by (try dsimp only); rw [if_neg (by omega)]; exact hP0⟩
  · (try dsimp only)
    by_cases c : i = 0
    · rw [if_pos c]; exact hst
    · rw [if_neg c]; exact (hP (i - 1) (by omega)).1
  · (try dsimp only)
    rw [if_pos rfl, if_neg (by omega)]
    have := hP (i - 1) (by omega)
    exact hD'.st hN this.1 (by rw [this.2]; omega)
  · (try dsimp only at q)
    by_cases c1 : i = 0
    · by_cases c2 : j = 0
      · omega
      · rw [if_pos c1, if_neg c2] at q
        have := hP (j - 1) (by omega)
        rw [← q, hD'.1] at this
        omega
    · by_cases c2 : j = 0
      · rw [if_neg c1, if_pos c2] at q
        have := hP (i - 1) (by omega)
        rw [q, hD'.1] at this
        omega
      · rw [if_neg c1, if_neg c2] at q
        have a1 := (hP (i - 1) (by omega)).2
        have a2 := (hP (j - 1) (by omega)).2
        rw [q] at a1
        omega
  · (try dsimp only)
    rw [if_neg (show ¬ i + 1 = 0 by omega), show i + 1 - 1 = i by omega]
    by_cases c : i = 0
    · rw [if_pos c, c, hP0]; exact ho
    · rw [if_neg c]
      have b := hE (i - 1) (by omega)
      rw [show i - 1 + 1 = i by omega] at b
      have q := b.1
      have b1 := (hP i (by omega)).1
      rw [rs_uv (by omega)] at q
      by_cases c2 : st < P (i - 1) ∧ st ≤ P i
      · rw [if_pos c2] at q; omega
      · rw [if_neg c2] at q; omega
  · (try dsimp only)
    rw [if_pos rfl, if_neg (show ¬ k + 1 - 1 = 0 by omega), show k + 1 - 1 - 1 = k - 1 by omega]
    have b := hE (k - 1) (by omega)
    rw [show k - 1 + 1 = k by omega] at b
    have z : P k = st := hD'.z (hP k (by omega)).1 (by rw [(hP k (by omega)).2]; omega)
    have q := b.1
    rw [z, rs_uv (by omega)] at q
    by_cases c2 : st < P (k - 1) ∧ st ≤ st
    · rw [if_pos c2] at q; omega
    · rw [if_neg c2] at q; omega
end RING
