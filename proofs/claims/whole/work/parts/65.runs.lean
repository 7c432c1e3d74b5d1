/-! rooms, what goes along a way, how many parts there are at most -/
def sp (B : Bk) (i : Nat) : Int := if i / 8 < nN B ∧ i % 8 < nN B ∧ i / 8 ≠ i % 8 then rm B (i / 8) (i % 8) else 0
/-- where nothing goes: a member's own, a member barred, outside -/
def Zr (N m u v : Nat) : Prop := u = v ∨ u = m ∨ v = m ∨ N ≤ u ∨ N ≤ v
def SI (m : Nat) (B : Bk) (s : Nat → Int) : Prop := (∀ u, u < 8 → ∀ v, v < 8 → Zr (nN B) m u v → s (8 * u + v) = 0) ∧ ∀ u, u < 8 → ∀ v, v < 8 → ¬ Zr (nN B) m u v → s (8 * u + v) + s (8 * v + u) = sp B (8 * u + v) + sp B (8 * v + u) ∧ (sp B (8 * u + v) ≤ s (8 * u + v) ∨ 0 ≤ s (8 * u + v))
theorem dm8 {u v : Nat} (hv : v < 8) : (8 * u + v) / 8 = u ∧ (8 * u + v) % 8 = v := by omega
theorem i88 (i : Nat) : i = 8 * (i / 8) + i % 8 := by omega
theorem Zr.sym {N m u v : Nat} (h : Zr N m u v) : Zr N m v u := by unfold Zr at h ⊢; omega
theorem sp_uv {B : Bk} {u v : Nat} (hv : v < 8) (h1 : u < nN B) (h2 : v < nN B) (h3 : u ≠ v) : sp B (8 * u + v) = rm B u v := by
  unfold sp
  rw [(dm8 hv).1, (dm8 hv).2, if_pos ⟨h1, h2, h3⟩]
theorem sp_0 {B : Bk} {u v : Nat} (hv : v < 8) (h : ¬ (u < nN B ∧ v < nN B ∧ u ≠ v)) : sp B (8 * u + v) = 0 := by
  unfold sp
  rw [(dm8 hv).1, (dm8 hv).2, if_neg h]
theorem sp_b {B : Bk} (hI : IvA B) {i : Nat} (hi : i < 64) : -50000 ≤ sp B i ∧ sp B i ≤ 1998 := by
  unfold sp
  split
  · exact rm_b hI (by omega) (by omega)
  · omega
section RUNS
variable {m : Nat} {B : Bk} {s : Nat → Int}
theorem SI.b (h : SI m B s) (hI : IvA B) {i : Nat} (hi : i < 64) : -50000 ≤ s i ∧ s i ≤ 3996 := by
  rw [i88 i]
  have hu : i / 8 < 8 := by omega
  have hv : i % 8 < 8 := by omega
  have b1 := sp_b hI (lt64 hu hv)
  have b2 := sp_b hI (lt64 hv hu)
  by_cases c : Zr (nN B) m (i / 8) (i % 8)
  · rw [h.1 _ hu _ hv c]; omega
  · have a1 := h.2 _ hu _ hv c
    have a2 := h.2 _ hv _ hu (fun z => c z.sym)
    omega
theorem SI.pay (h : SI m B s) {u v : Nat} {p : Int} (hu : u < 8) (hv : v < 8) (hp : 0 ≤ p) (hle : p ≤ s (8 * u + v)) (hz : ¬ Zr (nN B) m u v) : SI m B (pay s v u p) := by
  have hne : u ≠ v := fun c => hz (Or.inl c)
  have e1 := pay_at (d := s) (x := p) (Ne.symm hne) hv hu
  refine ⟨fun a ha b hb z => ?_, fun a ha b hb z => ?_⟩
  · have n1 : 8 * a + b ≠ 8 * v + u := fun c => by
      obtain ⟨rfl, rfl⟩ : a = v ∧ b = u := by omega
      exact hz z.sym
    have n2 : 8 * a + b ≠ 8 * u + v := fun c => by
      obtain ⟨rfl, rfl⟩ : a = u ∧ b = v := by omega
      exact hz z
    rw [pay_ne n1 n2]
    exact h.1 a ha b hb z
  · have i1 := h.2 a ha b hb z
    by_cases c1 : a = u ∧ b = v
    · obtain ⟨rfl, rfl⟩ := c1
      rw [e1.1, e1.2]
      exact ⟨by omega, Or.inr (by omega)⟩
    · by_cases c2 : a = v ∧ b = u
      · obtain ⟨rfl, rfl⟩ := c2
        rw [e1.1, e1.2]
        exact ⟨by omega, by omega⟩
      · rw [pay_ne (by omega) (by omega), pay_ne (by omega) (by omega)]
        exact i1
theorem leastS_le {P : Nat → Nat} {c : Int} : ∀ k, leastS s P c k ≤ c ∧ ∀ j, j < k → leastS s P c k ≤ s (8 * P j + P (j + 1))
  | 0 => ⟨Int.le_refl _, fun j hj => by omega⟩
  | k + 1 => by
    have ih := leastS_le (P := P) (c := c) k
    rw [leastS]
    refine ⟨by omega, fun j hj => ?_⟩
    by_cases e : j = k
    · subst e; omega
    · have := ih.2 j (by omega); omega
theorem leastS_ge {P : Nat → Nat} {c y : Int} (hc : y ≤ c) : ∀ k, (∀ j, j < k → y ≤ s (8 * P j + P (j + 1))) → y ≤ leastS s P c k
  | 0, _ => hc
  | k + 1, h => by
    have ih := leastS_ge (P := P) hc k (fun j hj => h j (by omega))
    have := h k (by omega)
    rw [leastS]; omega
theorem leastS_cap {P : Nat → Nat} {c c' : Int} : ∀ k, 1 ≤ k → (∀ j, j < k → s (8 * P j + P (j + 1)) ≤ c ∧ s (8 * P j + P (j + 1)) ≤ c') → leastS s P c k = leastS s P c' k ∧ ∃ j, j < k ∧ leastS s P c k = s (8 * P j + P (j + 1))
  | 0, h, _ => by omega
  | 1, _, h => by
    have := h 0 (by omega)
    simp only [leastS]
    exact ⟨by omega, 0, by omega, by omega⟩
  | k + 2, _, h => by
    obtain ⟨e1, j, hj, e2⟩ := leastS_cap (P := P) (c := c) (c' := c') (k + 1) (by omega) (fun j hj => h j (by omega))
    rw [leastS, leastS.eq_2 s P c' (k + 1), ← e1]
    refine ⟨rfl, ?_⟩
    by_cases cc : leastS s P c (k + 1) ≤ s (8 * P (k + 1) + P (k + 1 + 1))
    · exact ⟨j, by omega, by omega⟩
    · exact ⟨k + 1, by omega, by omega⟩
theorem push_cases {P : Nat → Nat} {p : Int} {L : Nat} (hP8 : ∀ i, i < L → P i < 8) (hinj : ∀ i, i < L → ∀ j, j < L → P i = P j → i = j) : ∀ k, k < L → ∀ u, u < 8 → ∀ v, v < 8 → (∃ j, j < k ∧ u = P j ∧ v = P (j + 1) ∧ pushS s P p k (8 * u + v) = s (8 * u + v) - p) ∨ (∃ j, j < k ∧ u = P (j + 1) ∧ v = P j ∧ pushS s P p k (8 * u + v) = s (8 * u + v) + p) ∨ (pushS s P p k (8 * u + v) = s (8 * u + v) ∧ ∀ j, j < k → ¬ (u = P j ∧ v = P (j + 1)) ∧ ¬ (u = P (j + 1) ∧ v = P j)) := by
  intro k
  induction k with
  | zero => intro _ u _ v _; exact Or.inr (Or.inr ⟨rfl, fun j hj => by omega⟩)
  | succ k ih =>
    intro hk u hu v hv
    have i1 := ih (by omega) u hu v hv
    have hne : P (k + 1) ≠ P k := fun e => by have := hinj _ hk _ (by omega) e; omega
    have h1 := hP8 (k + 1) hk
    have h2 := hP8 k (by omega)
    rw [pushS]
    have pa := pay_at (d := pushS s P p k) (x := p) hne h1 h2
    by_cases c1 : u = P k ∧ v = P (k + 1)
    · left
      refine ⟨k, by omega, c1.1, c1.2, ?_⟩
      rw [c1.1, c1.2, pa.2]
      rcases i1 with ⟨j, hj, e1, e2, _⟩ | ⟨j, hj, e1, e2, _⟩ | ⟨e, _⟩
      · have := hinj j (by omega) k (by omega) (by rw [← e1, c1.1]); omega
      · have := hinj j (by omega) (k + 1) hk (by rw [← e2, c1.2]); omega
      · rw [← c1.1, ← c1.2, e]
    · by_cases c2 : u = P (k + 1) ∧ v = P k
      · right; left
        refine ⟨k, by omega, c2.1, c2.2, ?_⟩
        rw [c2.1, c2.2, pa.1]
        rcases i1 with ⟨j, hj, e1, e2, _⟩ | ⟨j, hj, e1, e2, _⟩ | ⟨e, _⟩
        · have := hinj j (by omega) (k + 1) hk (by rw [← e1, c2.1]); omega
        · have := hinj j (by omega) k (by omega) (by rw [← e2, c2.2]); omega
        · rw [← c2.1, ← c2.2, e]
      · rw [pay_ne (by omega) (by omega)]
        rcases i1 with ⟨j, hj, e1, e2, e3⟩ | ⟨j, hj, e1, e2, e3⟩ | ⟨e, e'⟩
        · exact Or.inl ⟨j, by omega, e1, e2, e3⟩
        · exact Or.inr (Or.inl ⟨j, by omega, e1, e2, e3⟩)
        · refine Or.inr (Or.inr ⟨e, fun j hj => ?_⟩)
          by_cases c : j = k
          · rw [c]; exact ⟨c1, c2⟩
          · exact e' j (by omega)
theorem push_at {P : Nat → Nat} {p : Int} {L k : Nat} (hP8 : ∀ i, i < L → P i < 8) (hinj : ∀ i, i < L → ∀ j, j < L → P i = P j → i = j) (hk : k + 1 < L) : pushS s P p k (8 * P k + P (k + 1)) = s (8 * P k + P (k + 1)) := by
  rcases push_cases (s := s) (p := p) hP8 hinj k (by omega) (P k) (hP8 k (by omega)) (P (k + 1)) (hP8 _ hk) with ⟨j, hj, e1, e2, _⟩ | ⟨j, hj, e1, e2, _⟩ | ⟨e, _⟩
  · have := hinj k (by omega) j (by omega) e1; omega
  · have := hinj (k + 1) (by omega) j (by omega) e2; omega
  · exact e
theorem SI.nz (h : SI m B s) {u v : Nat} (hu : u < 8) (hv : v < 8) (h1 : 1 ≤ s (8 * u + v)) : ¬ Zr (nN B) m u v := fun z => by
  rw [h.1 u hu v hv z] at h1; omega
theorem SI.push {P : Nat → Nat} {p : Int} {L : Nat} (h : SI m B s) (hP8 : ∀ i, i < L → P i < 8) (hinj : ∀ i, i < L → ∀ j, j < L → P i = P j → i = j) (hp : 0 ≤ p) (he : ∀ i, i + 1 < L → 1 ≤ s (8 * P i + P (i + 1)) ∧ p ≤ s (8 * P i + P (i + 1))) : ∀ k, k < L → SI m B (pushS s P p k) := by
  intro k
  induction k with
  | zero => intro _; exact h
  | succ k ih =>
    intro hk
    have e := he k hk
    rw [pushS]
    refine (ih (by omega)).pay (hP8 k (by omega)) (hP8 (k + 1) hk) hp ?_ (h.nz (hP8 k (by omega)) (hP8 (k + 1) hk) e.1)
    rw [push_at hP8 hinj hk]; exact e.2
/-! how many parts -/
def TT (δ s : Nat → Int) (i : Nat) : Int := if i / 8 < i % 8 ∧ ((δ (i / 8) = δ (i % 8) + 1 ∧ 1 ≤ s i) ∨ (δ (i % 8) = δ (i / 8) + 1 ∧ 1 ≤ s (8 * (i % 8) + i / 8))) then 1 else 0
def AA (δ s : Nat → Int) : Int := sumTo (TT δ s) 64
theorem AA28 (δ s : Nat → Int) : 0 ≤ AA δ s ∧ AA δ s ≤ 28 := by
  unfold AA
  have h1 := sumTo_mono (f := TT δ s) (g := fun i => if i / 8 < i % 8 then 1 else 0) (n := 64) (fun i _ => by
    unfold TT
    (try dsimp only)
    by_cases c : i / 8 < i % 8
    · rw [if_pos c]; split <;> omega
    · rw [if_neg c, if_neg (fun z => c z.1)]; omega)
  have h2 : sumTo (fun i => if i / 8 < i % 8 then 1 else 0) 64 = 28 := by decide +kernel
  exact ⟨sumTo_nn (fun i _ => by unfold TT; split <;> omega), by omega⟩
def Val (N : Nat) (δ s : Nat → Int) : Prop := ∀ u, u < N → ∀ v, v < N → 1 ≤ s (8 * u + v) → δ u ≤ δ v + 1
theorem lev {N L : Nat} {δ : Nat → Int} {P : Nat → Nat} (hL : 1 ≤ L) (hV : Val N δ s) (hPn : ∀ i, i < L → P i < N) (he : ∀ i, i + 1 < L → 1 ≤ s (8 * P i + P (i + 1))) (h0 : δ (P 0) = (L : Int) - 1) (h1 : δ (P (L - 1)) = 0) : ∀ i, i < L → δ (P i) = (L : Int) - 1 - i := by
  have lo : ∀ i, i < L → (L : Int) - 1 - i ≤ δ (P i) := by
    intro i
    induction i with
    | zero => intro _; rw [h0]; omega
    | succ i ih =>
      intro hi
      have := ih (by omega)
      have := hV _ (hPn i (by omega)) _ (hPn (i + 1) hi) (he i hi)
      omega
  have hi : ∀ j i, i + j + 1 = L → δ (P i) ≤ (j : Int) := by
    intro j
    induction j with
    | zero => intro i e; rw [show i = L - 1 by omega, h1]; omega
    | succ j ih =>
      intro i e
      have := ih (i + 1) (by omega)
      have := hV _ (hPn i (by omega)) _ (hPn (i + 1) (by omega)) (he i (by omega))
      omega
  intro i h
  have := lo i h
  have := hi (L - 1 - i) i (by omega)
  omega
theorem TT_push {L : Nat} {δ : Nat → Int} {P : Nat → Nat} {p : Int} (hL : 2 ≤ L) (hP8 : ∀ i, i < L → P i < 8) (hinj : ∀ i, i < L → ∀ j, j < L → P i = P j → i = j) (he : ∀ i, i + 1 < L → 1 ≤ s (8 * P i + P (i + 1))) (hlev : ∀ i, i < L → δ (P i) = (L : Int) - 1 - i) {j0 : Nat} (hj0 : j0 + 1 < L) (hp0 : p = s (8 * P j0 + P (j0 + 1))) : AA δ (pushS s P p (L - 1)) + 1 ≤ AA δ s := by
  have d1 : ∀ j, j + 1 < L → δ (P j) = δ (P (j + 1)) + 1 := fun j hj => by rw [hlev j (by omega), hlev (j + 1) hj]; omega
  have one : ∀ (r : Nat → Int) i, TT δ r i ≤ 1 := fun r i => by unfold TT; split <;> omega
  have mono : ∀ i, i < 64 → TT δ (pushS s P p (L - 1)) i ≤ TT δ s i := fun i hi => by
    have hu : i / 8 < 8 := by omega
    have hv : i % 8 < 8 := by omega
    by_cases c : i / 8 < i % 8
    · rcases push_cases (s := s) (p := p) hP8 hinj (L - 1) (by omega) (i / 8) hu (i % 8) hv with ⟨j, hj, e1, e2, _⟩ | ⟨j, hj, e1, e2, _⟩ | ⟨e, e'⟩
      · have : TT δ s i = 1 := by
          unfold TT
          rw [if_pos ⟨c, Or.inl ⟨by rw [e1, e2]; exact d1 j (by omega), by rw [i88 i, e1, e2]; exact he j (by omega)⟩⟩]
        rw [this]; exact one _ i
      · have : TT δ s i = 1 := by
          unfold TT
          rw [if_pos ⟨c, Or.inr ⟨by rw [e1, e2]; exact d1 j (by omega), by rw [e1, e2]; exact he j (by omega)⟩⟩]
        rw [this]; exact one _ i
      · have e2 : pushS s P p (L - 1) (8 * (i % 8) + i / 8) = s (8 * (i % 8) + i / 8) := by
          rcases push_cases (s := s) (p := p) hP8 hinj (L - 1) (by omega) (i % 8) hv (i / 8) hu with ⟨j, hj, e1, e2, _⟩ | ⟨j, hj, e1, e2, _⟩ | ⟨e, _⟩
          · exact absurd ⟨e2, e1⟩ (e' j hj).2
          · exact absurd ⟨e2, e1⟩ (e' j hj).1
          · exact e
        unfold TT
        rw [← i88 i] at e
        rw [e, e2]
        exact Int.le_refl _
    · unfold TT
      rw [if_neg (fun z => c z.1), if_neg (fun z => c z.1)]
      exact Int.le_refl _
  have h1 := hP8 j0 (by omega)
  have h2 := hP8 (j0 + 1) hj0
  have hne : P j0 ≠ P (j0 + 1) := fun e => by have := hinj _ (by omega) _ hj0 e; omega
  have dj := d1 j0 hj0
  have ej := he j0 hj0
  have z : pushS s P p (L - 1) (8 * P j0 + P (j0 + 1)) = 0 := by
    rcases push_cases (s := s) (p := p) hP8 hinj (L - 1) (by omega) (P j0) h1 (P (j0 + 1)) h2 with ⟨j, hj, e1, e2, e3⟩ | ⟨j, hj, e1, e2, _⟩ | ⟨e, e'⟩
    · rw [e3, hp0]; omega
    · have a1 := hinj j0 (by omega) (j + 1) (by omega) e1
      have a2 := hinj (j0 + 1) (by omega) j (by omega) e2
      omega
    · exact absurd ⟨rfl, rfl⟩ (e' j0 (by omega)).1
  unfold AA
  by_cases c : P j0 < P (j0 + 1)
  · refine sumTo_lt (k := 8 * P j0 + P (j0 + 1)) (lt64 h1 h2) mono ?_
    have e1 : TT δ (pushS s P p (L - 1)) (8 * P j0 + P (j0 + 1)) = 0 := by
      unfold TT
      rw [(dm8 h2).1, (dm8 h2).2, z, if_neg (fun q => by omega)]
    have e2 : TT δ s (8 * P j0 + P (j0 + 1)) = 1 := by
      unfold TT
      rw [(dm8 h2).1, (dm8 h2).2, if_pos ⟨c, Or.inl ⟨dj, ej⟩⟩]
    omega
  · refine sumTo_lt (k := 8 * P (j0 + 1) + P j0) (lt64 h2 h1) mono ?_
    have e1 : TT δ (pushS s P p (L - 1)) (8 * P (j0 + 1) + P j0) = 0 := by
      unfold TT
      rw [(dm8 h1).1, (dm8 h1).2, z, if_neg (fun q => by omega)]
    have e2 : TT δ s (8 * P (j0 + 1) + P j0) = 1 := by
      unfold TT
      rw [(dm8 h1).1, (dm8 h1).2, if_pos ⟨by omega, Or.inr ⟨dj, ej⟩⟩]
    omega
theorem Val.push {N L : Nat} {δ : Nat → Int} {P : Nat → Nat} {p : Int} (hN : N ≤ 8) (hL : 2 ≤ L) (hV : Val N δ s) (hp : 0 ≤ p) (hP8 : ∀ i, i < L → P i < 8) (hinj : ∀ i, i < L → ∀ j, j < L → P i = P j → i = j) (hlev : ∀ i, i < L → δ (P i) = (L : Int) - 1 - i) : Val N δ (pushS s P p (L - 1)) := by
  intro u hu v hv h1
  rcases push_cases (s := s) (p := p) hP8 hinj (L - 1) (by omega) u (by omega) v (by omega) with ⟨j, hj, e1, e2, e3⟩ | ⟨j, hj, e1, e2, e3⟩ | ⟨e, e'⟩
  · exact hV u hu v hv (by omega)
  · rw [e1, e2, hlev j (by omega), hlev (j + 1) (by omega)]; omega
  · exact hV u hu v hv (by omega)
theorem least_ex {p : Nat → Prop} : ∀ n v, v ≤ n → p v → ∃ w, w ≤ v ∧ p w ∧ ∀ y, y < w → ¬ p y := by
  classical
  intro n
  induction n with
  | zero => intro v hv h; exact ⟨v, Nat.le_refl _, h, fun y hy => by omega⟩
  | succ n ih =>
    intro v hv h
    by_cases c : ∃ y, y < v ∧ p y
    · obtain ⟨y, hy, hp⟩ := c
      obtain ⟨w, h1, h2, h3⟩ := ih y (by omega) hp
      exact ⟨w, by omega, h2, h3⟩
    · exact ⟨v, Nat.le_refl _, h, fun y hy hp => c ⟨y, hy, hp⟩⟩
theorem ex_W {N f t : Nat} {x : Int} {d : Nat → Int} (hD : IsD N s x t d) (hf : f < N) (h0 : 0 ≤ d f) : ∃ L P, IsW N s x f t L P := by
  obtain ⟨L, eL⟩ : ∃ L : Nat, (L : Int) = d f + 1 := ⟨(d f + 1).toNat, by omega⟩
  have key : ∀ k, k < L → ∃ P : Nat → Nat, P 0 = f ∧ (∀ i, i ≤ k → P i < N ∧ d (P i) = (L : Int) - 1 - i) ∧ ∀ i, i < k → x ≤ s (8 * P i + P (i + 1)) ∧ ∀ w, w < P (i + 1) → ¬ (d w = (L : Int) - 2 - i ∧ x ≤ s (8 * P i + w)) := by
    intro k
    induction k with
    | zero => intro _; exact ⟨fun _ => f, rfl, fun i hi => ⟨hf, by (try dsimp only); omega⟩, fun i hi => by omega⟩
    | succ k ih =>
      intro hk
      obtain ⟨P, p0, p1, p2⟩ := ih (by omega)
      have pk := p1 k (by omega)
      have hkt : P k ≠ t := fun c => by rw [c, hD.1] at pk; omega
      obtain ⟨_, v, hv, dv, xv⟩ := hD.2.2.1 _ pk.1 hkt (by omega)
      obtain ⟨w, w1, w2, w3⟩ := least_ex (p := fun v => d v = (L : Int) - 2 - k ∧ x ≤ s (8 * P k + v)) v v (Nat.le_refl _) ⟨by omega, xv⟩
      refine ⟨fun i => if i = k + 1 then w else P i, by (try dsimp only); rw [if_neg (by omega)]; exact p0, fun i hi => ?_, fun i hi => ?_⟩
      · (try dsimp only)
        by_cases c : i = k + 1
        · rw [if_pos c]; exact ⟨by omega, by rw [w2.1, c]; omega⟩
        · rw [if_neg c]; exact p1 i (by omega)
      · (try dsimp only)
        rw [if_neg (show ¬ i = k + 1 by omega)]
        by_cases c : i = k
        · subst c
          rw [if_pos rfl]
          exact ⟨w2.2, fun y hy => w3 y hy⟩
        · rw [if_neg (show ¬ i + 1 = k + 1 by omega)]; exact p2 i (by omega)
  obtain ⟨P, p0, p1, p2⟩ := key (L - 1) (by omega)
  exact ⟨L, P, d, hD, h0, eL, p0, fun i hi => p1 i (by omega), fun i hi => p2 i (by omega)⟩
theorem ek (hI : IvA B) {f t : Nat} (hf : f < nN B) (ht : t < nN B) (hne : f ≠ t) : ∀ (n : Nat) (s : Nat → Int) (l : Int) (δ : Nat → Int), SI m B s → Val (nN B) δ s → δ t = 0 → 0 ≤ δ f → δ f ≤ 7 → 28 * (7 - δ f) + AA δ s ≤ (n : Int) → 0 ≤ l → ∃ r s' l', Snd (nN B) f t r s l s' l' ∧ r.length ≤ n + 1 := by
  have hN := hI.1
  intro n
  induction n with
  | zero =>
    intro s l δ hS hV h0 h1 h7 hn hl
    by_cases cl : l ≤ 0
    · exact ⟨[], s, l, ⟨⟨rfl, rfl⟩, Or.inl cl⟩, by simp⟩
    obtain ⟨d, hD⟩ := ex_D (nN B) s 1 ht
    by_cases cd : d f < 0
    · exact ⟨[], s, l, ⟨⟨rfl, rfl⟩, Or.inr ⟨d, hD, cd⟩⟩, by simp⟩
    exfalso
    obtain ⟨L, P, hW⟩ := ex_W hD hf (by omega)
    obtain ⟨hL2, hLN, P0, PL, hPn, hinj, he⟩ := hW.sh hf ht hne
    have hA := AA28 δ s
    have hδ : δ f = 7 := by omega
    have hlen : ∀ j i, i + j + 1 = L → δ (P i) ≤ (j : Int) := by
      intro j
      induction j with
      | zero => intro i e; rw [show i = L - 1 by omega, PL, h0]; omega
      | succ j ih =>
        intro i e
        have := ih (i + 1) (by omega)
        have := hV _ (hPn i (by omega)) _ (hPn (i + 1) (by omega)) (he i (by omega))
        omega
    have hf7 := hlen (L - 1) 0 (by omega)
    rw [P0, hδ] at hf7
    have hlev := lev (by omega) hV hPn he (by rw [P0, hδ]; omega) (by rw [PL]; exact h0)
    have := TT_push (p := s (8 * P 0 + P (0 + 1))) hL2 (fun i hi => by have := hPn i hi; omega) hinj he hlev (j0 := 0) (by omega) rfl
    have := (AA28 δ (pushS s P (s (8 * P 0 + P (0 + 1))) (L - 1))).1
    omega
  | succ n ih =>
    intro s l δ hS hV h0 h1 h7 hn hl
    by_cases cl : l ≤ 0
    · exact ⟨[], s, l, ⟨⟨rfl, rfl⟩, Or.inl cl⟩, by simp⟩
    obtain ⟨d, hD⟩ := ex_D (nN B) s 1 ht
    by_cases cd : d f < 0
    · exact ⟨[], s, l, ⟨⟨rfl, rfl⟩, Or.inr ⟨d, hD, cd⟩⟩, by simp⟩
    obtain ⟨L, P, hW⟩ := ex_W hD hf (by omega)
    obtain ⟨hL2, hLN, P0, PL, hPn, hinj, he⟩ := hW.sh hf ht hne
    have hP8 : ∀ i, i < L → P i < 8 := fun i hi => by have := hPn i hi; omega
    have eL : (L : Int) = d f + 1 := by
      obtain ⟨d', hD', _, hL', _⟩ := hW
      rw [hL', hD'.eq hD f hf]
    -- a row of levels in which this way lies
    have hlev0 : ∃ δ' : Nat → Int, Val (nN B) δ' s ∧ δ' t = 0 ∧ δ' f = (L : Int) - 1 ∧ 28 * (7 - δ' f) + AA δ' s ≤ ((n + 1 : Nat) : Int) := by
      by_cases c : δ f = (L : Int) - 1
      · exact ⟨δ, hV, h0, c, hn⟩
      · have hge : ∀ j i, i + j + 1 = L → δ (P i) ≤ (j : Int) := by
          intro j
          induction j with
          | zero => intro i e; rw [show i = L - 1 by omega, PL, h0]; omega
          | succ j ih =>
            intro i e
            have := ih (i + 1) (by omega)
            have := hV _ (hPn i (by omega)) _ (hPn (i + 1) (by omega)) (he i (by omega))
            omega
        have hf7 := hge (L - 1) 0 (by omega)
        rw [P0] at hf7
        refine ⟨fun u => if d u < 0 then 8 else d u, fun u hu v hv h1 => ?_, by (try dsimp only); rw [hD.1]; rfl, by (try dsimp only); rw [if_neg cd]; omega, ?_⟩
        · (try dsimp only)
          have b1 := hD.lt ht hu
          have b2 := hD.2.1 v hv
          by_cases cv : d v < 0
          · rw [if_pos cv]; split <;> omega
          · have := hD.2.2.2 u hu v hv (by omega) h1
            rw [if_neg (by omega), if_neg cv]; omega
        · have a1 := AA28 (fun u => if d u < 0 then 8 else d u) s
          have a2 := AA28 δ s
          (try dsimp only at a1 ⊢)
          rw [if_neg cd]
          omega
    obtain ⟨δ', hV', h0', hf', hn'⟩ := hlev0
    have hlev := lev (by omega) hV' hPn he (by rw [P0]; exact hf') (by rw [PL]; exact h0')
    have hb : ∀ j, j < L - 1 → s (8 * P j + P (j + 1)) ≤ 9999 := fun j hj => by
      have := (hS.b hI (lt64 (hP8 j (by omega)) (hP8 (j + 1) (by omega)))).2
      omega
    obtain ⟨-, j0, hj0, ej0⟩ := leastS_cap (s := s) (P := P) (c := 9999) (c' := 9999) (L - 1) (by omega) (fun j hj => ⟨hb j hj, hb j hj⟩)
    have hle := leastS_le (s := s) (P := P) (c := 9999) (L - 1)
    have hge := leastS_ge (s := s) (P := P) (c := 9999) (y := 1) (by omega) (L - 1) (fun j hj => he j (by omega))
    by_cases cp : leastS s P 9999 (L - 1) ≤ l
    · have hSI := hS.push (p := leastS s P 9999 (L - 1)) hP8 hinj (by omega) (fun i hi => ⟨he i hi, hle.2 i (by omega)⟩) (L - 1) (by omega)
      have hA := TT_push (p := leastS s P 9999 (L - 1)) hL2 hP8 hinj he hlev (j0 := j0) (by omega) ej0
      have hVp := hV'.push (p := leastS s P 9999 (L - 1)) (by omega) hL2 (by omega) hP8 hinj hlev
      obtain ⟨r, s', l', hr, hlen⟩ := ih (pushS s P (leastS s P 9999 (L - 1)) (L - 1)) (l - leastS s P 9999 (L - 1)) δ' hSI hVp h0' (by omega) (by omega) (by omega) (by omega)
      refine ⟨(L, leastS s P 9999 (L - 1)) :: r, s', l', ⟨⟨by omega, P, hW, by omega, hr.1⟩, hr.2⟩, by simp; omega⟩
    · refine ⟨[(L, l)], pushS s P l (L - 1), 0, ⟨⟨by omega, P, hW, by omega, rfl, by omega⟩, Or.inl (by omega)⟩, by simp⟩
theorem snd_ex (hI : IvA B) {f t : Nat} (hf : f < nN B) (ht : t < nN B) (hne : f ≠ t) (hS : SI m B s) {l : Int} (hl : 0 ≤ l) : ∃ r s' l', Snd (nN B) f t r s l s' l' ∧ r.length ≤ 197 := by
  refine ek hI hf ht hne 196 s l (fun _ => 0) hS (fun u _ v _ _ => by (try dsimp only); omega) rfl (Int.le_refl _) (by omega) ?_ hl
  have : AA (fun _ => 0) s = 0 := sumTo_z (fun i _ => by
    unfold TT
    rw [if_neg (fun z => by rcases z.2 with q | q <;> exact absurd q.1 (show ¬ ((0 : Int) = 0 + 1) by decide))])
  rw [this]; omega
theorem Prun.si (hI : IvA B) {f t : Nat} (hf : f < nN B) (ht : t < nN B) (hne : f ≠ t) : ∀ {r : List (Nat × Int)} {s : Nat → Int} {l : Int} {s' : Nat → Int} {l' : Int}, Prun (nN B) f t r s l s' l' → SI m B s → 0 ≤ l → SI m B s' ∧ 0 ≤ l' ∧ l' ≤ l ∧ l - l' ≤ 3996 * (r.length : Int) ∧ ∀ z ∈ r, 2 ≤ z.1 ∧ z.1 ≤ 8 ∧ 1 ≤ z.2 ∧ z.2 ≤ 3996
  | [], s, l, s', l', h, hS, hl => by
    obtain ⟨rfl, rfl⟩ := h
    exact ⟨hS, hl, by omega, by simp, fun z hz => by simp at hz⟩
  | (L, p) :: r, s, l, s', l', h, hS, hl => by
    have hN := hI.1
    obtain ⟨h1, P, hW, hp, hr⟩ := h
    obtain ⟨hL2, hLN, P0, PL, hPn, hinj, he⟩ := hW.sh hf ht hne
    have hP8 : ∀ i, i < L → P i < 8 := fun i hi => by have := hPn i hi; omega
    have hle := leastS_le (s := s) (P := P) (c := 9999) (L - 1)
    have hge := leastS_ge (s := s) (P := P) (c := 9999) (y := 1) (by omega) (L - 1) (fun j hj => he j (by omega))
    have hb := (hS.b hI (lt64 (hP8 0 (by omega)) (hP8 (0 + 1) (by omega)))).2
    have h0 := hle.2 0 (by omega)
    have hSI := hS.push (p := p) hP8 hinj (by omega) (fun i hi => ⟨he i hi, by have := hle.2 i (by omega); omega⟩) (L - 1) (by omega)
    obtain ⟨q1, q2, q3, q4, q5⟩ := Prun.si hI hf ht hne hr hSI (by omega)
    refine ⟨q1, q2, by omega, ?_, fun z hz => ?_⟩
    · simp only [List.length_cons]; omega
    · rcases List.mem_cons.mp hz with e | e
      · rw [e]; exact ⟨hL2, by omega, by omega, by omega⟩
      · exact q5 z e
theorem Snd.lift (hI : IvA B) {f t : Nat} (hf : f < nN B) (ht : t < nN B) (hne : f ≠ t) : ∀ {r : List (Nat × Int)} {s : Nat → Int} {l : Int} {s' : Nat → Int} {l' l2 : Int}, Prun (nN B) f t r s l s' l' → SI m B s → 0 < l' → 0 < l2 - l + l' → Prun (nN B) f t r s l2 s' (l2 - l + l')
  | [], s, l, s', l', l2, h, hS, h1, h2 => by
    obtain ⟨rfl, rfl⟩ := h
    exact ⟨rfl, by omega⟩
  | (L, p) :: r, s, l, s', l', l2, h, hS, hl', h2 => by
    have hN := hI.1
    obtain ⟨h1, P, hW, hp, hr⟩ := h
    obtain ⟨hL2, hLN, P0, PL, hPn, hinj, he⟩ := hW.sh hf ht hne
    have hP8 : ∀ i, i < L → P i < 8 := fun i hi => by have := hPn i hi; omega
    have hle := leastS_le (s := s) (P := P) (c := 9999) (L - 1)
    have hge := leastS_ge (s := s) (P := P) (c := 9999) (y := 1) (by omega) (L - 1) (fun j hj => he j (by omega))
    have hSI := hS.push (p := p) hP8 hinj (by omega) (fun i hi => ⟨he i hi, by have := hle.2 i (by omega); omega⟩) (L - 1) (by omega)
    have q := Prun.si hI hf ht hne hr hSI (by omega)
    have g := Snd.lift hI hf ht hne (l2 := l2 - p) hr hSI hl' (by omega)
    refine ⟨by omega, P, hW, by omega, ?_⟩
    rw [show l2 - l + l' = l2 - p - (l - p) + l' by omega]
    exact g
theorem snd_ge (hI : IvA B) {f t : Nat} (hf : f < nN B) (ht : t < nN B) (hne : f ≠ t) : ∀ {r r2 : List (Nat × Int)} {s : Nat → Int} {x : Int} {s1 : Nat → Int} {x1 l : Int} {s2 : Nat → Int} {l2 : Int}, Prun (nN B) f t r s x s1 x1 → Snd (nN B) f t r2 s l s2 l2 → SI m B s → 0 ≤ x → x ≤ l → x - x1 ≤ l - l2
  | [], r2, s, x, s1, x1, l, s2, l2, h, h2, hS, hx, hl => by
    obtain ⟨rfl, rfl⟩ := h
    have := Prun.si hI hf ht hne h2.1 hS (by omega)
    omega
  | (L, p) :: r, [], s, x, s1, x1, l, s2, l2, h, h2, hS, hx, hl => by
    obtain ⟨h1, P, hW, hp, hr⟩ := h
    obtain ⟨⟨rfl, rfl⟩, e⟩ := h2
    rcases e with e | e
    · omega
    · exact (hW.no hf e).elim
  | (L, p) :: r, (L', p') :: r2, s, x, s1, x1, l, s2, l2, h, h2, hS, hx, hl => by
    have hN := hI.1
    obtain ⟨h1, P, hW, hp, hr⟩ := h
    obtain ⟨⟨h1', P', hW', hp', hr'⟩, e⟩ := h2
    obtain ⟨eL, eP⟩ := hW.eq hf hW'
    subst eL
    obtain ⟨hL2, hLN, P0, PL, hPn, hinj, he⟩ := hW.sh hf ht hne
    have hP8 : ∀ i, i < L → P i < 8 := fun i hi => by have := hPn i hi; omega
    have hle := leastS_le (s := s) (P := P) (c := 9999) (L - 1)
    have hge := leastS_ge (s := s) (P := P) (c := 9999) (y := 1) (by omega) (L - 1) (fun j hj => he j (by omega))
    have e1 : leastS s P 9999 (L - 1) = leastS s P' 9999 (L - 1) := leastS_congr _ (fun i hi => eP i (by omega))
    have hSI' := hS.push (p := p') hP8 hinj (by omega) (fun i hi => ⟨he i hi, by have := hle.2 i (by omega); omega⟩) (L - 1) (by omega)
    rw [pushS_congr (L - 1) (fun i hi => eP i (by omega))] at hSI'
    have q' := Prun.si hI hf ht hne hr' hSI' (by omega)
    by_cases c : leastS s P 9999 (L - 1) ≤ x
    · have ep : p = p' := by omega
      subst ep
      rw [pushS_congr (L - 1) (fun i hi => eP i (by omega))] at hr
      have := snd_ge hI hf ht hne hr ⟨hr', e⟩ hSI' (by omega) (by omega)
      omega
    · have hSI := hS.push (p := p) hP8 hinj (by omega) (fun i hi => ⟨he i hi, by have := hle.2 i (by omega); omega⟩) (L - 1) (by omega)
      have q := Prun.si hI hf ht hne hr hSI (by omega)
      omega
end RUNS
