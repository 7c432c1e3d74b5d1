/-! ways: how far it is, the first way -/
theorem sumTo_mono {f g : Nat → Int} {n : Nat} (h : ∀ i, i < n → f i ≤ g i) : sumTo f n ≤ sumTo g n := by
  induction n with
  | zero => exact Int.le_refl _
  | succ n ih =>
    have h1 := ih (fun i hi => h i (by omega))
    have h2 := h n (by omega)
    rw [sumTo_s, sumTo_s]
    omega
theorem sumTo_lt {f g : Nat → Int} {n k : Nat} (hk : k < n) (h : ∀ i, i < n → f i ≤ g i) (hs : f k + 1 ≤ g k) : sumTo f n + 1 ≤ sumTo g n := by
  induction n with
  | zero => omega
  | succ n ih =>
    rw [sumTo_s, sumTo_s]
    by_cases c : k = n
    · subst c
      have := sumTo_mono (f := f) (g := g) (n := k) (fun i hi => h i (by omega))
      omega
    · have h1 := ih (by omega) (fun i hi => h i (by omega))
      have h2 := h n (by omega)
      omega
/-- d is how far it is to t by steps that bear x -/
def IsD (N : Nat) (s : Nat → Int) (x : Int) (t : Nat) (d : Nat → Int) : Prop := d t = 0 ∧ (∀ u, u < N → -1 ≤ d u) ∧ (∀ u, u < N → u ≠ t → 0 ≤ d u → 1 ≤ d u ∧ ∃ v, v < N ∧ d v = d u - 1 ∧ x ≤ s (8 * u + v)) ∧ ∀ u, u < N → ∀ v, v < N → 0 ≤ d v → x ≤ s (8 * u + v) → 0 ≤ d u ∧ d u ≤ d v + 1
theorem IsD.le {N : Nat} {s : Nat → Int} {x : Int} {t : Nat} {d d' : Nat → Int} (h : IsD N s x t d) (h' : IsD N s x t d') : ∀ (k : Nat) (u : Nat), u < N → d u = (k : Int) → 0 ≤ d' u ∧ d' u ≤ (k : Int) := by
  intro k
  induction k with
  | zero =>
    intro u hu e
    by_cases c : u = t
    · rw [c, h'.1]; omega
    · have := (h.2.2.1 u hu c (by omega)).1
      omega
  | succ k ih =>
    intro u hu e
    by_cases c : u = t
    · rw [c, h.1] at e; omega
    · obtain ⟨_, v, hv, e2, e3⟩ := h.2.2.1 u hu c (by omega)
      have := ih v hv (by omega)
      have := h'.2.2.2 u hu v hv this.1 e3
      omega
theorem IsD.eq {N : Nat} {s : Nat → Int} {x : Int} {t : Nat} {d d' : Nat → Int} (h : IsD N s x t d) (h' : IsD N s x t d') : ∀ u, u < N → d u = d' u := by
  intro u hu
  have b1 := h.2.1 u hu
  have b2 := h'.2.1 u hu
  by_cases c1 : 0 ≤ d u
  · have a1 := h.le h' (d u).toNat u hu (by omega)
    have a2 := h'.le h (d' u).toNat u hu (by omega)
    omega
  · by_cases c2 : 0 ≤ d' u
    · have a2 := h'.le h (d' u).toNat u hu (by omega)
      omega
    · omega
theorem IsD.z {N : Nat} {s : Nat → Int} {x : Int} {t : Nat} {d : Nat → Int} (h : IsD N s x t d) {u : Nat} (hu : u < N) (e : d u = 0) : u = t := by
  by_cases c : u = t
  · exact c
  · have := (h.2.2.1 u hu c (by omega)).1
    omega
theorem IsD.lv {N : Nat} {s : Nat → Int} {x : Int} {t : Nat} {d : Nat → Int} (h : IsD N s x t d) (ht : t < N) : ∀ (k : Nat) (u : Nat), u < N → d u = (k : Int) → ∀ j : Nat, j ≤ k → ∃ w, w < N ∧ d w = (j : Int) := by
  intro k
  induction k with
  | zero => intro u hu e j hj; exact ⟨u, hu, by omega⟩
  | succ k ih =>
    intro u hu e j hj
    by_cases c : j = k + 1
    · exact ⟨u, hu, by omega⟩
    · have hne : u ≠ t := fun c => by rw [c, h.1] at e; omega
      obtain ⟨_, v, hv, e2, _⟩ := h.2.2.1 u hu hne (by omega)
      exact ih v hv (by omega) j (by omega)
theorem IsD.lt {N : Nat} {s : Nat → Int} {x : Int} {t : Nat} {d : Nat → Int} (h : IsD N s x t d) (ht : t < N) {u : Nat} (hu : u < N) : d u < (N : Int) := by
  by_cases c : 0 ≤ d u
  · have lv := h.lv ht (d u).toNat u hu (by omega)
    have key : ∀ k : Nat, k ≤ (d u).toNat + 1 → (k : Int) ≤ sumTo (fun w => if 0 ≤ d w ∧ d w < (k : Int) then 1 else 0) N := by
      intro k
      induction k with
      | zero => intro _; exact sumTo_nn (fun i _ => by split <;> omega)
      | succ k ih =>
        intro hk
        have h1 := ih (by omega)
        obtain ⟨w, hw, ew⟩ := lv k (by omega)
        have := sumTo_lt (f := fun w => if 0 ≤ d w ∧ d w < (k : Int) then 1 else 0) (g := fun w => if 0 ≤ d w ∧ d w < ((k + 1 : Nat) : Int) then 1 else 0) (n := N) hw (fun i _ => by
          by_cases c1 : 0 ≤ d i ∧ d i < (k : Int)
          · rw [if_pos c1, if_pos (by omega)]; omega
          · rw [if_neg c1]; split <;> omega) (by
          rw [if_neg (by omega), if_pos (by omega)]; omega)
        omega
    have h1 := key ((d u).toNat + 1) (by omega)
    have h2 := sumTo_le (f := fun w => if 0 ≤ d w ∧ d w < (((d u).toNat + 1 : Nat) : Int) then 1 else 0) (n := N) (a := 0) (b := 1) (fun i _ => by split <;> omega)
    omega
  · omega
/-- the first way from f to t that bears x: L members P -/
def IsW (N : Nat) (s : Nat → Int) (x : Int) (f t L : Nat) (P : Nat → Nat) : Prop := ∃ d, IsD N s x t d ∧ 0 ≤ d f ∧ (L : Int) = d f + 1 ∧ P 0 = f ∧ (∀ i, i < L → P i < N ∧ d (P i) = (L : Int) - 1 - i) ∧ ∀ i, i + 1 < L → x ≤ s (8 * P i + P (i + 1)) ∧ ∀ w, w < P (i + 1) → ¬ (d w = (L : Int) - 2 - i ∧ x ≤ s (8 * P i + w))
def NoW (N : Nat) (s : Nat → Int) (x : Int) (f t : Nat) : Prop := ∃ d, IsD N s x t d ∧ d f < 0
theorem IsW.no {N : Nat} {s : Nat → Int} {x : Int} {f t L : Nat} {P : Nat → Nat} (hf : f < N) (h : IsW N s x f t L P) (h' : NoW N s x f t) : False := by
  obtain ⟨d, hd, h0, _⟩ := h
  obtain ⟨d', hd', h0'⟩ := h'
  have := hd.eq hd' f hf
  omega
theorem IsW.eq {N : Nat} {s : Nat → Int} {x : Int} {f t L L' : Nat} {P P' : Nat → Nat} (hf : f < N) (h : IsW N s x f t L P) (h' : IsW N s x f t L' P') : L = L' ∧ ∀ i, i < L → P i = P' i := by
  obtain ⟨d, hd, h0, hL, hP0, hP, hS⟩ := h
  obtain ⟨d', hd', h0', hL', hP0', hP', hS'⟩ := h'
  have e := hd.eq hd'
  have eL : L = L' := by have := e f hf; omega
  refine ⟨eL, fun i => ?_⟩
  induction i with
  | zero => intro _; rw [hP0, hP0']
  | succ i ih =>
    intro hi
    have ei := ih (by omega)
    have a1 := hS i hi
    have a2 := hS' i (by omega)
    have b1 := (hP (i + 1) hi)
    have b2 := (hP' (i + 1) (by omega))
    rcases Nat.lt_trichotomy (P (i + 1)) (P' (i + 1)) with c | c | c
    · exfalso
      refine a2.2 _ c ⟨?_, ?_⟩
      · rw [← e _ b1.1, b1.2]; omega
      · rw [← ei]; exact a1.1
    · exact c
    · exfalso
      refine a1.2 _ c ⟨?_, ?_⟩
      · rw [e _ b2.1, b2.2]; omega
      · rw [ei]; exact a2.1
theorem IsW.sh {N : Nat} {s : Nat → Int} {x : Int} {f t L : Nat} {P : Nat → Nat} (hf : f < N) (ht : t < N) (hne : f ≠ t) (h : IsW N s x f t L P) : 2 ≤ L ∧ L ≤ N ∧ P 0 = f ∧ P (L - 1) = t ∧ (∀ i, i < L → P i < N) ∧ (∀ i, i < L → ∀ j, j < L → P i = P j → i = j) ∧ ∀ i, i + 1 < L → x ≤ s (8 * P i + P (i + 1)) := by
  obtain ⟨d, hd, h0, hL, hP0, hP, hS⟩ := h
  have l1 := hd.lt ht hf
  have l2 : d f ≠ 0 := fun e => hne (hd.z hf e)
  refine ⟨by omega, by omega, hP0, hd.z (hP (L - 1) (by omega)).1 ?_, fun i hi => (hP i hi).1, fun i hi j hj e => ?_, fun i hi => (hS i hi).1⟩
  · rw [(hP (L - 1) (by omega)).2]; omega
  · have a1 := (hP i hi).2
    have a2 := (hP j hj).2
    rw [e] at a1
    omega
/-- along the way x goes: s is the room -/
def pushS (s : Nat → Int) (P : Nat → Nat) (x : Int) : Nat → (Nat → Int)
  | 0 => s
  | k + 1 => pay (pushS s P x k) (P (k + 1)) (P k) x
def leastS (s : Nat → Int) (P : Nat → Nat) (c : Int) : Nat → Int
  | 0 => c
  | k + 1 => min (leastS s P c k) (s (8 * P k + P (k + 1)))
theorem pushS_congr {s : Nat → Int} {P P' : Nat → Nat} {x : Int} : ∀ k, (∀ i, i ≤ k → P i = P' i) → pushS s P x k = pushS s P' x k
  | 0, _ => rfl
  | k + 1, h => by rw [pushS, pushS, pushS_congr k (fun i hi => h i (by omega)), h (k + 1) (by omega), h k (by omega)]
theorem leastS_congr {s : Nat → Int} {P P' : Nat → Nat} {c : Int} : ∀ k, (∀ i, i ≤ k → P i = P' i) → leastS s P c k = leastS s P' c k
  | 0, _ => rfl
  | k + 1, h => by rw [leastS, leastS, leastS_congr k (fun i hi => h i (by omega)), h (k + 1) (by omega), h k (by omega)]
/-- parts, one behind the other -/
def Prun (N f t : Nat) : List (Nat × Int) → (Nat → Int) → Int → (Nat → Int) → Int → Prop
  | [], s, l, s', l' => s' = s ∧ l' = l
  | (L, p) :: r, s, l, s', l' => 0 < l ∧ ∃ P, IsW N s 1 f t L P ∧ p = min l (leastS s P 9999 (L - 1)) ∧ Prun N f t r (pushS s P p (L - 1)) (l - p) s' l'
def Snd (N f t : Nat) (r : List (Nat × Int)) (s : Nat → Int) (l : Int) (s' : Nat → Int) (l' : Int) : Prop := Prun N f t r s l s' l' ∧ (l' ≤ 0 ∨ NoW N s' 1 f t)
theorem Prun.snoc {N f t : Nat} : ∀ {r : List (Nat × Int)} {s : Nat → Int} {l : Int} {s1 : Nat → Int} {l1 : Int} {L : Nat} {P : Nat → Nat}, Prun N f t r s l s1 l1 → 0 < l1 → IsW N s1 1 f t L P → Prun N f t (r ++ [(L, min l1 (leastS s1 P 9999 (L - 1)))]) s l (pushS s1 P (min l1 (leastS s1 P 9999 (L - 1))) (L - 1)) (l1 - min l1 (leastS s1 P 9999 (L - 1)))
  | [], s, l, s1, l1, L, P, h, h1, h2 => by
    obtain ⟨rfl, rfl⟩ := h
    exact ⟨h1, P, h2, rfl, rfl, rfl⟩
  | (L0, p0) :: r, s, l, s1, l1, L, P, h, h1, h2 => by
    obtain ⟨a, P0, b, c, d⟩ := h
    exact ⟨a, P0, b, c, Prun.snoc d h1 h2⟩
theorem Prun.app {N f t : Nat} : ∀ {r r2 : List (Nat × Int)} {s : Nat → Int} {l : Int} {s1 : Nat → Int} {l1 : Int} {s2 : Nat → Int} {l2 : Int}, Prun N f t r s l s1 l1 → Prun N f t r2 s1 l1 s2 l2 → Prun N f t (r ++ r2) s l s2 l2
  | [], r2, s, l, s1, l1, s2, l2, h, h1 => by
    obtain ⟨rfl, rfl⟩ := h
    exact h1
  | (L0, p0) :: r, r2, s, l, s1, l1, s2, l2, h, h1 => by
    obtain ⟨a, P0, b, c, d⟩ := h
    exact ⟨a, P0, b, c, Prun.app d h1⟩
theorem Snd.eq {N f t : Nat} (hf : f < N) : ∀ {r r2 : List (Nat × Int)} {s : Nat → Int} {l : Int} {s1 : Nat → Int} {l1 : Int} {s2 : Nat → Int} {l2 : Int}, Snd N f t r s l s1 l1 → Snd N f t r2 s l s2 l2 → r = r2 ∧ s1 = s2 ∧ l1 = l2
  | [], [], s, l, s1, l1, s2, l2, h, h2 => by
    obtain ⟨⟨rfl, rfl⟩, _⟩ := h
    obtain ⟨⟨rfl, rfl⟩, _⟩ := h2
    exact ⟨rfl, rfl, rfl⟩
  | [], (L0, p0) :: r2, s, l, s1, l1, s2, l2, h, h2 => by
    obtain ⟨⟨rfl, rfl⟩, e⟩ := h
    obtain ⟨⟨a, P0, b, c, d⟩, _⟩ := h2
    rcases e with e | e
    · omega
    · exact (b.no hf e).elim
  | (L0, p0) :: r, [], s, l, s1, l1, s2, l2, h, h2 => by
    obtain ⟨⟨rfl, rfl⟩, e⟩ := h2
    obtain ⟨⟨a, P0, b, c, d⟩, _⟩ := h
    rcases e with e | e
    · omega
    · exact (b.no hf e).elim
  | (L0, p0) :: r, (L1, p1) :: r2, s, l, s1, l1, s2, l2, h, h2 => by
    obtain ⟨⟨a, P0, b, c, d⟩, e⟩ := h
    obtain ⟨⟨a', P1, b', c', d'⟩, e'⟩ := h2
    obtain ⟨eL, eP⟩ := b.eq hf b'
    subst eL
    have hL : 1 ≤ L0 := by
      obtain ⟨dd, _, h0, hL, _⟩ := b
      omega
    have e1 : leastS s P0 9999 (L0 - 1) = leastS s P1 9999 (L0 - 1) := leastS_congr _ (fun i hi => eP i (by omega))
    have ep : p0 = p1 := by rw [c, c', e1]
    subst ep
    have e2 : pushS s P0 p0 (L0 - 1) = pushS s P1 p0 (L0 - 1) := pushS_congr _ (fun i hi => eP i (by omega))
    rw [e2] at d
    obtain ⟨q1, q2, q3⟩ := Snd.eq hf (r := r) (r2 := r2) ⟨d, e⟩ ⟨d', e'⟩
    exact ⟨by rw [q1], q2, q3⟩
