/-! how far it is: laid step by step, or by a queue -/
theorem sumTo_at {f g : Nat → Int} {n k : Nat} (hk : k < n) (h : ∀ i, i < n → i ≠ k → g i = f i) : sumTo g n = sumTo f n + (g k - f k) := by
  induction n with
  | zero => omega
  | succ n ih =>
    rw [sumTo_s, sumTo_s]
    by_cases c : k = n
    · subst c
      rw [sumTo_congr (f := g) (g := f) (fun i hi => h i (by omega) (by omega))]; omega
    · rw [ih (by omega) (fun i hi hne => h i (by omega) hne), h n (by omega) (by omega)]; omega
theorem up1_eq {f : Nat → Int} {j : Nat} {v : Int} : up1 f j v j = v := by unfold up1; rw [if_pos rfl]
theorem up1_ne {f : Nat → Int} {j b : Nat} {v : Int} (h : b ≠ j) : up1 f j v b = f b := by unfold up1; rw [if_neg h]
def PreD (N : Nat) (s : Nat → Int) (x : Int) (t : Nat) (d : Nat → Int) : Prop := d t = 0 ∧ (∀ u, u < N → -1 ≤ d u) ∧ ∀ u, u < N → u ≠ t → 0 ≤ d u → 1 ≤ d u ∧ ∃ v, v < N ∧ d v = d u - 1 ∧ x ≤ s (8 * u + v)
section DIST
variable {N : Nat} {s : Nat → Int} {x : Int} {t : Nat} {d : Nat → Int}
theorem PreD.lv (h : PreD N s x t d) : ∀ (k : Nat) (u : Nat), u < N → d u = (k : Int) → ∀ j : Nat, j ≤ k → ∃ w, w < N ∧ d w = (j : Int) := by
  intro k
  induction k with
  | zero => intro u hu e j hj; exact ⟨u, hu, by omega⟩
  | succ k ih =>
    intro u hu e j hj
    by_cases c : j = k + 1
    · exact ⟨u, hu, by omega⟩
    · have hne : u ≠ t := fun c => by rw [c, h.1] at e; omega
      obtain ⟨_, v, hv, e2, _⟩ := h.2.2 u hu hne (by omega)
      exact ih v hv (by omega) j (by omega)
theorem PreD.lt (h : PreD N s x t d) {u : Nat} (hu : u < N) : d u < (N : Int) := by
  by_cases c : 0 ≤ d u
  · have lv := h.lv (d u).toNat u hu (by omega)
    have key : ∀ k : Nat, k ≤ (d u).toNat + 1 → (k : Int) ≤ sumTo (fun w => if 0 ≤ d w ∧ d w < (k : Int) then 1 else 0) N := by
      intro k
      induction k with
      | zero => intro _; exact sumTo_nn (fun i _ => by split <;> omega)
      | succ k ih =>
        intro hk
        have h1 := ih (by omega)
        obtain ⟨w, hw, ew⟩ := lv k (by omega)
        have := sumTo_lt (f := fun w => if 0 ≤ d w ∧ d w < (k : Int) then 1 else 0) (g := fun w => if 0 ≤ d w ∧ d w < ((k + 1 : Nat) : Int) then 1 else 0) (n := N) hw (fun i _ => by
          by_cases c1 : 0 ≤ d i ∧ d i < (k : Int)
          · rw [if_pos c1, if_pos (by omega)]; omega
          · rw [if_neg c1]; split <;> omega) (by
          rw [if_neg (by omega), if_pos (by omega)]; omega)
        omega
    have h1 := key ((d u).toNat + 1) (by omega)
    have h2 := sumTo_le (f := fun w => if 0 ≤ d w ∧ d w < (((d u).toNat + 1 : Nat) : Int) then 1 else 0) (n := N) (a := 0) (b := 1) (fun i _ => by split <;> omega)
    omega
  · omega
theorem PreD.set (h : PreD N s x t d) {u v : Nat} (hn : d u < 0) (hv : v < N) (h0 : 0 ≤ d v) (he : x ≤ s (8 * u + v)) : PreD N s x t (up1 d u (d v + 1)) := by
  have hut : u ≠ t := fun c => by rw [c, h.1] at hn; omega
  have hvu : v ≠ u := fun c => by rw [c] at h0; omega
  refine ⟨by rw [up1_ne (Ne.symm hut)]; exact h.1, fun w hw => ?_, fun w hw hne hd => ?_⟩
  · by_cases c : w = u
    · rw [c, up1_eq]; omega
    · rw [up1_ne c]; exact h.2.1 w hw
  · by_cases c : w = u
    · subst c
      rw [up1_eq]
      exact ⟨by omega, v, hv, by rw [up1_ne hvu]; omega, he⟩
    · rw [up1_ne c] at hd ⊢
      obtain ⟨a1, v', a2, a3, a4⟩ := h.2.2 w hw hne hd
      refine ⟨a1, v', a2, ?_, a4⟩
      rw [up1_ne (fun e => by rw [e] at a3; omega)]; exact a3
/-- all steps to those nearer than k have been looked at -/
def Cl (N : Nat) (s : Nat → Int) (x : Int) (d : Nat → Int) (k : Int) : Prop := ∀ u, u < N → ∀ v, v < N → 0 ≤ d v → d v < k → x ≤ s (8 * u + v) → 0 ≤ d u ∧ d u ≤ d v + 1
theorem PreD.isD (h : PreD N s x t d) (hc : Cl N s x d N) : IsD N s x t d := ⟨h.1, h.2.1, h.2.2, fun u hu v hv h0 he => hc u hu v hv h0 (h.lt hv) he⟩
theorem ex_D (N : Nat) (s : Nat → Int) (x : Int) {t : Nat} (ht : t < N) : ∃ d, IsD N s x t d := by
  classical
  have key : ∀ k : Nat, ∃ d, PreD N s x t d ∧ (∀ u, u < N → d u ≤ (k : Int)) ∧ Cl N s x d k := by
    intro k
    induction k with
    | zero =>
      refine ⟨fun u => if u = t then 0 else -1, ⟨if_pos rfl, fun u _ => by (try dsimp only); split <;> omega, fun u _ hne h0 => ?_⟩, fun u _ => by (try dsimp only); split <;> omega, fun u _ v _ h0 h1 => by omega⟩
      (try dsimp only at h0)
      rw [if_neg hne] at h0; omega
    | succ k ih =>
      obtain ⟨d, hp, hb, hc⟩ := ih
      have hn : ∀ u, (d u < 0 ∧ ∃ v, v < N ∧ d v = (k : Int) ∧ x ≤ s (8 * u + v)) → ∃ v, v < N ∧ d v = (k : Int) ∧ x ≤ s (8 * u + v) := fun u h => h.2
      refine ⟨fun u => if d u < 0 ∧ ∃ v, v < N ∧ d v = (k : Int) ∧ x ≤ s (8 * u + v) then ((k + 1 : Nat) : Int) else d u, ⟨?_, fun u hu => ?_, fun u hu hne h0 => ?_⟩, fun u hu => ?_, fun u hu v hv h0 h1 he => ?_⟩
      · (try dsimp only); rw [if_neg (fun z => by rw [hp.1] at z; omega)]; exact hp.1
      · (try dsimp only); split
        · omega
        · exact hp.2.1 u hu
      · (try dsimp only at h0 ⊢)
        by_cases c : d u < 0 ∧ ∃ v, v < N ∧ d v = (k : Int) ∧ x ≤ s (8 * u + v)
        · rw [if_pos c]
          obtain ⟨c1, v, hv, e1, e2⟩ := c
          refine ⟨by omega, v, hv, ?_, e2⟩
          rw [if_neg (fun z => by omega)]; omega
        · rw [if_neg c] at h0 ⊢
          obtain ⟨a1, v, hv, a2, a3⟩ := hp.2.2 u hu hne h0
          refine ⟨a1, v, hv, ?_, a3⟩
          rw [if_neg (fun z => by omega)]; exact a2
      · (try dsimp only); split
        · omega
        · have := hb u hu; omega
      · (try dsimp only at h0 h1 ⊢)
        by_cases c : d v < 0 ∧ ∃ w, w < N ∧ d w = (k : Int) ∧ x ≤ s (8 * v + w)
        · rw [if_pos c] at h1; omega
        · rw [if_neg c] at h0 h1 ⊢
          have hbu := hb u hu
          by_cases c2 : d u < 0
          · by_cases c3 : d v = (k : Int)
            · rw [if_pos ⟨c2, v, hv, c3, he⟩]; omega
            · have := hc u hu v hv h0 (by omega) he; omega
          · rw [if_neg (fun z => c2 z.1)]
            by_cases c3 : d v = (k : Int)
            · omega
            · exact hc u hu v hv h0 (by omega) he
  obtain ⟨d, hp, _, hc⟩ := key N
  exact ⟨d, hp.isD hc⟩
/-- members seen so far, in a queue -/
def Bfs (N : Nat) (s : Nat → Int) (x : Int) (t : Nat) (D q : Nat → Int) (hd tl : Nat) : Prop := PreD N s x t D ∧ (hd ≤ tl ∧ tl ≤ 8) ∧ ((tl : Int) = sumTo (fun u => if 0 ≤ D u then 1 else 0) N) ∧ (∀ i, i < tl → ∃ v, v < N ∧ q i = ((v : Nat) : Int) ∧ 0 ≤ D v) ∧ (∀ u, u < N → 0 ≤ D u → ∃ i, i < tl ∧ q i = ((u : Nat) : Int)) ∧ (∀ i j, i ≤ j → j < tl → D (q i).toNat ≤ D (q j).toNat) ∧ (∀ j, j < tl → hd < tl → D (q j).toNat ≤ D (q hd).toNat + 1) ∧ ∀ i, i < hd → ∀ u, u < N → x ≤ s (8 * u + (q i).toNat) → 0 ≤ D u ∧ D u ≤ D (q i).toNat + 1
theorem Bfs.visit {D q : Nat → Int} {hd tl u v : Nat} (h : Bfs N s x t D q hd tl) (hht : hd < tl) (ht8 : tl < 8) (hu : u < N) (hn : D u < 0) (ev : q hd = (v : Int)) (he : x ≤ s (8 * u + v)) : Bfs N s x t (up1 D u (D v + 1)) (up1 q tl (u : Int)) hd (tl + 1) := by
  obtain ⟨h1, h2, h3, h4, h5, h6, h7, h8⟩ := h
  obtain ⟨v', hv, ev', hv0⟩ := h4 hd hht
  obtain rfl : v' = v := by omega
  have qn : ∀ i, i < tl → up1 q tl (u : Int) i = q i := fun i hi => up1_ne (by omega)
  have qd : ∀ i, i < tl → up1 D u (D v' + 1) (q i).toNat = D (q i).toNat := fun i hi => by
    obtain ⟨w, _, e, h0⟩ := h4 i hi
    rw [e, tn]
    exact up1_ne (fun c => by rw [c] at h0; omega)
  have qv : D (q hd).toNat = D v' := by rw [ev, tn]
  have b1 := h1.2.1 u hu
  refine ⟨h1.set hn hv hv0 he, by omega, ?_, fun i hi => ?_, fun w hw h0 => ?_, fun i j hij hj => ?_, fun j hj _ => ?_, fun i hi w hw hx => ?_⟩
  · rw [sumTo_at (f := fun u => if 0 ≤ D u then 1 else 0) hu (fun i _ hne => by (try dsimp only); rw [up1_ne hne])]
    (try dsimp only)
    rw [up1_eq, if_pos (by omega), if_neg (by omega)]
    omega
  · by_cases c : i = tl
    · rw [c, up1_eq]; exact ⟨u, hu, rfl, by rw [up1_eq]; omega⟩
    · obtain ⟨w, hw, e, h0⟩ := h4 i (by omega)
      refine ⟨w, hw, by rw [qn i (by omega)]; exact e, ?_⟩
      rw [up1_ne (fun c => by rw [c] at h0; omega)]; exact h0
  · by_cases c : w = u
    · exact ⟨tl, by omega, by rw [up1_eq, c]⟩
    · rw [up1_ne c] at h0
      obtain ⟨i, hi, e⟩ := h5 w hw h0
      exact ⟨i, by omega, by rw [qn i hi]; exact e⟩
  · by_cases c : j = tl
    · rw [c, up1_eq, tn, up1_eq]
      by_cases c2 : i = tl
      · rw [c2, up1_eq, tn, up1_eq]; omega
      · rw [qn i (by omega), qd i (by omega)]
        have := h7 i (by omega) hht
        omega
    · rw [qn i (by omega), qd i (by omega), qn j (by omega), qd j (by omega)]
      exact h6 i j hij (by omega)
  · rw [qn hd hht, qd hd hht]
    by_cases c : j = tl
    · rw [c, up1_eq, tn, up1_eq]; omega
    · rw [qn j (by omega), qd j (by omega)]
      exact h7 j (by omega) hht
  · rw [qn i (by omega)] at hx
    rw [qn i (by omega), qd i (by omega)]
    have := h8 i hi w hw hx
    rw [up1_ne (fun c => by rw [c] at this; omega)]
    exact this
theorem Bfs.next {D q : Nat → Int} {hd tl v : Nat} (h : Bfs N s x t D q hd tl) (hht : hd < tl) (ev : q hd = (v : Int)) (hc : ∀ u, u < N → x ≤ s (8 * u + v) → 0 ≤ D u) : Bfs N s x t D q (hd + 1) tl := by
  obtain ⟨h1, h2, h3, h4, h5, h6, h7, h8⟩ := h
  refine ⟨h1, by omega, h3, h4, h5, h6, fun j hj hl => ?_, fun i hi u hu hx => ?_⟩
  · have := h7 j hj hht
    have := h6 hd (hd + 1) (by omega) hl
    omega
  · by_cases c : i = hd
    · rw [c] at hx ⊢
      rw [ev, tn] at hx
      have h0 := hc u hu hx
      obtain ⟨j, hj, e⟩ := h5 u hu h0
      have := h7 j hj hht
      rw [e, tn] at this
      exact ⟨h0, this⟩
    · exact h8 i (by omega) u hu hx
theorem Bfs.full {D q : Nat → Int} {hd : Nat} (hN : N ≤ 8) (h : Bfs N s x t D q hd 8) : ∀ u, u < N → 0 ≤ D u := by
  intro u hu
  by_cases c : 0 ≤ D u
  · exact c
  · exfalso
    have h3 := h.2.2.1
    have := sumTo_lt (f := fun u => if 0 ≤ D u then 1 else 0) (g := fun _ => 1) (n := N) hu (fun i _ => by (try dsimp only); split <;> omega) (by (try dsimp only); rw [if_neg c]; omega)
    have h2 := sumTo_le (f := fun _ => (1 : Int)) (n := N) (a := 0) (b := 1) (fun i _ => by omega)
    omega
theorem Bfs.done {D q : Nat → Int} {tl : Nat} (h : Bfs N s x t D q tl tl) : IsD N s x t D := by
  obtain ⟨h1, h2, h3, h4, h5, h6, h7, h8⟩ := h
  refine ⟨h1.1, h1.2.1, h1.2.2, fun u hu v hv h0 he => ?_⟩
  obtain ⟨i, hi, e⟩ := h5 v hv h0
  have := h8 i hi u hu (by rw [e, tn]; exact he)
  rw [e, tn] at this
  exact this
theorem Bfs.init {D q : Nat → Int} (ht : t < N) (hD : ∀ u, u < N → D u = if u = t then 0 else -1) (hq : q 0 = (t : Int)) : Bfs N s x t D q 0 1 := by
  have e0 : D t = 0 := by rw [hD t ht, if_pos rfl]
  have one : ∀ i, i < 1 → q i = (t : Int) := fun i hi => by rw [show i = 0 by omega]; exact hq
  have only : ∀ u, u < N → 0 ≤ D u → u = t := fun u hu h0 => by
    by_cases c : u = t
    · exact c
    · rw [hD u hu, if_neg c] at h0; omega
  refine ⟨⟨e0, fun u hu => by rw [hD u hu]; split <;> omega, fun u hu hne h0 => absurd (only u hu h0) hne⟩, by omega, ?_, fun i hi => ⟨t, ht, one i hi, by omega⟩, fun u hu h0 => ⟨0, by omega, by rw [only u hu h0]; exact hq⟩, fun i j hij hj => ?_, fun j hj _ => ?_, fun i hi => by omega⟩
  · rw [sumTo_at (f := fun _ => 0) (k := t) ht (fun i hi hne => by (try dsimp only); rw [hD i hi, if_neg hne, if_neg (by omega)]), sumTo_z (fun _ _ => rfl)]
    (try dsimp only)
    rw [e0, if_pos (by omega)]; omega
  · rw [one i (by omega), one j hj]; omega
  · rw [one j hj, hq]; omega
end DIST
