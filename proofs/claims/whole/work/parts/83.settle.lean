/-! rings are settled -/
def rgD (d : Nat → Int) (n : Nat) (R : Nat → Nat) (x : Int) : Nat → Int := pay (pushS d R x (n - 1)) (R 0) (R (n - 1)) x
def setB (B : Bk) (n : Nat) (R : Nat → Nat) : Bk := wDeb B (rgD (deb B) n R (rgL (deb B) n R 9999))
section SETTLE
variable {N n : Nat} {d : Nat → Int} {R : Nat → Nat} {B : Bk} {x : Int}
theorem ex_Rg (N : Nat) (d : Nat → Int) : NoRg N d ∨ ∃ n R, IsRg N d n R := by
  classical
  by_cases c : ∃ n R, Rg N d n R
  · right
    obtain ⟨n0, R0, h0⟩ := c
    obtain ⟨n, _, ⟨R1, h1⟩, hmin⟩ := least_ex (p := fun n => ∃ R, Rg N d n R) n0 n0 (Nat.le_refl _) ⟨R0, h0⟩
    have key : ∀ k, ∃ R, Rg N d n R ∧ ∀ R', Rg N d n R' → LexLe k R R' := by
      intro k
      induction k with
      | zero => exact ⟨R1, h1, fun R' _ j hj => by omega⟩
      | succ k ih =>
        obtain ⟨R, hR, hl⟩ := ih
        obtain ⟨w, _, ⟨R2, a1, a2, a3⟩, hw⟩ := least_ex (p := fun v => ∃ R', Rg N d n R' ∧ (∀ i, i < k → R' i = R i) ∧ R' k = v) (R k) (R k) (Nat.le_refl _) ⟨R, hR, fun _ _ => rfl, rfl⟩
        refine ⟨R2, a1, fun R' h' j hj ha => ?_⟩
        by_cases c : j = k
        · subst c
          rw [a3]
          by_cases c2 : w ≤ R' j
          · exact c2
          · exact absurd ⟨R', h', fun i hi => by rw [← a2 i hi]; exact (ha i hi).symm, rfl⟩ (hw (R' j) (by omega))
        · rw [a2 j (by omega)]
          exact hl R' h' j (by omega) (fun i hi => by rw [← a2 i (by omega)]; exact ha i hi)
    obtain ⟨R, hR, hl⟩ := key n
    refine ⟨n, R, hR, fun n' R' h' => ?_, hl⟩
    by_cases c2 : n ≤ n'
    · exact c2
    · exact absurd ⟨R', h'⟩ (hmin n' (by omega))
  · exact Or.inl (fun n R h => c ⟨n, R, h⟩)
theorem rg_cases (hN : N ≤ 8) (h3 : 3 ≤ n) (h : Rg N d n R) {u v : Nat} (hu : u < 8) (hv : v < 8) : (∃ j, j < n ∧ u = R j ∧ v = nx n R j ∧ rgD d n R x (8 * u + v) = d (8 * u + v) - x) ∨ (∃ j, j < n ∧ u = nx n R j ∧ v = R j ∧ rgD d n R x (8 * u + v) = d (8 * u + v) + x) ∨ rgD d n R x (8 * u + v) = d (8 * u + v) := by
  obtain ⟨h1, h2, hg, hinj, h5, h6⟩ := h
  have hP8 : ∀ i, i < n → R i < 8 := fun i hi => by have := h2 i hi; omega
  have pc := push_cases (s := d) (p := x) hP8 hinj (n - 1) (by omega) u hu v hv
  have hne : R 0 ≠ R (n - 1) := fun e => by have := hinj 0 (by omega) (n - 1) (by omega) e; omega
  have b0 := hP8 0 (by omega)
  have b1 := hP8 (n - 1) (by omega)
  have pa := pay_at (d := pushS d R x (n - 1)) (x := x) hne b0 b1
  have nl : nx n R (n - 1) = R 0 := by unfold nx; rw [if_neg (by omega)]
  have nj : ∀ j, j < n - 1 → nx n R j = R (j + 1) := fun j hj => by unfold nx; rw [if_pos (by omega)]
  unfold rgD
  by_cases c1 : u = R (n - 1) ∧ v = R 0
  · left
    refine ⟨n - 1, by omega, c1.1, by rw [nl]; exact c1.2, ?_⟩
    rw [c1.1, c1.2, pa.2]
    rcases pc with ⟨j, hj, e1, e2, _⟩ | ⟨j, hj, e1, e2, _⟩ | ⟨e, _⟩
    · have := hinj (n - 1) (by omega) j (by omega) (by rw [← e1, c1.1]); omega
    · have a1 := hinj (n - 1) (by omega) (j + 1) (by omega) (by rw [← e1, c1.1])
      have a2 := hinj 0 (by omega) j (by omega) (by rw [← e2, c1.2])
      omega
    · rw [← c1.1, ← c1.2, e]
  · by_cases c2 : u = R 0 ∧ v = R (n - 1)
    · right; left
      refine ⟨n - 1, by omega, by rw [nl]; exact c2.1, c2.2, ?_⟩
      rw [c2.1, c2.2, pa.1]
      rcases pc with ⟨j, hj, e1, e2, _⟩ | ⟨j, hj, e1, e2, _⟩ | ⟨e, _⟩
      · have a1 := hinj 0 (by omega) j (by omega) (by rw [← e1, c2.1])
        have a2 := hinj (n - 1) (by omega) (j + 1) (by omega) (by rw [← e2, c2.2])
        omega
      · have := hinj 0 (by omega) (j + 1) (by omega) (by rw [← e1, c2.1]); omega
      · rw [← c2.1, ← c2.2, e]
    · rw [pay_ne (by omega) (by omega)]
      rcases pc with ⟨j, hj, e1, e2, e3⟩ | ⟨j, hj, e1, e2, e3⟩ | ⟨e, _⟩
      · exact Or.inl ⟨j, by omega, e1, by rw [nj j hj]; exact e2, e3⟩
      · exact Or.inr (Or.inl ⟨j, by omega, by rw [nj j hj]; exact e1, e2, e3⟩)
      · exact Or.inr (Or.inr e)
theorem pushS_anti {P : Nat → Nat} (ha : ∀ u, u < 8 → ∀ v, v < 8 → d (8 * u + v) = - d (8 * v + u)) : ∀ k, (∀ i, i ≤ k → P i < 8) → ∀ u, u < 8 → ∀ v, v < 8 → pushS d P x k (8 * u + v) = - pushS d P x k (8 * v + u)
  | 0, _ => ha
  | k + 1, h => pay_anti (h (k + 1) (by omega)) (h k (by omega)) (pushS_anti ha k (fun i hi => h i (by omega)))
theorem pushS_b {P : Nat → Nat} (hb : ∀ i, i < 64 → -999 ≤ d i ∧ d i ≤ 999) (hx : 0 ≤ x ∧ x ≤ 999) : ∀ k : Nat, ∀ i, i < 64 → -999 - 999 * (k : Int) ≤ pushS d P x k i ∧ pushS d P x k i ≤ 999 + 999 * (k : Int)
  | 0, i, hi => by have := hb i hi; rw [pushS]; omega
  | k + 1, i, hi => by
    have ih := pushS_b hb hx k i hi (P := P)
    rw [pushS]
    unfold pay
    split <;> split <;> omega
theorem rgL_b (hI : IvA B) (h3 : 3 ≤ n) (h : Rg (nN B) (deb B) n R) : 1 ≤ rgL (deb B) n R 9999 ∧ (∀ j, j < n → rgL (deb B) n R 9999 ≤ deb B (8 * R j + nx n R j)) ∧ rgL (deb B) n R 9999 ≤ 999 ∧ ∃ j, j < n ∧ rgL (deb B) n R 9999 = deb B (8 * R j + nx n R j) := by
  have hN := hI.1
  obtain ⟨h1, h2, hg, hinj, h5, h6⟩ := id h
  have hP8 : ∀ i, i < n → R i < 8 := fun i hi => by have := h2 i hi; omega
  have nl : nx n R (n - 1) = R 0 := by unfold nx; rw [if_neg (by omega)]
  have nj : ∀ j, j < n - 1 → nx n R j = R (j + 1) := fun j hj => by unfold nx; rw [if_pos (by omega)]
  have hle := leastS_le (s := deb B) (P := R) (c := 9999) (n - 1)
  have hge := leastS_ge (s := deb B) (P := R) (c := 9999) (y := 1) (by omega) (n - 1) (fun j hj => by have := h5 j (by omega); omega)
  have hb : ∀ j, j < n - 1 → deb B (8 * R j + R (j + 1)) ≤ 9999 := fun j hj => by
    have := hI.2.2.1 _ (lt64 (hP8 j (by omega)) (hP8 (j + 1) (by omega)))
    omega
  obtain ⟨-, j0, hj0, ej0⟩ := leastS_cap (s := deb B) (P := R) (c := 9999) (c' := 9999) (n - 1) (by omega) (fun j hj => ⟨hb j hj, hb j hj⟩)
  have bl := hI.2.2.1 _ (lt64 (hP8 (n - 1) (by omega)) (hP8 0 (by omega)))
  unfold rgL
  refine ⟨by omega, fun j hj => ?_, by omega, ?_⟩
  · by_cases c : j = n - 1
    · rw [c, nl]; omega
    · rw [nj j (by omega)]
      have := hle.2 j (by omega)
      omega
  · by_cases c : leastS (deb B) R 9999 (n - 1) ≤ deb B (8 * R (n - 1) + R 0)
    · exact ⟨j0, by omega, by rw [nj j0 hj0]; omega⟩
    · exact ⟨n - 1, by omega, by rw [nl]; omega⟩
def cnt (B : Bk) : Int := sumTo (fun i => if 0 < deb B i then 1 else 0) 64
theorem set_A (hI : IvA B) (hZ : IvB B) (h : Rg (nN B) (deb B) n R) : IvA (setB B n R) ∧ IvB (setB B n R) ∧ cnt (setB B n R) + 1 ≤ cnt B ∧ (∀ u, u < 8 → ∀ v, v < 8 → deb (setB B n R) (8 * u + v) ≤ max (deb B (8 * u + v)) 0) := by
  have hN := hI.1
  have h3 := h.ge hN.2 hZ.1
  obtain ⟨x1, x2, x3, j0, hj0, ex⟩ := rgL_b hI h3 h
  have hP8 : ∀ i, i < n → R i < 8 := fun i hi => by have := h.2.1 i hi; omega
  have cas : ∀ u, u < 8 → ∀ v, v < 8 → (∃ j, j < n ∧ u = R j ∧ v = nx n R j ∧ deb (setB B n R) (8 * u + v) = deb B (8 * u + v) - rgL (deb B) n R 9999) ∨ (∃ j, j < n ∧ u = nx n R j ∧ v = R j ∧ deb (setB B n R) (8 * u + v) = deb B (8 * u + v) + rgL (deb B) n R 9999) ∨ deb (setB B n R) (8 * u + v) = deb B (8 * u + v) := fun u hu v hv => rg_cases (x := rgL (deb B) n R 9999) hN.2 h3 h hu hv
  have bnd : ∀ u, u < 8 → ∀ v, v < 8 → (-999 ≤ deb (setB B n R) (8 * u + v) ∧ deb (setB B n R) (8 * u + v) ≤ 999) ∧ deb (setB B n R) (8 * u + v) ≤ max (deb B (8 * u + v)) 0 := fun u hu v hv => by
    have b := hI.2.2.1 _ (lt64 hu hv)
    rcases cas u hu v hv with ⟨j, hj, e1, e2, e3⟩ | ⟨j, hj, e1, e2, e3⟩ | e
    · have := x2 j hj
      rw [← e1, ← e2] at this
      omega
    · have := x2 j hj
      rw [← e1, ← e2] at this
      have := hZ.1 u hu v hv
      omega
    · omega
  refine ⟨⟨hI.1, hI.2.1, fun i hi => ?_, hI.2.2.2⟩, ⟨?_, hZ.2.1, fun u hu v hv z => ⟨(hZ.2.2.1 u hu v hv z).1, ?_, (hZ.2.2.1 u hu v hv z).2.2⟩, hZ.2.2.2⟩, ?_, fun u hu v hv => (bnd u hu v hv).2⟩
  · have := (bnd (i / 8) (by omega) (i % 8) (by omega)).1
    rw [← i88 i] at this
    exact this
  · have pa := pushS_anti (x := rgL (deb B) n R 9999) (P := R) hZ.1 (n - 1) (fun i hi => hP8 i (by omega))
    exact pay_anti (hP8 0 (by omega)) (hP8 (n - 1) (by omega)) pa
  · have z0 := (hZ.2.2.1 u hu v hv z).2.1
    have zz : nN B ≤ u ∨ nN B ≤ v ∨ u = v := z
    have z1 := (hZ.2.2.1 v hv u hu (by omega)).2.1
    rcases cas u hu v hv with ⟨j, hj, e1, e2, e3⟩ | ⟨j, hj, e1, e2, e3⟩ | e
    · have := x2 j hj
      rw [← e1, ← e2] at this
      omega
    · have := x2 j hj
      rw [← e1, ← e2] at this
      omega
    · rw [e]; exact z0
  · unfold cnt
    have q := rg_nx h hj0
    have hjn : nx n R j0 < 8 := by omega
    refine sumTo_lt (k := 8 * R j0 + nx n R j0) (lt64 (hP8 j0 hj0) hjn) (fun i hi => ?_) ?_
    · have := (bnd (i / 8) (by omega) (i % 8) (by omega)).2
      rw [← i88 i] at this
      (try dsimp only)
      by_cases c : 0 < deb (setB B n R) i
      · rw [if_pos c, if_pos (by omega)]; omega
      · rw [if_neg c]; split <;> omega
    · (try dsimp only)
      have dn : deb (setB B n R) (8 * R j0 + nx n R j0) ≤ 0 := by
        rcases cas (R j0) (hP8 j0 hj0) (nx n R j0) hjn with ⟨j, hj, e1, e2, e3⟩ | ⟨j, hj, e1, e2, e3⟩ | e
        · omega
        · have := x2 j hj
          rw [← e1, ← e2] at this
          have := hZ.1 (R j0) (hP8 j0 hj0) (nx n R j0) hjn
          omega
        · exfalso
          -- this step is of the ring: what is owed there goes down
          have pc := push_cases (s := deb B) (p := rgL (deb B) n R 9999) hP8 h.2.2.2.1 (n - 1) (by omega) (R j0) (hP8 j0 hj0) (nx n R j0) hjn
          have hne : R 0 ≠ R (n - 1) := fun e => by have := h.2.2.2.1 0 (by omega) (n - 1) (by omega) e; omega
          have pa := pay_at (d := pushS (deb B) R (rgL (deb B) n R 9999) (n - 1)) (x := rgL (deb B) n R 9999) hne (hP8 0 (by omega)) (hP8 (n - 1) (by omega))
          have e' : rgD (deb B) n R (rgL (deb B) n R 9999) (8 * R j0 + nx n R j0) = deb B (8 * R j0 + nx n R j0) := e
          unfold rgD at e'
          by_cases c : j0 = n - 1
          · have nl : nx n R j0 = R 0 := by unfold nx; rw [if_neg (by omega)]
            rw [nl] at e' pc q
            rw [c] at e' pc
            rw [pa.2] at e'
            rcases pc with ⟨j, hj, e1, e2, _⟩ | ⟨j, hj, e1, e2, _⟩ | ⟨e4, _⟩
            · have := h.2.2.2.1 (n - 1) (by omega) j (by omega) e1; omega
            · have a1 := h.2.2.2.1 (n - 1) (by omega) (j + 1) (by omega) e1
              have a2 := h.2.2.2.1 0 (by omega) j (by omega) e2
              omega
            · omega
          · have nl : nx n R j0 = R (j0 + 1) := by unfold nx; rw [if_pos (by omega)]
            rw [nl] at e' pc
            have b1 := hP8 (j0 + 1) (by omega)
            have b2 := hP8 j0 hj0
            have b3 := hP8 0 (by omega)
            have b4 := hP8 (n - 1) (by omega)
            have n1 : ¬ (R j0 = R 0 ∧ R (j0 + 1) = R (n - 1)) := fun z => by
              have a1 := h.2.2.2.1 j0 hj0 0 (by omega) z.1
              have a2 := h.2.2.2.1 (j0 + 1) (by omega) (n - 1) (by omega) z.2
              omega
            have n2 : ¬ (R j0 = R (n - 1) ∧ R (j0 + 1) = R 0) := fun z => by
              have a1 := h.2.2.2.1 j0 hj0 (n - 1) (by omega) z.1
              omega
            rw [pay_ne (by omega) (by omega)] at e'
            rcases pc with ⟨j, hj, e1, e2, e3⟩ | ⟨j, hj, e1, e2, _⟩ | ⟨e4, e5⟩
            · omega
            · have a1 := h.2.2.2.1 j0 hj0 (j + 1) (by omega) e1
              have a2 := h.2.2.2.1 (j0 + 1) (by omega) j (by omega) e2
              omega
            · exact (e5 j0 (by omega)).1 ⟨rfl, rfl⟩
      rw [if_neg (by omega), if_pos q.2.2]; omega
theorem set_inv (hI : Inv B) (hh : heldB B = 0) (h : Rg (nN B) (deb B) n R) : Inv (setB B n R) := by
  have hN := hI.1.1
  have q := set_A hI.1 hI.2.1 h
  refine ⟨q.1, q.2.1, fun u hu v hv hne => ?_⟩
  have hu' : u < nN B := hu
  have hv' : v < nN B := hv
  have r := hI.2.2 u hu' v hv' hne
  have b := q.2.2.2 u (by omega) v (by omega)
  have l := hI.1.2.1 (8 * v + u) (by omega)
  unfold rm at r ⊢
  have z := hld_0 hI.1 hI.2.1 hh (u := u) (v := v) (by omega) (by omega)
  show 0 ≤ lim B (8 * v + u) - deb (setB B n R) (8 * u + v) - hld B u v
  omega
theorem setB_congr {R' : Nat → Nat} (h1 : 1 ≤ n) (e : ∀ i, i < n → R i = R' i) : setB B n R = setB B n R' := by
  have a1 : rgL (deb B) n R 9999 = rgL (deb B) n R' 9999 := by
    unfold rgL
    rw [leastS_congr (n - 1) (fun i hi => e i (by omega)), e (n - 1) (by omega), e 0 (by omega)]
  unfold setB rgD
  rw [a1, pushS_congr (n - 1) (fun i hi => e i (by omega)), e (n - 1) (by omega), e 0 (by omega)]
/-- so many rings are settled, till there is none -/
def Srun : Nat → Bk → Bk → Prop
  | 0, B, B' => B' = B ∧ NoRg (nN B) (deb B)
  | k + 1, B, B' => ∃ n R, IsRg (nN B) (deb B) n R ∧ Srun k (setB B n R) B'
theorem ex_Srun : ∀ (c : Nat) (B : Bk), IvA B → IvB B → cnt B ≤ (c : Int) → ∃ k B', Srun k B B' ∧ k ≤ c := by
  intro c
  induction c with
  | zero =>
    intro B hI hZ hc
    rcases ex_Rg (nN B) (deb B) with q | ⟨n, R, q⟩
    · exact ⟨0, B, ⟨rfl, q⟩, by omega⟩
    · have a := (set_A hI hZ q.1).2.2.1
      have b : 0 ≤ cnt (setB B n R) := sumTo_nn (fun i _ => by split <;> omega)
      omega
  | succ c ih =>
    intro B hI hZ hc
    rcases ex_Rg (nN B) (deb B) with q | ⟨n, R, q⟩
    · exact ⟨0, B, ⟨rfl, q⟩, by omega⟩
    · have a := set_A hI hZ q.1
      obtain ⟨k, B', h1, h2⟩ := ih (setB B n R) a.1 a.2.1 (by omega)
      exact ⟨k + 1, B', ⟨n, R, q, h1⟩, by omega⟩
theorem cnt_62 (hI : IvA B) (hZ : IvB B) : cnt B ≤ 56 := by
  have h2 : sumTo (fun i => if i / 8 ≠ i % 8 then 1 else 0) 64 = 56 := by decide +kernel
  have h1 := sumTo_mono (f := fun i => if 0 < deb B i then 1 else 0) (g := fun i => if i / 8 ≠ i % 8 then 1 else 0) (n := 64) (fun i hi => by
    (try dsimp only)
    by_cases c : i / 8 = i % 8
    · have := (hZ.2.2.1 (i / 8) (by omega) (i % 8) (by omega) (by omega)).2.1
      rw [← i88 i] at this
      rw [if_neg (by omega), if_neg (by omega)]; omega
    · rw [if_pos c]; split <;> omega)
  unfold cnt
  omega
theorem Srun.keep : ∀ {k : Nat} {B B' : Bk}, Srun k B B' → IvA B → IvB B → IvA B' ∧ IvB B' ∧ nN B' = nN B ∧ heldB B' = heldB B ∧ (heldB B = 0 → Inv B → Inv B')
  | 0, B, B', h, hI, hZ => by
    obtain ⟨rfl, _⟩ := h
    exact ⟨hI, hZ, rfl, rfl, fun _ q => q⟩
  | k + 1, B, B', h, hI, hZ => by
    obtain ⟨n, R, q, h1⟩ := h
    have a := set_A hI hZ q.1
    have r := Srun.keep h1 a.1 a.2.1
    exact ⟨r.1, r.2.1, r.2.2.1, r.2.2.2.1, fun hh hi => r.2.2.2.2 hh (set_inv hi hh q.1)⟩
end SETTLE
