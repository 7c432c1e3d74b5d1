/-! orders in which payments can be made -/
def up1n (f : Nat → Nat) (j v : Nat) : Nat → Nat := fun b => if b = j then v else f b
abbrev OFd : Type := Nat × (Nat → Nat)
def OS (N n : Nat) (Y : List Py) : Nat → Nat → (Nat → Nat) → Nat → (Nat → Int) → OFd → OFd → Prop
  | 0, _, ord, _, _, a, a' => a' = (a.1 + 1, if a.1 = 0 then ord else a.2)
  | j + 1, k, ord, u, s, a, a' => ∃ seq : Nat → OFd, seq 0 = a ∧ seq n = a' ∧ ∀ p, p < n → (u.testBit p = true → seq (p + 1) = seq p) ∧ (u.testBit p = false → ∃ z r s1 l1, Y[p]? = some z ∧ Snd N z.1 z.2.1 r s z.2.2 s1 l1 ∧ (l1 ≠ 0 → seq (p + 1) = seq p) ∧ (l1 = 0 → OS N n Y j (k + 1) (up1n ord k p) (u ||| 2 ^ p) s1 (seq p) (seq (p + 1))))
def g5 : Nat → Nat
  | 0 => 1
  | j + 1 => 5 * g5 j
theorem OS.le {N n : Nat} {Y : List Py} (hn : n ≤ 5) : ∀ {j k : Nat} {ord : Nat → Nat} {u : Nat} {s : Nat → Int} {a a' : OFd}, OS N n Y j k ord u s a a' → a'.1 ≤ a.1 + g5 j
  | 0, k, ord, u, s, a, a', h => by
    have e : a' = (a.1 + 1, if a.1 = 0 then ord else a.2) := h
    rw [e]
    exact Nat.le_refl _
  | j + 1, k, ord, u, s, a, a', h => by
    obtain ⟨seq, h0, h1, h2⟩ := h
    have key : ∀ p, p ≤ n → (seq p).1 ≤ a.1 + p * g5 j := by
      intro p
      induction p with
      | zero => intro _; rw [h0]; omega
      | succ p ih =>
        intro hp
        have i1 := ih (by omega)
        have q := h2 p (by omega)
        rw [Nat.succ_mul]
        cases e : u.testBit p with
        | true => rw [q.1 e]; omega
        | false =>
          obtain ⟨z, r, s1, l1, _, _, b1, b2⟩ := q.2 e
          by_cases c : l1 = 0
          · have := OS.le hn (b2 c)
            omega
          · rw [b1 c]; omega
    have q := key n (Nat.le_refl _)
    rw [h1] at q
    have : n * g5 j ≤ 5 * g5 j := Nat.mul_le_mul_right _ hn
    show a'.1 ≤ a.1 + 5 * g5 j
    omega
theorem OS.mid {N n : Nat} {Y : List Py} {u : Nat} {s : Nat → Int} {j k : Nat} {ord : Nat → Nat} {a : OFd} {seq : Nat → OFd} (hn : n ≤ 5) (h0 : seq 0 = a) (h2 : ∀ p, p < n → (u.testBit p = true → seq (p + 1) = seq p) ∧ (u.testBit p = false → ∃ z r s1 l1, Y[p]? = some z ∧ Snd N z.1 z.2.1 r s z.2.2 s1 l1 ∧ (l1 ≠ 0 → seq (p + 1) = seq p) ∧ (l1 = 0 → OS N n Y j (k + 1) (up1n ord k p) (u ||| 2 ^ p) s1 (seq p) (seq (p + 1))))) : ∀ p, p < n → (seq p).1 + g5 j ≤ a.1 + g5 (j + 1) := by
  have key : ∀ p, p ≤ n → (seq p).1 ≤ a.1 + p * g5 j := by
    intro p
    induction p with
    | zero => intro _; rw [h0]; omega
    | succ p ih =>
      intro hp
      have i1 := ih (by omega)
      have q := h2 p (by omega)
      rw [Nat.succ_mul]
      cases e : u.testBit p with
      | true => rw [q.1 e]; omega
      | false =>
        obtain ⟨z, r, s1, l1, _, _, b1, b2⟩ := q.2 e
        by_cases c : l1 = 0
        · have := OS.le hn (b2 c)
          omega
        · rw [b1 c]; omega
  intro p hp
  have q := key p (by omega)
  have : (p + 1) * g5 j ≤ 5 * g5 j := Nat.mul_le_mul_right _ (by omega)
  rw [Nat.succ_mul] at this
  show (seq p).1 + g5 j ≤ a.1 + 5 * g5 j
  omega
section ORD
variable {B : Bk} {Y : List Py} {n : Nat}
theorem ex_OS (hI : IvA B) (hY : ∀ z ∈ Y, z.1 < nN B ∧ z.2.1 < nN B ∧ z.1 ≠ z.2.1 ∧ 1 ≤ z.2.2 ∧ z.2.2 ≤ 9999) (hn : n = Y.length) : ∀ (j k : Nat) (ord : Nat → Nat) (u : Nat) (s : Nat → Int) (a : OFd), SI 8 B s → ∃ a', OS (nN B) n Y j k ord u s a a' := by
  intro j
  induction j with
  | zero => intro k ord u s a _; exact ⟨_, rfl⟩
  | succ j ih =>
    intro k ord u s a hS
    have key : ∀ m, m ≤ n → ∃ seq : Nat → OFd, seq 0 = a ∧ ∀ p, p < m → (u.testBit p = true → seq (p + 1) = seq p) ∧ (u.testBit p = false → ∃ z r s1 l1, Y[p]? = some z ∧ Snd (nN B) z.1 z.2.1 r s z.2.2 s1 l1 ∧ (l1 ≠ 0 → seq (p + 1) = seq p) ∧ (l1 = 0 → OS (nN B) n Y j (k + 1) (up1n ord k p) (u ||| 2 ^ p) s1 (seq p) (seq (p + 1)))) := by
      intro m
      induction m with
      | zero => intro _; exact ⟨fun _ => a, rfl, fun p hp => by omega⟩
      | succ m ihm =>
        intro hm
        obtain ⟨seq, h0, h2⟩ := ihm (by omega)
        have nxt : ∃ b : OFd, (u.testBit m = true → b = seq m) ∧ (u.testBit m = false → ∃ z r s1 l1, Y[m]? = some z ∧ Snd (nN B) z.1 z.2.1 r s z.2.2 s1 l1 ∧ (l1 ≠ 0 → b = seq m) ∧ (l1 = 0 → OS (nN B) n Y j (k + 1) (up1n ord k m) (u ||| 2 ^ m) s1 (seq m) b)) := by
          cases e : u.testBit m with
          | true => exact ⟨seq m, fun _ => rfl, fun q => by cases q⟩
          | false =>
            obtain ⟨z, hz⟩ := get_k (r := Y) (k := m) (by omega)
            have yz := hY z (List.mem_of_getElem? hz)
            obtain ⟨r, s1, l1, h1, _⟩ := snd_ex hI yz.1 yz.2.1 yz.2.2.1 hS (l := z.2.2) (by omega)
            have q := Prun.si hI yz.1 yz.2.1 yz.2.2.1 h1.1 hS (by omega)
            by_cases c : l1 = 0
            · obtain ⟨b, hb⟩ := ih (k + 1) (up1n ord k m) (u ||| 2 ^ m) s1 (seq m) q.1
              exact ⟨b, fun q => (by cases q), fun _ => ⟨z, r, s1, l1, hz, h1, fun q => absurd c q, fun _ => hb⟩⟩
            · exact ⟨seq m, fun q => (by cases q), fun _ => ⟨z, r, s1, l1, hz, h1, fun _ => rfl, fun q => absurd q c⟩⟩
        obtain ⟨b, hb⟩ := nxt
        refine ⟨fun p => if p = m + 1 then b else seq p, by (try dsimp only); rw [if_neg (by omega)]; exact h0, fun p hp => ?_⟩
        (try dsimp only)
        rw [if_neg (show ¬ p = m + 1 by omega)]
        by_cases c : p = m
        · subst c
          rw [if_pos rfl]
          exact hb
        · rw [if_neg (show ¬ p + 1 = m + 1 by omega)]
          exact h2 p (by omega)
    obtain ⟨seq, h0, h2⟩ := key n (Nat.le_refl _)
    exact ⟨seq n, seq, h0, rfl, h2⟩
theorem s_goOn (hI : IvA B) (hY : ∀ z ∈ Y, z.1 < nN B ∧ z.2.1 < nN B ∧ z.1 ≠ z.2.1 ∧ 1 ≤ z.2.2 ∧ z.2.2 ≤ 9999) (hn : n = Y.length) (hn5 : n ≤ 5) : ∀ (j dep k : Nat) (ord : Nat → Nat) (u : Nat) (s : Nat → Int) (a a' : OFd) (σ : Mem) (Q : Mem → Prop), k + j = n → j < dep → u < 256 → OS (nN B) n Y j k ord u s a a' → a.1 + g5 j ≤ 100000 → SI 8 B s → σ 14 0 = (nN B : Int) → (∀ i, i < 64 → σ 15 i = s i) → CA Y σ → σ 23 3 = (a.1 : Int) → (0 < a.1 → ∀ i, i < n → σ 31 i = ((a.2 i : Nat) : Int)) → (∀ i, i < k → σ 30 i = ((ord i : Nat) : Int)) → (∀ σ', σ' 14 0 = (nN B : Int) → σ' 23 3 = (a'.1 : Int) → (0 < a'.1 → ∀ i, i < n → σ' 31 i = ((a'.2 i : Nat) : Int)) → (∀ i, i < k → σ' 30 i = ((ord i : Nat) : Int)) → (∀ d, d < k → σ' (25 + d) = σ (25 + d)) → (∀ i, ¬ (14 ≤ i ∧ i ≤ 31) → σ' i = σ i) → Q σ') → wRX8_goOn dep (k : Int) (u : Int) σ Q := by
  intro j
  induction j with
  | zero =>
    intro dep k ord u s a a' σ Q ek hd hu hO hg hS e0 eS hA e3 eF eO h
    obtain ⟨dep, rfl⟩ : ∃ d, dep = d + 1 := ⟨dep - 1, by omega⟩
    have ea : a' = (a.1 + 1, if a.1 = 0 then ord else a.2) := hO
    have e1 : a'.1 = a.1 + 1 := by rw [ea]
    have e2 : a'.2 = if a.1 = 0 then ord else a.2 := by rw [ea]
    have gz : g5 0 = 1 := rfl
    rw [gz] at hg
    show wBX8_goOn (wRX8_goOn dep) (k : Int) (u : Int) σ Q
    unfold wBX8_goOn
    rw [hA.1]
    refine ⟨fun z => absurd z (by omega), fun _ => ⟨fun z => ?_, fun z => ?_⟩⟩
    · unfold wX8_goOn_29
      rintro m1 d1
      rw [e3, w32_id (by omega) (by omega)] at d1
      refine h m1 (by rw [d1, up2_ne (by omega)]; exact e0) (by rw [d1, up2_eq, e1]; rfl) (fun _ i hi => ?_) (fun i hi => by rw [d1, up2_ne (by omega)]; exact eO i hi) (fun d hd => by rw [d1, up2_ne (by omega)]) (fun i hi => by rw [d1, up2_ne (by omega)])
      rw [e2, if_neg (by omega), d1, up2_ne (by omega)]
      exact eF (by omega) i hi
    · rintro m3 d3
      unfold wX8_goOn_29
      rintro m1 d1
      have q3 : m3 23 3 = (a.1 : Int) := by rw [d3, upA_ne (by omega)]; exact e3
      rw [q3, w32_id (by omega) (by omega)] at d1
      refine h m1 (by rw [d1, up2_ne (by omega), d3, upA_ne (by omega)]; exact e0) (by rw [d1, up2_eq, e1]; rfl) (fun _ i hi => ?_) (fun i hi => by rw [d1, up2_ne (by omega), d3, upA_ne (by omega)]; exact eO i hi) (fun d hd => by rw [d1, up2_ne (by omega), d3, upA_ne (by omega)]) (fun i hi => by rw [d1, up2_ne (by omega), d3, upA_ne (by omega)])
      rw [e2, if_pos (by omega), d1, up2_ne (by omega), d3, upA_eq, acp_64 (by omega)]
      exact eO i (by omega)
  | succ j ih =>
    intro dep k ord u s a a' σ Q ek hd hu hO hg hS e0 eS hA e3 eF eO h
    obtain ⟨dep, rfl⟩ : ∃ d, dep = d + 1 := ⟨dep - 1, by omega⟩
    obtain ⟨seq, h0, h1, h2⟩ := hO
    have mid := OS.mid hn5 h0 h2
    show wBX8_goOn (wRX8_goOn dep) (k : Int) (u : Int) σ Q
    unfold wBX8_goOn
    rw [hA.1]
    refine ⟨fun _ => ⟨fun _ => ⟨⟨by omega, by omega⟩, ?_⟩, fun z => absurd (by omega) z⟩, fun z => absurd (by omega) z⟩
    rw [tn]
    rintro m2 d2
    unfold wLX8_goOn_66
    refine lp_for (fun p y τ => y = ((k : Int), (u : Int), (p : Int)) ∧ τ 14 0 = (nN B : Int) ∧ (∀ i, i < 64 → τ (25 + k) i = s i) ∧ τ 23 3 = ((seq p).1 : Int) ∧ (0 < (seq p).1 → ∀ i, i < n → τ 31 i = (((seq p).2 i : Nat) : Int)) ∧ (∀ i, i < k → τ 30 i = ((ord i : Nat) : Int)) ∧ (∀ d, d < k → τ (25 + d) = σ (25 + d)) ∧ (∀ i, ¬ (14 ≤ i ∧ i ≤ 31) → τ i = σ i)) n ?_ ?_ _ _ ⟨rfl, by rw [d2, upA_ne (by omega)]; exact e0, fun i hi => by rw [d2, upA_eq, acp_64 hi]; exact eS i hi, by rw [d2, upA_ne (by omega), h0]; exact e3, fun q i hi => by rw [d2, upA_ne (by omega), h0]; exact eF (by rw [h0] at q; exact q) i hi, fun i hi => by rw [d2, upA_ne (by omega)]; exact eO i hi, fun d hd => by rw [d2, upA_ne (by omega)], fun i hi => by rw [d2, upA_ne (by omega)]⟩
    · rintro p hp _ τ ⟨rfl, t0, tA, t3, tF, tO, tD, tf⟩ K hK
      dsimp only [wX8_goOn_66]
      have hAt : CA Y τ := ⟨by rw [tf 7 (by omega)]; exact hA.1, by rw [tf 9 (by omega), tf 10 (by omega), tf 11 (by omega)]; exact hA.2⟩
      have wp : w32 ((p : Int) + 1) = ((p + 1 : Nat) : Int) := by rw [w32_id (by omega) (by omega)]; rfl
      have t := tb1 (x := u) (o := p) hu (by omega)
      have st := h2 p hp
      rw [hAt.1, wp]
      refine ⟨fun z => absurd z (by omega), fun _ => ⟨fun z => ⟨⟨by omega, by omega⟩, ?_⟩, fun z => ?_⟩⟩
      · have hb : u.testBit p = false := by
          cases e : u.testBit p with
          | true => exact absurd (t.1.mpr e) z
          | false => rfl
        obtain ⟨y, r, s1, l1, hy, hs, c1, c2⟩ := st.2 hb
        have yz := hY y (List.mem_of_getElem? hy)
        have q := Prun.si hI yz.1 yz.2.1 yz.2.2.1 hs.1 hS (by omega)
        rintro m3 d3
        rw [tn] at d3
        refine ⟨⟨by omega, by omega⟩, ?_⟩
        rintro _ rfl
        have ay := hAt.2 p y hy
        have g9 : ∀ i, i ≠ 15 → m3 i = τ i := fun i hi => by rw [d3, upA_ne hi]
        rw [tn, g9 9 (by omega), g9 10 (by omega), g9 11 (by omega), ay.1, ay.2.1, ay.2.2]
        refine ⟨⟨by omega, by omega⟩, ⟨by omega, by omega⟩, ?_⟩
        refine s_send (m := 8) (s := s) hI yz.1 yz.2.1 yz.2.2.1 (by rw [g9 14 (by omega)]; exact t0) (fun i hi => by rw [d3, upA_eq, acp_64 hi]; exact tA i hi) hS (by omega) (by omega) hs (fun σ4 k0 k15 k10 kR kf => ⟨fun z2 => ?_, fun z2 => ⟨⟨by omega, by omega⟩, ?_⟩⟩)
        · rintro _ rfl
          have f4 : ∀ i, ¬ (14 ≤ i ∧ i ≤ 22) → σ4 i = τ i := fun i hi => by rw [kf i (by omega)]; exact g9 i (by omega)
          rw [← c1 (by omega)] at t3 tF
          exact hK _ _ ⟨rfl, k0, fun i hi => by rw [f4 _ (by omega)]; exact tA i hi, by rw [f4 23 (by omega)]; exact t3, fun q i hi => by rw [f4 31 (by omega)]; exact tF q i hi, fun i hi => by rw [f4 30 (by omega)]; exact tO i hi, fun d hd => by rw [f4 _ (by omega)]; exact tD d hd, fun i hi => by rw [f4 i (by omega)]; exact tf i hi⟩
        · have f4 : ∀ i, ¬ (14 ≤ i ∧ i ≤ 22) → σ4 i = τ i := fun i hi => by rw [kf i (by omega)]; exact g9 i (by omega)
          rintro m7 d7
          rw [tn] at d7
          have f7 : ∀ i, i ≠ 30 → m7 i = σ4 i := fun i hi => by rw [d7, up2_ne hi]
          have hul : (u ||| 2 ^ p) < 256 := (bor_nat hu (pc_pow p (by omega)).2).2
          rw [show w32 ((k : Int) + 1) = ((k + 1 : Nat) : Int) by rw [w32_id (by omega) (by omega)]; rfl, bsl_all p (by omega), (bor_nat hu (pc_pow p (by omega)).2).1]
          refine ih dep (k + 1) (up1n ord k p) (u ||| 2 ^ p) s1 (seq p) (seq (p + 1)) m7 _ (by omega) (by omega) hul (c2 (by omega)) (by have := mid p hp; omega) q.1 (by rw [f7 14 (by omega)]; exact k0) (fun i hi => by rw [f7 15 (by omega)]; exact k15 i hi) ⟨by rw [f7 7 (by omega), f4 7 (by omega)]; exact hAt.1, by rw [f7 9 (by omega), f7 10 (by omega), f7 11 (by omega), f4 9 (by omega), f4 10 (by omega), f4 11 (by omega)]; exact hAt.2⟩ (by rw [f7 23 (by omega), f4 23 (by omega)]; exact t3) (fun q i hi => by rw [f7 31 (by omega), f4 31 (by omega)]; exact tF q i hi) (fun i hi => ?_) (fun σ8 b0 b3 bF bO bD bf => ?_)
          · rw [d7, up2_app]
            unfold up1n
            by_cases c : i = k
            · rw [if_pos ⟨rfl, c⟩, if_pos c]
            · rw [if_neg (fun z => c z.2), if_neg c, f4 30 (by omega)]; exact tO i (by omega)
          · rintro _ rfl
            refine hK _ _ ⟨rfl, b0, fun i hi => ?_, b3, bF, fun i hi => ?_, fun d hd => ?_, fun i hi => ?_⟩
            · rw [bD k (by omega), f7 _ (by omega), f4 _ (by omega)]; exact tA i hi
            · rw [bO i (by omega)]
              unfold up1n
              rw [if_neg (by omega)]
            · rw [bD d (by omega), f7 _ (by omega), f4 _ (by omega)]; exact tD d hd
            · rw [bf i hi, f7 i (by omega), f4 i (by omega)]; exact tf i hi
      · rintro _ rfl
        rw [← st.1 (t.1.mp z)] at t3 tF
        exact hK _ _ ⟨rfl, t0, tA, t3, tF, tO, tD, tf⟩
    · rintro _ τ ⟨rfl, t0, tA, t3, tF, tO, tD, tf⟩ K
      dsimp only [wX8_goOn_66]
      rw [h1] at t3 tF
      refine ⟨fun _ => h τ t0 t3 tF tO tD tf, fun z => absurd (by rw [tf 7 (by omega), hA.1]; omega) z⟩
end ORD
