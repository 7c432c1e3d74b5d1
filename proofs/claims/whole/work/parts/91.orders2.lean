/-! the reference's search for orders -/
section MORD
variable {B : Bk} {Y : List Py} {n : Nat} {R : List Int}
theorem m_tryOrders (hI : IvA B) (hZ : IvB B) (hY : ∀ z ∈ Y, z.1 < nN B ∧ z.2.1 < nN B ∧ z.1 ≠ z.2.1 ∧ 1 ≤ z.2.2 ∧ z.2.2 ≤ 9999) (hn : n = Y.length) (hn5 : n ≤ 5) : ∀ (j dep k : Nat) (ord : Nat → Nat) (u : Nat) (s : Nat → Int) (a a' : OFd) (σ : Mem) (Q : Mem → Prop), k + j = n → j < dep → u < 256 → OS (nN B) n Y j k ord u s a a' → a.1 + g5 j ≤ 100000 → SI 8 B s → MN σ (GM 8 B s) → σ 300 14 = -1 → MR R σ → MA Y σ → σ 300 23 = (a.1 : Int) → (0 < a.1 → ∀ i, i < n → σ 322 i = ((a.2 i : Nat) : Int)) → (∀ i, i < k → σ 321 i = ((ord i : Nat) : Int)) → (∀ σ', MN σ' (GM 8 B s) → MR R σ' → σ' 300 23 = (a'.1 : Int) → (0 < a'.1 → ∀ i, i < n → σ' 322 i = ((a'.2 i : Nat) : Int)) → (∀ i, i < k → σ' 321 i = ((ord i : Nat) : Int)) → (∀ c, c < 405 * k → σ' 323 c = σ 323 c) → (∀ i, i ≠ 300 → i ≠ 301 → i ≠ 304 → i ≠ 312 → i ≠ 313 → i ≠ 316 → i ≠ 321 → i ≠ 322 → i ≠ 323 → σ' i = σ i) → (∀ j, j ≠ 4 → j ≠ 13 → j ≠ 16 → j ≠ 17 → j ≠ 23 → σ' 300 j = σ 300 j) → Q σ') → wRX11_tryOrders dep (k : Int) (u : Int) (n : Int) σ Q := by
  intro j
  induction j with
  | zero =>
    intro dep k ord u s a a' σ Q ek hd hu hO hg hS hM hb hR hA e3 eF eO h
    obtain ⟨dep, rfl⟩ : ∃ d, dep = d + 1 := ⟨dep - 1, by omega⟩
    have ea : a' = (a.1 + 1, if a.1 = 0 then ord else a.2) := hO
    have e1 : a'.1 = a.1 + 1 := by rw [ea]
    have e2 : a'.2 = if a.1 = 0 then ord else a.2 := by rw [ea]
    have gz : g5 0 = 1 := rfl
    rw [gz] at hg
    obtain rfl : k = n := by omega
    show wBX11_tryOrders (wRX11_tryOrders dep) (k : Int) (u : Int) (k : Int) σ Q
    unfold wBX11_tryOrders
    refine ⟨fun z => absurd rfl z, fun _ => ?_⟩
    have fin : ∀ τ : Mem, τ 300 = σ 300 → (∀ i, i ≠ 322 → τ i = σ i) → (∀ i, i < k → τ 322 i = ((a'.2 i : Nat) : Int)) → wX11_tryOrders_41 (wRX11_tryOrders dep) Q τ := fun τ t300 tf t322 => by
      unfold wX11_tryOrders_41
      rintro m1 d1
      rw [t300, e3, w32_id (by omega) (by omega)] at d1
      have g : ∀ i, i ≠ 300 → i ≠ 322 → m1 i = σ i := fun i b1 b2 => by rw [d1, up2_ne b1]; exact tf i b2
      have gj : ∀ j, j ≠ 23 → m1 300 j = σ 300 j := fun j hj => by rw [d1, up2_nj hj, t300]
      exact h m1 (by unfold MN; rw [g 301 (by omega) (by omega)]; exact hM) (hR.fr (gj 4 (by omega)) (g 304 (by omega) (by omega))) (by rw [d1, up2_eq, e1]; rfl) (fun _ i hi => by rw [d1, up2_ne (by omega)]; exact t322 i hi) (fun i hi => by rw [g 321 (by omega) (by omega)]; exact eO i hi) (fun c _ => by rw [g 323 (by omega) (by omega)]) (fun i b1 _ _ _ _ _ _ b8 _ => g i b1 b8) (fun j _ _ _ _ b5 => gj j b5)
    unfold wLX11_tryOrders_8
    by_cases c : a.1 = 0
    · rw [if_pos c] at e2
      refine lp_for (fun i y τ => y = ((k : Int), (i : Int)) ∧ τ 300 = σ 300 ∧ (∀ i, i ≠ 322 → τ i = σ i) ∧ ∀ c, c < i → τ 322 c = ((ord c : Nat) : Int)) k ?_ ?_ _ _ ⟨rfl, rfl, fun _ _ => rfl, fun c hc => by omega⟩
      · rintro i hi _ τ ⟨rfl, t300, tf, t322⟩ K hK
        dsimp only [wX11_tryOrders_8]
        rw [t300, e3]
        refine ⟨fun z => absurd z (by omega), fun _ => ⟨fun z => absurd (by omega) z, fun _ => ⟨⟨by omega, by omega⟩, ⟨by omega, by omega⟩, ?_⟩⟩⟩
        rintro m1 d1 _ rfl
        rw [tn] at d1
        refine hK _ _ ⟨by rw [w32_id (by omega) (by omega)]; rfl, by rw [d1, up2_ne (by omega)]; exact t300, fun c hc => by rw [d1, up2_ne hc]; exact tf c hc, fun c hc => ?_⟩
        rw [d1, up2_app]
        by_cases q : c = i
        · rw [if_pos ⟨rfl, q⟩, tf 321 (by omega), q]; exact eO i hi
        · rw [if_neg (fun z => q z.2)]; exact t322 c (by omega)
      · rintro _ τ ⟨rfl, t300, tf, t322⟩ K
        dsimp only [wX11_tryOrders_8]
        refine ⟨fun _ => fin τ t300 tf (fun i hi => by rw [e2]; exact t322 i hi), fun z => absurd (Int.le_refl _) z⟩
    · rw [if_neg c] at e2
      refine ⟨1, ?_⟩
      show wX11_tryOrders_8 (wRX11_tryOrders dep) _ Q (k : Int) 0 σ
      unfold wX11_tryOrders_8
      have f := fin σ rfl (fun _ _ => rfl) (fun i hi => by rw [e2]; exact eF (by omega) i hi)
      exact ⟨fun _ => f, fun _ => ⟨fun _ => f, fun z => absurd z (by rw [e3]; omega)⟩⟩
  | succ j ih =>
    intro dep k ord u s a a' σ Q ek hd hu hO hg hS hM hb hR hA e3 eF eO h
    obtain ⟨dep, rfl⟩ : ∃ d, dep = d + 1 := ⟨dep - 1, by omega⟩
    obtain ⟨seq, h0, h1, h2⟩ := hO
    have mid := OS.mid hn5 h0 h2
    show wBX11_tryOrders (wRX11_tryOrders dep) (k : Int) (u : Int) (n : Int) σ Q
    unfold wBX11_tryOrders
    refine ⟨fun _ => ?_, fun z => absurd z (by omega)⟩
    unfold wLX11_tryOrders_55
    refine lp_for (fun i y τ => y = ((k : Int), (u : Int), (n : Int), (i : Int)) ∧ (∀ c, τ 323 c = if 405 * k ≤ c ∧ c < 405 * k + i then σ 301 (c - 405 * k) else σ 323 c) ∧ ∀ c, c ≠ 323 → τ c = σ c) 405 ?_ ?_ _ _ ⟨rfl, fun c => by rw [if_neg (by omega)], fun _ _ => rfl⟩
    · rintro i hi _ τ ⟨rfl, tz, tf⟩ K hK
      dsimp only [wX11_tryOrders_55]
      rw [w32_id (a := 405 * (k : Int)) (by omega) (by omega), w32n (x := 405 * (k : Int) + (i : Int)) (405 * k + i) (by omega) (by omega), tn, tn]
      refine ⟨(fun hno => absurd hno (by omega)), fun _ => ⟨⟨by omega, by omega⟩, ⟨by omega, by omega⟩, ?_⟩⟩
      rintro m1 d1 _ rfl
      refine hK _ _ ⟨by rw [w32_id (by omega) (by omega)]; rfl, fun c => ?_, fun c hc => by rw [d1, up2_ne hc]; exact tf c hc⟩
      rw [d1, up2_app, tf 301 (by omega), tz c]
      by_cases q : c = 405 * k + i
      · rw [if_pos ⟨rfl, q⟩, if_pos (by omega)]; congr 1; omega
      · rw [if_neg (fun z => q z.2)]
        by_cases q2 : 405 * k ≤ c ∧ c < 405 * k + i
        · rw [if_pos q2, if_pos (by omega)]
        · rw [if_neg q2, if_neg (by omega)]
    · rintro _ τ0 ⟨rfl, tz, tf⟩ K
      dsimp only [wX11_tryOrders_55]
      refine ⟨fun _ => ?_, (fun hno => absurd hno (by omega))⟩
      have S0 : MB (τ0 323) (405 * k) (GM 8 B s) := hM.cp (fun c hc => by rw [tz, if_pos (by omega)]; congr 1; omega)
      have L0 : ∀ c, c < 405 * k → τ0 323 c = σ 323 c := fun c hc => by rw [tz, if_neg (by omega)]
      unfold wLX11_tryOrders_92
      refine lp_for (fun p y τ => y = ((k : Int), (u : Int), (n : Int), (p : Int)) ∧ MN τ (GM 8 B s) ∧ MR R τ ∧ τ 300 23 = ((seq p).1 : Int) ∧ (0 < (seq p).1 → ∀ i, i < n → τ 322 i = (((seq p).2 i : Nat) : Int)) ∧ (∀ i, i < k → τ 321 i = ((ord i : Nat) : Int)) ∧ (∀ c, c < 405 * (k + 1) → τ 323 c = τ0 323 c) ∧ (∀ i, i ≠ 300 → i ≠ 301 → i ≠ 304 → i ≠ 312 → i ≠ 313 → i ≠ 316 → i ≠ 321 → i ≠ 322 → i ≠ 323 → τ i = σ i) ∧ ∀ j, j ≠ 4 → j ≠ 13 → j ≠ 16 → j ≠ 17 → j ≠ 23 → τ 300 j = σ 300 j) n ?_ ?_ _ _ ⟨rfl, by unfold MN; rw [tf 301 (by omega)]; exact hM, hR.fr (by rw [tf 300 (by omega)]) (tf 304 (by omega)), by rw [tf 300 (by omega), h0]; exact e3, fun q i hi => by rw [tf 322 (by omega), h0]; exact eF (by rw [h0] at q; exact q) i hi, fun i hi => by rw [tf 321 (by omega)]; exact eO i hi, fun _ _ => rfl, fun i _ _ _ _ _ _ _ _ b => tf i b, fun j _ _ _ _ _ => by rw [tf 300 (by omega)]⟩
      · rintro p hp _ τ ⟨rfl, tM, tR, t3, tF, tO, tD, tf', tj⟩ K2 hK2
        dsimp only [wX11_tryOrders_92]
        have wp : w32 ((p : Int) + 1) = ((p + 1 : Nat) : Int) := by rw [w32_id (by omega) (by omega)]; rfl
        have t := tb1 (x := u) (o := p) hu (by omega)
        have st := h2 p hp
        rw [wp]
        refine ⟨fun z => absurd z (by omega), fun _ => ⟨fun z => ⟨⟨by omega, by omega⟩, ?_⟩, fun z => ?_⟩⟩
        · have hbf : u.testBit p = false := by
            cases e : u.testBit p with
            | true => exact absurd (t.1.mpr e) z
            | false => rfl
          obtain ⟨y, r, s1, l1, hy, hs, c1, c2⟩ := st.2 hbf
          have yz := hY y (List.mem_of_getElem? hy)
          have q := Prun.si hI yz.1 yz.2.1 yz.2.2.1 hs.1 hS (by omega)
          rintro m1 d1
          rw [tn] at d1
          have g1 : ∀ i, i ≠ 321 → m1 i = τ i := fun i hi => by rw [d1, up2_ne hi]
          have ay : m1 310 (3 * p) = ((y.1 : Nat) : Int) ∧ m1 310 (3 * p + 1) = ((y.2.1 : Nat) : Int) ∧ m1 310 (3 * p + 2) = y.2.2 := by
            rw [g1 310 (by omega), tf' 310 (by omega) (by omega) (by omega) (by omega) (by omega) (by omega) (by omega) (by omega) (by omega)]
            exact hA p y hy
          have o1 : ∀ i, i < k + 1 → m1 321 i = ((up1n ord k p i : Nat) : Int) := fun i hi => by
            rw [d1, up2_app]
            unfold up1n
            by_cases c : i = k
            · rw [if_pos ⟨rfl, c⟩, if_pos c]
            · rw [if_neg (fun z => c z.2), if_neg c]; exact tO i (by omega)
          -- all is laid back
          have back : ∀ ρ : Mem, MR R ρ → ρ 300 23 = ((seq (p + 1)).1 : Int) → (0 < (seq (p + 1)).1 → ∀ i, i < n → ρ 322 i = (((seq (p + 1)).2 i : Nat) : Int)) → (∀ i, i < k → ρ 321 i = ((ord i : Nat) : Int)) → (∀ c, c < 405 * (k + 1) → ρ 323 c = τ0 323 c) → (∀ i, i ≠ 300 → i ≠ 301 → i ≠ 304 → i ≠ 312 → i ≠ 313 → i ≠ 316 → i ≠ 321 → i ≠ 322 → i ≠ 323 → ρ i = σ i) → (∀ j, j ≠ 4 → j ≠ 13 → j ≠ 16 → j ≠ 17 → j ≠ 23 → ρ 300 j = σ 300 j) → wX11_tryOrders_142 (wRX11_tryOrders dep) K2 Q (k : Int) (u : Int) (n : Int) (p : Int) ρ := by
            intro ρ rR r3 rF rO rD rf rj
            unfold wX11_tryOrders_142 wLX11_tryOrders_145
            refine lp_for (fun i y τ => y = ((k : Int), (u : Int), (n : Int), (p : Int), (i : Int)) ∧ (∀ c, c < i → τ 301 c = τ0 323 (405 * k + c)) ∧ ∀ c, c ≠ 301 → τ c = ρ c) 405 ?_ ?_ _ _ ⟨rfl, fun c hc => by omega, fun _ _ => rfl⟩
            · rintro i hi _ τ2 ⟨rfl, zz, zf⟩ K3 hK3
              dsimp only [wX11_tryOrders_145]
              rw [w32_id (a := 405 * (k : Int)) (by omega) (by omega), w32n (x := 405 * (k : Int) + (i : Int)) (405 * k + i) (by omega) (by omega), tn, tn, zf 323 (by omega), rD _ (by omega)]
              refine ⟨(fun hno => absurd hno (by omega)), fun _ => ⟨⟨by omega, by omega⟩, ⟨by omega, by omega⟩, ?_⟩⟩
              rintro m2 d2 _ rfl
              refine hK3 _ _ ⟨by rw [w32_id (by omega) (by omega)]; rfl, fun c hc => ?_, fun c hc => by rw [d2, up2_ne hc]; exact zf c hc⟩
              rw [d2, up2_app]
              by_cases q : c = i
              · rw [if_pos ⟨rfl, q⟩, q]
              · rw [if_neg (fun z => q z.2)]; exact zz c (by omega)
            · rintro _ τ2 ⟨rfl, zz, zf⟩ K3
              dsimp only [wX11_tryOrders_145]
              refine ⟨fun _ => ?_, (fun hno => absurd hno (by omega))⟩
              rintro _ rfl
              rw [wp]
              exact hK2 _ _ ⟨rfl, S0.cp (fun c hc => by rw [Nat.zero_add]; exact zz c hc), rR.fr (by rw [zf 300 (by omega)]) (zf 304 (by omega)), by rw [zf 300 (by omega)]; exact r3, fun q i hi => by rw [zf 322 (by omega)]; exact rF q i hi, fun i hi => by rw [zf 321 (by omega)]; exact rO i hi, fun c hc => by rw [zf 323 (by omega)]; exact rD c hc, fun i b1 b2 b3 b4 b5 b6 b7 b8 b9 => by rw [zf i b2]; exact rf i b1 b2 b3 b4 b5 b6 b7 b8 b9, fun j b1 b2 b3 b4 b5 => by rw [zf 300 (by omega)]; exact rj j b1 b2 b3 b4 b5⟩
          unfold wX11_goRead
          rw [w32n (x := 3 * (p : Int)) (3 * p) (by omega) (by omega), w32n (x := ((3 * p : Nat) : Int) + 1) (3 * p + 1) (by omega) (by omega), w32n (x := ((3 * p : Nat) : Int) + 2) (3 * p + 2) (by omega) (by omega), tn, tn, tn, ay.1, ay.2.1, ay.2.2]
          refine ⟨by omega, by omega, by omega, ?_⟩
          have b1' : m1 300 14 = -1 := by rw [g1 300 (by omega), tj 14 (by omega) (by omega) (by omega) (by omega) (by omega)]; exact hb
          refine m_goPay (m := 8) (s := s) (R := R) (by unfold MN; rw [g1 301 (by omega)]; exact tM) hI hZ hS (nobar b1') yz.1 yz.2.1 yz.2.2.1 yz.2.2.2 (tR.fr (by rw [g1 300 (by omega)]) (g1 304 (by omega))) hs (fun σ4 M4 R4 f4 _ j4 => ?_)
          have F4 : ∀ i, i ≠ 300 → i ≠ 301 → i ≠ 304 → i ≠ 312 → i ≠ 313 → i ≠ 316 → i ≠ 321 → σ4 i = τ i := fun i b1 b2 b3 b4 b5 b6 b7 => by rw [f4 i b1 b2 b3 b4 b5 b6]; exact g1 i b7
          have J4 : ∀ j, j ≠ 4 → j ≠ 13 → j ≠ 16 → j ≠ 17 → σ4 300 j = τ 300 j := fun j b1 b2 b3 b4 => by rw [j4 j b1 b2 b3 b4, g1 300 (by omega)]
          have O4 : ∀ i, i < k + 1 → σ4 321 i = ((up1n ord k p i : Nat) : Int) := fun i hi => by rw [f4 321 (by omega) (by omega) (by omega) (by omega) (by omega) (by omega)]; exact o1 i hi
          have ok : ∀ i, i < k → up1n ord k p i = ord i := fun i hi => by unfold up1n; rw [if_neg (by omega)]
          by_cases hl : l1 = 0
          · rw [if_pos hl] at M4 ⊢
            refine ⟨Or.inr rfl, fun z => absurd z (by decide), fun _ => ?_⟩
            have hul : (u ||| 2 ^ p) < 256 := (bor_nat hu (pc_pow p (by omega)).2).2
            rw [show w32 ((k : Int) + 1) = ((k + 1 : Nat) : Int) by rw [w32_id (by omega) (by omega)]; rfl, bsl_all p (by omega), (bor_nat hu (pc_pow p (by omega)).2).1]
            refine ih dep (k + 1) (up1n ord k p) (u ||| 2 ^ p) s1 (seq p) (seq (p + 1)) σ4 _ (by omega) (by omega) hul (c2 hl) (by have := mid p hp; omega) q.1 M4 (by rw [J4 14 (by omega) (by omega) (by omega) (by omega), tj 14 (by omega) (by omega) (by omega) (by omega) (by omega)]; exact hb) R4 ?_ (by rw [J4 23 (by omega) (by omega) (by omega) (by omega)]; exact t3) (fun q i hi => by rw [F4 322 (by omega) (by omega) (by omega) (by omega) (by omega) (by omega) (by omega)]; exact tF q i hi) O4 (fun σ5 M5 R5 k5 F5 O5 D5 f5 j5 => ?_)
            · intro i z hz
              rw [F4 310 (by omega) (by omega) (by omega) (by omega) (by omega) (by omega) (by omega), tf' 310 (by omega) (by omega) (by omega) (by omega) (by omega) (by omega) (by omega) (by omega) (by omega)]
              exact hA i z hz
            · refine back σ5 R5 k5 F5 (fun i hi => by rw [O5 i (by omega), ok i hi]) (fun c hc => ?_) (fun i b1 b2 b3 b4 b5 b6 b7 b8 b9 => ?_) (fun j b1 b2 b3 b4 b5 => ?_)
              · rw [D5 c hc, F4 323 (by omega) (by omega) (by omega) (by omega) (by omega) (by omega) (by omega)]; exact tD c hc
              · rw [f5 i b1 b2 b3 b4 b5 b6 b7 b8 b9, F4 i b1 b2 b3 b4 b5 b6 b7]; exact tf' i b1 b2 b3 b4 b5 b6 b7 b8 b9
              · rw [j5 j b1 b2 b3 b4 b5, J4 j b1 b2 b3 b4]; exact tj j b1 b2 b3 b4 b5
          · rw [if_neg hl]
            refine ⟨Or.inl rfl, fun _ => ?_, fun z => absurd rfl z⟩
            rw [← c1 hl] at t3 tF
            refine back σ4 R4 (by rw [J4 23 (by omega) (by omega) (by omega) (by omega)]; exact t3) (fun q i hi => by rw [F4 322 (by omega) (by omega) (by omega) (by omega) (by omega) (by omega) (by omega)]; exact tF q i hi) (fun i hi => by rw [O4 i (by omega), ok i hi]) (fun c hc => ?_) (fun i b1 b2 b3 b4 b5 b6 b7 b8 b9 => ?_) (fun j b1 b2 b3 b4 b5 => ?_)
            · rw [F4 323 (by omega) (by omega) (by omega) (by omega) (by omega) (by omega) (by omega)]; exact tD c hc
            · rw [F4 i b1 b2 b3 b4 b5 b6 b7]; exact tf' i b1 b2 b3 b4 b5 b6 b7 b8 b9
            · rw [J4 j b1 b2 b3 b4]; exact tj j b1 b2 b3 b4 b5
        · rintro _ rfl
          rw [← st.1 (t.1.mp z)] at t3 tF
          exact hK2 _ _ ⟨rfl, tM, tR, t3, tF, tO, tD, tf', tj⟩
      · rintro _ τ ⟨rfl, tM, tR, t3, tF, tO, tD, tf', tj⟩ K2
        dsimp only [wX11_tryOrders_92]
        rw [h1] at t3 tF
        refine ⟨fun _ => h τ tM tR t3 tF tO (fun c hc => by rw [tD c (by omega)]; exact L0 c hc) tf' tj, fun z => absurd (Int.le_refl _) z⟩
end MORD
theorem OS.lt {N n : Nat} {Y : List Py} : ∀ {j k : Nat} {ord : Nat → Nat} {u : Nat} {s : Nat → Int} {a a' : OFd}, OS N n Y j k ord u s a a' → k + j = n → (∀ i, i < k → ord i < n) → (0 < a.1 → ∀ i, i < n → a.2 i < n) → 0 < a'.1 → ∀ i, i < n → a'.2 i < n
  | 0, k, ord, u, s, a, a', h, ek, ho, ha, _ => by
    have e : a' = (a.1 + 1, if a.1 = 0 then ord else a.2) := h
    rw [e]
    intro i hi
    dsimp only
    by_cases c : a.1 = 0
    · rw [if_pos c]; exact ho i (by omega)
    · rw [if_neg c]; exact ha (by omega) i hi
  | j + 1, k, ord, u, s, a, a', h, ek, ho, ha, hp => by
    obtain ⟨seq, h0, h1, h2⟩ := h
    have key : ∀ p, p ≤ n → 0 < (seq p).1 → ∀ i, i < n → (seq p).2 i < n := by
      intro p
      induction p with
      | zero => intro _ q i hi; rw [h0] at q ⊢; exact ha q i hi
      | succ p ih =>
        intro hpn q i hi
        have st := h2 p (by omega)
        cases e : u.testBit p with
        | true => rw [st.1 e] at q ⊢; exact ih (by omega) q i hi
        | false =>
          obtain ⟨z, r, s1, l1, _, _, b1, b2⟩ := st.2 e
          by_cases c : l1 = 0
          · refine OS.lt (b2 c) (by omega) (fun i hi => ?_) (ih (by omega)) q i hi
            unfold up1n
            split
            · omega
            · exact ho i (by omega)
          · rw [b1 c] at q ⊢; exact ih (by omega) q i hi
    have q := key n (Nat.le_refl _)
    rw [h1] at q
    exact q hp
theorem g5_5 : g5 0 = 1 ∧ g5 1 = 5 ∧ g5 2 = 25 ∧ g5 3 = 125 ∧ g5 4 = 625 ∧ g5 5 = 3125 := by decide
theorem g5_b {j : Nat} (h : j ≤ 5) : g5 j ≤ 3125 := by
  have := g5_5
  match j, h with
  | 0, _ => omega
  | 1, _ => omega
  | 2, _ => omega
  | 3, _ => omega
  | 4, _ => omega
  | 5, _ => omega
theorem op_orders : OpOK wX10_orders wX11_orders := by
  refine OpOK.of (fun X hI => ?_)
  have hN := hI.1.1.1
  have hT : TB X.2.2.2.1 := hI.2.2.2.1
  have hA := hI.1.1
  have hZ := hI.1.2.1
  cases hr : (payR X.2.2.2.1 (nN X.1) 5).1 with
  | some e =>
    refine ⟨-1 - (e : Int), wT X, fun σ Q hC h => ?_, fun σ Q hM h => ?_, xi_empt hI⟩
    · unfold wX10_orders
      rw [hC.1.1]
      refine s_readPay (lm := 5) hT hN.2 (by omega) hC.2.2.2.1 (fun e2 σ1 hr2 f1 => ?_) (fun σ1 hr2 _ _ => by rw [hr] at hr2; cases hr2)
      rw [hr] at hr2
      cases hr2
      unfold wX9_empty
      rintro m3 e3
      exact ⟨fun q => absurd q (by omega), fun _ => h m3 (by rw [e3]; exact hC.empt f1) (fun i hi => by rw [e3, up2_ne (by omega)]; exact f1 i (by omega))⟩
    · unfold wX11_orders
      rintro m1 rfl
      have hM1 := hM.thr (v := 0)
      unfold wX11_readPayments
      refine m_begin hM1 (fun σ2 M2 P2 f2 => ?_)
      refine m_readPay (X := wT X) (lm := 5) hT hN.2 (by omega) M2 rfl P2 (fun e2 σ3 hr2 e8 he M3 f3 => ?_) (fun σ3 hr2 _ _ _ => by rw [hr] at hr2; cases hr2)
      rw [hr] at hr2
      cases hr2
      refine ⟨fun q => absurd rfl q, fun _ => ?_⟩
      rw [e8, w32_id (by omega) (by omega)]
      exact h σ3 M3 (fun i hi => by rw [f3 i hi, f2 i (by omega), fr2 hi])
  | none =>
    have hY : YOK (nN X.1) 5 (payR X.2.2.2.1 (nN X.1) 5).2 := payF_ok 20 0 [] ⟨by simp, fun z hz => by simp at hz⟩
    obtain ⟨Y, eY⟩ : ∃ Y, Y = (payR X.2.2.2.1 (nN X.1) 5).2 := ⟨_, rfl⟩
    rw [← eY] at hY
    have yl := hY.1
    obtain ⟨a, hO⟩ := ex_OS (n := Y.length) hA hY.2 rfl Y.length 0 (fun _ => 0) 0 (sp X.1) (0, fun _ => 0) si_sp
    have ale := OS.le yl hO
    have gb := g5_b yl
    have ale' : a.1 ≤ 3125 := by simp at ale; omega
    obtain ⟨X', eX⟩ : ∃ X' : St, X' = if a.1 = 0 then wT X else wL (wT X) (wayR Y.length a.2 ++ [(a.1 : Int)]) := ⟨_, rfl⟩
    by_cases hc : a.1 = 0
    · rw [if_pos hc] at eX
      subst eX
      refine ⟨-200, wT X, fun σ Q hC h => ?_, fun σ Q hM h => ?_, xi_empt hI⟩
      · unfold wX10_orders
        rw [hC.1.1]
        refine s_readPay (lm := 5) hT hN.2 (by omega) hC.2.2.2.1 (fun e2 σ1 hr2 f1 => by rw [hr] at hr2; cases hr2) (fun σ1 _ A1 f1 => ?_)
        rw [← eY] at A1 ⊢
        unfold wX9_empty
        rintro m3 e3
        have S3 := hC.empt f1
        rw [← e3] at S3
        have A3 : CA Y m3 := ⟨by rw [e3, up2_ne (by omega)]; exact A1.1, by rw [e3, up2_ne (by omega), up2_ne (by omega), up2_ne (by omega)]; exact A1.2⟩
        refine ⟨fun _ => ?_, fun q => absurd (by omega) q⟩
        refine s_load (by omega) S3.1 hA hZ (fun σ4 g0 g15 g16 gf => ?_)
        unfold wX8_search wX8_goOn
        rintro m5 e5
        refine s_goOn hA hY.2 rfl yl Y.length 10 0 (fun _ => 0) 0 (sp X.1) (0, fun _ => 0) a m5 _ (by omega) (by omega) (by omega) hO (by simp; omega) si_sp (by rw [e5, up2_ne (by omega)]; exact g0) (fun i hi => by rw [e5, up2_ne (by omega)]; exact g15 i hi) ⟨by rw [e5, up2_ne (by omega), gf 7 (by omega) (by omega) (by omega)]; exact A3.1, by rw [e5, up2_ne (by omega), up2_ne (by omega), up2_ne (by omega), gf 9 (by omega) (by omega) (by omega), gf 10 (by omega) (by omega) (by omega), gf 11 (by omega) (by omega) (by omega)]; exact A3.2⟩ (by rw [e5, up2_eq]; rfl) (fun q => absurd q (by decide)) (fun i hi => by omega) (fun σ6 _ b3 bF _ _ bf => ?_)
        dsimp only
        rw [b3]
        refine ⟨fun q => absurd (by omega) q, fun _ => ?_⟩
        have F6 : ∀ i, ¬ (14 ≤ i ∧ i ≤ 31) → σ6 i = m3 i := fun i hi => by rw [bf i hi, e5, up2_ne (by omega)]; exact gf i (by omega) (by omega) (by omega)
        exact h σ6 (S3.fr (fun i a1 a2 a3 a4 => F6 i (by omega))) (fun i hi => by rw [F6 i (by omega), e3, up2_ne (by omega)]; exact f1 i (by omega))
      · unfold wX11_orders
        rintro m1 rfl
        have hM1 := hM.thr (v := 0)
        unfold wX11_readPayments
        refine m_begin hM1 (fun σ2 M2 P2 f2 => ?_)
        refine m_readPay (X := wT X) (lm := 5) hT hN.2 (by omega) M2 rfl P2 (fun e2 σ3 hr2 e8 he M3 f3 => by rw [show nN (wT X).1 = nN X.1 from rfl, hr] at hr2; cases hr2) (fun σ3 _ A3 M3 f3 => ?_)
        rw [show (payR X.2.2.2.1 (nN (wT X).1) 5).2 = Y from eY.symm] at A3 ⊢
        refine ⟨fun _ => ?_, fun q => absurd q (by omega)⟩
        rintro m4 e4
        have g4 : ∀ i, i ≠ 300 → m4 i = σ3 i := fun i hi => by rw [e4, up2_ne hi]
        have j4 : ∀ j, j ≠ 23 → m4 300 j = σ3 300 j := fun j hj => by rw [e4, up2_nj hj]
        have M4 : MSt (wT X) m4 := M3.fr (fun j hj => j4 j (by omega)) (fun i hi => g4 i (by omega))
        unfold wX11_tryOrders
        refine m_tryOrders (R := X.2.2.2.2) hA hZ hY.2 rfl yl Y.length 10 0 (fun _ => 0) 0 (sp X.1) (0, fun _ => 0) a m4 _ (by omega) (by omega) (by omega) hO (by simp; omega) si_sp (mn_gm M4.1) M4.2.2.2.2.2 M4.2.2.2.2.1 (fun i z hz => by rw [g4 310 (by omega)]; exact A3 i z hz) (by rw [e4, up2_eq]; rfl) (fun q => absurd q (by decide)) (fun i hi => by omega) (fun σ5 M5 R5 k5 F5 _ _ f5 j5 => ?_)
        rw [k5]
        refine ⟨fun q => absurd (by omega) q, fun _ => ?_⟩
        exact h σ5 (M4.back (mn_gm' M5) R5 (fun i hi => f5 i (by omega) (by omega) (by omega) (by omega) (by omega) (by omega) (by omega) (by omega) (by omega)) (fun j hj => j5 j (by omega) (by omega) (by omega) (by omega) (by omega))) (fun i hi => by rw [f5 i (by omega) (by omega) (by omega) (by omega) (by omega) (by omega) (by omega) (by omega) (by omega), g4 i (by omega), f3 i hi, f2 i (by omega), fr2 hi])
    · rw [if_neg hc] at eX
      subst eX
      refine ⟨(Y.length : Int), wL (wT X) (wayR Y.length a.2 ++ [(a.1 : Int)]), fun σ Q hC h => ?_, fun σ Q hM h => ?_, ?_⟩
      · unfold wX10_orders
        rw [hC.1.1]
        refine s_readPay (lm := 5) hT hN.2 (by omega) hC.2.2.2.1 (fun e2 σ1 hr2 f1 => by rw [hr] at hr2; cases hr2) (fun σ1 _ A1 f1 => ?_)
        rw [← eY] at A1 ⊢
        unfold wX9_empty
        rintro m3 e3
        have S3 := hC.empt f1
        rw [← e3] at S3
        have A3 : CA Y m3 := ⟨by rw [e3, up2_ne (by omega)]; exact A1.1, by rw [e3, up2_ne (by omega), up2_ne (by omega), up2_ne (by omega)]; exact A1.2⟩
        refine ⟨fun _ => ?_, fun q => absurd (by omega) q⟩
        refine s_load (by omega) S3.1 hA hZ (fun σ4 g0 g15 g16 gf => ?_)
        unfold wX8_search wX8_goOn
        rintro m5 e5
        refine s_goOn hA hY.2 rfl yl Y.length 10 0 (fun _ => 0) 0 (sp X.1) (0, fun _ => 0) a m5 _ (by omega) (by omega) (by omega) hO (by simp; omega) si_sp (by rw [e5, up2_ne (by omega)]; exact g0) (fun i hi => by rw [e5, up2_ne (by omega)]; exact g15 i hi) ⟨by rw [e5, up2_ne (by omega), gf 7 (by omega) (by omega) (by omega)]; exact A3.1, by rw [e5, up2_ne (by omega), up2_ne (by omega), up2_ne (by omega), gf 9 (by omega) (by omega) (by omega), gf 10 (by omega) (by omega) (by omega), gf 11 (by omega) (by omega) (by omega)]; exact A3.2⟩ (by rw [e5, up2_eq]; rfl) (fun q => absurd q (by decide)) (fun i hi => by omega) (fun σ6 _ b3 bF _ _ bf => ?_)
        dsimp only
        rw [b3]
        refine ⟨fun _ => ?_, fun q => absurd q (by omega)⟩
        have F6 : ∀ i, ¬ (14 ≤ i ∧ i ≤ 31) → σ6 i = m3 i := fun i hi => by rw [bf i hi, e5, up2_ne (by omega)]; exact gf i (by omega) (by omega) (by omega)
        have S6 : CSt (wT X) σ6 := S3.fr (fun i a1 a2 a3 a4 => F6 i (by omega))
        refine c_begin (fun σ7 r7 f7 => ?_)
        unfold wLX10_orders_82
        refine lp_for (fun k y τ => y = ((Y.length : Int), (k : Int)) ∧ CR (wayR k a.2) τ ∧ ∀ i, i ≠ 12 → i ≠ 13 → τ i = σ6 i) Y.length ?_ ?_ _ _ ⟨rfl, r7, fun i a1 _ => f7 i a1⟩
        · rintro k hk _ τ ⟨rfl, tR, tf⟩ K hK
          dsimp only [wX10_orders_82]
          rw [tn, tf 31 (by omega) (by omega), bF (by omega) k hk]
          refine ⟨fun z => absurd z (by omega), fun _ => ⟨⟨by omega, by omega⟩, c_addn tR (by rw [wayR_len]; omega) (fun σ8 r8 f8 => ?_)⟩⟩
          rintro _ rfl
          exact hK _ _ ⟨by rw [w32_id (by omega) (by omega)]; rfl, by rw [wayR_s]; exact r8, fun i a1 a2 => by rw [f8 i a1 a2]; exact tf i a1 a2⟩
        · rintro _ τ ⟨rfl, tR, tf⟩ K
          dsimp only [wX10_orders_82]
          refine ⟨fun _ => ?_, fun z => absurd (Int.le_refl _) z⟩
          rw [tf 23 (by omega) (by omega), b3]
          refine c_addn tR (by rw [wayR_len]; omega) (fun σ8 r8 f8 => ?_)
          exact h σ8 (S6.row r8 (fun i a1 a2 _ => by rw [f8 i a1 a2]; exact tf i a1 a2)) (fun i hi => by rw [f8 i (by omega) (by omega), tf i (by omega) (by omega), F6 i (by omega), e3, up2_ne (by omega)]; exact f1 i (by omega))
      · unfold wX11_orders
        rintro m1 rfl
        have hM1 := hM.thr (v := 0)
        unfold wX11_readPayments
        refine m_begin hM1 (fun σ2 M2 P2 f2 => ?_)
        refine m_readPay (X := wT X) (lm := 5) hT hN.2 (by omega) M2 rfl P2 (fun e2 σ3 hr2 e8 he M3 f3 => by rw [show nN (wT X).1 = nN X.1 from rfl, hr] at hr2; cases hr2) (fun σ3 _ A3 M3 f3 => ?_)
        rw [show (payR X.2.2.2.1 (nN (wT X).1) 5).2 = Y from eY.symm] at A3 ⊢
        refine ⟨fun _ => ?_, fun q => absurd q (by omega)⟩
        rintro m4 e4
        have g4 : ∀ i, i ≠ 300 → m4 i = σ3 i := fun i hi => by rw [e4, up2_ne hi]
        have j4 : ∀ j, j ≠ 23 → m4 300 j = σ3 300 j := fun j hj => by rw [e4, up2_nj hj]
        have M4 : MSt (wT X) m4 := M3.fr (fun j hj => j4 j (by omega)) (fun i hi => g4 i (by omega))
        unfold wX11_tryOrders
        refine m_tryOrders (R := X.2.2.2.2) hA hZ hY.2 rfl yl Y.length 10 0 (fun _ => 0) 0 (sp X.1) (0, fun _ => 0) a m4 _ (by omega) (by omega) (by omega) hO (by simp; omega) si_sp (mn_gm M4.1) M4.2.2.2.2.2 M4.2.2.2.2.1 (fun i z hz => by rw [g4 310 (by omega)]; exact A3 i z hz) (by rw [e4, up2_eq]; rfl) (fun q => absurd q (by decide)) (fun i hi => by omega) (fun σ5 M5 R5 k5 F5 _ _ f5 j5 => ?_)
        rw [k5]
        refine ⟨fun _ => ?_, fun q => absurd q (by omega)⟩
        have MS5 : MSt (wT X) σ5 := M4.back (mn_gm' M5) R5 (fun i hi => f5 i (by omega) (by omega) (by omega) (by omega) (by omega) (by omega) (by omega) (by omega) (by omega)) (fun j hj => j5 j (by omega) (by omega) (by omega) (by omega) (by omega))
        have F5' : ∀ i, i < 300 ∨ i = 340 → σ5 i = σ i := fun i hi => by rw [f5 i (by omega) (by omega) (by omega) (by omega) (by omega) (by omega) (by omega) (by omega) (by omega), g4 i (by omega), f3 i hi, f2 i (by omega), fr2 hi]
        rintro m6 e6
        have M6 : MSt (wL (wT X) []) m6 := by rw [e6]; exact mo_row0 MS5
        have k6 : m6 300 23 = (a.1 : Int) := by rw [e6, up2_nj (by omega)]; exact k5
        unfold wLX11_orders_53
        refine lp_for (fun k y τ => y = ((Y.length : Int), (k : Int)) ∧ MSt (wL (wT X) (wayR k a.2)) τ ∧ (∀ i, i ≠ 300 → i ≠ 304 → τ i = m6 i) ∧ τ 300 23 = (a.1 : Int)) Y.length ?_ ?_ _ _ ⟨rfl, M6, fun _ _ _ => rfl, k6⟩
        · rintro k hk _ τ ⟨rfl, tM, tf, t23⟩ K hK
          dsimp only [wX11_orders_53]
          rw [tn, tf 322 (by omega) (by omega), e6, up2_ne (by omega), F5 (by omega) k hk]
          refine ⟨fun z => absurd z (by omega), fun _ => ⟨⟨by omega, by omega⟩, mo_tell tM (by show (wayR k a.2).length < 2400; rw [wayR_len]; omega) (fun σ8 M8 f8 j8 => ?_)⟩⟩
          rintro _ rfl
          exact hK _ _ ⟨by rw [w32_id (by omega) (by omega)]; rfl, by rw [wayR_s]; exact M8, fun i a1 a2 => by rw [f8 i a1 a2, tf i a1 a2, e6], by rw [j8 23 (by omega)]; exact t23⟩
        · rintro _ τ ⟨rfl, tM, tf, t23⟩ K
          dsimp only [wX11_orders_53]
          refine ⟨fun _ => ?_, fun z => absurd (Int.le_refl _) z⟩
          rw [t23]
          refine mo_tell tM (by show (wayR Y.length a.2).length < 2400; rw [wayR_len]; omega) (fun σ8 M8 f8 j8 => ?_)
          exact h σ8 M8 (fun i hi => by rw [f8 i (by omega) (by omega), tf i (by omega) (by omega), e6, up2_ne (by omega)]; exact F5' i hi)
      · have ob := OS.lt hO (by omega) (fun i hi => by omega) (fun q => absurd q (by decide)) (by omega)
        refine xi_row (xi_empt hI) ⟨fun y hy => ?_, by rw [List.length_append, wayR_len]; simp; omega⟩
        rcases List.mem_append.mp hy with q | q
        · exact (wayR_b (L := Y.length) (P := a.2) (by omega) (fun i hi => by have := ob i hi; omega)).1 y q
        · simp at q
          omega
