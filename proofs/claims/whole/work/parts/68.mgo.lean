/-! the reference: the first way, along it, parts -/
section MGO
variable {m : Nat} {B : Bk} {s : Nat → Int} {σ : Mem} {x : Int}
theorem m_findWay {f t : Nat} {Q : Int → Mem → Prop} (hM : MN σ (GM m B s)) (hI : IvA B) (hZ : IvB B) (hS : SI m B s) (hb : ∀ u : Nat, u < 8 → ((u : Int) = σ 300 14 ↔ u = m)) (hf : f < nN B) (ht : t < nN B) (hx : 1 ≤ x) (h0 : ∀ σ', NoW (nN B) s x f t → (∀ i, i ≠ 312 → σ' i = σ i) → Q 0 σ') (h1 : ∀ σ' L P, IsW (nN B) s x f t L P → σ' 300 13 = (L : Int) → (∀ i, i < L → σ' 313 i = ((P i : Nat) : Int)) → (∀ i, i ≠ 300 → i ≠ 312 → i ≠ 313 → σ' i = σ i) → (∀ j, j ≠ 13 → σ' 300 j = σ 300 j) → Q 1 σ') : wX11_findWay (f : Int) (t : Int) x σ Q := by
  have hN := hI.1
  unfold wX11_findWay
  refine m_layFar hM hI hZ hS hb ht hx (fun σ1 hD f1 => ⟨⟨by omega, by omega⟩, ?_⟩)
  rw [tn]
  have b1 := hD.2.1 f hf
  refine ⟨fun z => ?_, fun z => h0 σ1 ⟨_, hD, by omega⟩ f1⟩
  rintro m2 e2
  have dl := hD.lt ht hf
  obtain ⟨L, eL⟩ : ∃ L : Nat, (L : Int) = σ1 312 f + 1 := ⟨(σ1 312 f + 1).toNat, by omega⟩
  have g13 : m2 300 13 = ((0 : Nat) : Int) := by rw [e2, up2_eq]; rfl
  have gj : ∀ j, j ≠ 13 → m2 300 j = σ 300 j := fun j hj => by rw [e2, up2_nj hj, f1 300 (by omega)]
  have g312 : m2 312 = σ1 312 := by rw [e2, up2_ne (by omega)]
  have gf : ∀ i, i ≠ 300 → i ≠ 312 → i ≠ 313 → m2 i = σ i := fun i a1 a2 _ => by rw [e2, up2_ne a1]; exact f1 i a2
  clear e2
  unfold wLX11_findWay_26
  refine lp_for (fun k y τ => ∃ P : Nat → Nat, y = ((t : Int), x, ((P k : Nat) : Int)) ∧ P 0 = f ∧ (∀ i, i ≤ k → P i < nN B ∧ σ1 312 (P i) = (L : Int) - 1 - i) ∧ (∀ i, i < k → x ≤ s (8 * P i + P (i + 1)) ∧ ∀ w, w < P (i + 1) → ¬ (σ1 312 w = (L : Int) - 2 - i ∧ x ≤ s (8 * P i + w))) ∧ (∀ i, i < k → τ 313 i = ((P i : Nat) : Int)) ∧ τ 300 13 = (k : Int) ∧ τ 312 = σ1 312 ∧ (∀ i, i ≠ 300 → i ≠ 312 → i ≠ 313 → τ i = σ i) ∧ ∀ j, j ≠ 13 → τ 300 j = σ 300 j) (L - 1) ?_ ?_ _ _ ⟨fun _ => f, rfl, rfl, fun i hi => ⟨hf, by show σ1 312 f = _; omega⟩, fun i hi => by omega, fun i hi => by omega, g13, g312, gf, gj⟩
  · rintro k hk _ τ ⟨P, rfl, p0, p1, p2, p3, t13, t312, tf, tj⟩ K hK
    dsimp only [wX11_findWay_26]
    have pk := p1 k (Nat.le_refl _)
    have hpt : P k ≠ t := fun c => by rw [c, hD.1] at pk; omega
    rw [t13, tn]
    refine ⟨fun z => absurd z (by omega), fun _ => ⟨⟨by omega, by omega⟩, ?_⟩⟩
    rintro m3 e3
    have a13 : m3 300 13 = (k : Int) := by rw [e3, up2_ne (by omega)]; exact t13
    rw [a13, show w32 ((k : Int) + 1) = ((k + 1 : Nat) : Int) by rw [w32_id (by omega) (by omega)]; rfl]
    rintro m4 e4
    have c13 : m4 300 13 = ((k + 1 : Nat) : Int) := by rw [e4, up2_eq]
    have cj : ∀ j, j ≠ 13 → m4 300 j = σ 300 j := fun j hj => by rw [e4, up2_nj hj, e3, up2_ne (by omega)]; exact tj j hj
    have c312 : m4 312 = σ1 312 := by rw [e4, up2_ne (by omega), e3, up2_ne (by omega)]; exact t312
    have cf : ∀ i, i ≠ 300 → i ≠ 312 → i ≠ 313 → m4 i = σ i := fun i a1 a2 a3 => by rw [e4, up2_ne a1, e3, up2_ne a3]; exact tf i a1 a2 a3
    have c313 : ∀ i, i ≤ k → m4 313 i = ((P i : Nat) : Int) := fun i hi => by
      rw [e4, up2_ne (by omega), e3, up2_app]
      by_cases c : i = k
      · rw [if_pos ⟨rfl, c⟩, c]
      · rw [if_neg (fun z => c z.2)]; exact p3 i (by omega)
    clear e3 e4
    have M4 : MN m4 (GM m B s) := by unfold MN; rw [cf 301 (by omega) (by omega) (by omega)]; exact hM
    have b4 : ∀ u : Nat, u < 8 → ((u : Int) = m4 300 14 ↔ u = m) := fun u hu => by rw [cj 14 (by omega)]; exact hb u hu
    obtain ⟨_, v, hv, dv, xv⟩ := hD.2.2.1 _ pk.1 hpt (by omega)
    obtain ⟨w, w1, w2, w3⟩ := least_ex (p := fun v => σ1 312 v = (L : Int) - 2 - k ∧ x ≤ s (8 * P k + v)) v v (Nat.le_refl _) ⟨by omega, xv⟩
    unfold wLX11_findWay_56
    refine lp_for (fun j y τ => τ = m4 ∧ y = ((t : Int), x, ((P k : Nat) : Int), (j : Int))) w ?_ ?_ _ _ ⟨rfl, rfl⟩
    · rintro j hj _ m4 ⟨rfl, rfl⟩ K2 hK2
      dsimp only [wX11_findWay_56]
      have nj := w3 j hj
      have skip : ∀ x1 : Int, x1 = w32 ((j : Int) + 1) → K2 ((t : Int), x, ((P k : Nat) : Int), x1) m4 := by
        rintro _ rfl
        exact hK2 _ _ ⟨rfl, by rw [w32_id (by omega) (by omega)]; rfl⟩
      rw [tn, tn, c312, pk.2, w32_id (by omega) (by omega)]
      refine ⟨⟨by omega, by omega⟩, ⟨by omega, by omega⟩, fun z => skip, fun z => m_canGo M4 hI hZ hS b4 pk.1 (by omega) hx (fun c => absurd ⟨by rw [z]; omega, c⟩ nj) (fun c => ⟨fun q => absurd rfl q, fun _ => skip⟩)⟩
    · rintro _ m4 ⟨rfl, rfl⟩ K2
      dsimp only [wX11_findWay_56]
      rw [tn, tn, c312, pk.2, w2.1, w32_id (by omega) (by omega)]
      refine ⟨⟨by omega, by omega⟩, ⟨by omega, by omega⟩, fun z => absurd (by omega) z, fun z => m_canGo M4 hI hZ hS b4 pk.1 (by omega) hx (fun c => ⟨fun _ => ?_, fun q => absurd q (by decide)⟩) (fun c => absurd w2.2 c)⟩
      refine hK _ _ ⟨fun i => if i = k + 1 then w else P i, by (try dsimp only); rw [if_pos rfl], by (try dsimp only); rw [if_neg (by omega)]; exact p0, fun i hi => ?_, fun i hi => ?_, fun i hi => ?_, c13, c312, cf, cj⟩
      · (try dsimp only)
        by_cases c : i = k + 1
        · rw [if_pos c]; exact ⟨by omega, by rw [w2.1, c]; omega⟩
        · rw [if_neg c]; exact p1 i (by omega)
      · (try dsimp only)
        rw [if_neg (show ¬ i = k + 1 by omega)]
        by_cases c : i = k
        · subst c
          rw [if_pos rfl]
          exact ⟨w2.2, fun y hy => w3 y hy⟩
        · rw [if_neg (show ¬ i + 1 = k + 1 by omega)]; exact p2 i (by omega)
      · (try dsimp only)
        rw [if_neg (show ¬ i = k + 1 by omega)]; exact c313 i (by omega)
  · rintro _ τ ⟨P, rfl, p0, p1, p2, p3, t13, t312, tf, tj⟩ K
    dsimp only [wX11_findWay_26]
    have pk := p1 (L - 1) (Nat.le_refl _)
    have hpt : P (L - 1) = t := hD.z pk.1 (by rw [pk.2]; omega)
    rw [hpt, t13, tn]
    refine ⟨fun _ => ⟨⟨by omega, by omega⟩, ?_⟩, fun z => absurd rfl z⟩
    rintro m3 e3
    have a13 : m3 300 13 = ((L - 1 : Nat) : Int) := by rw [e3, up2_ne (by omega)]; exact t13
    rw [a13, show w32 (((L - 1 : Nat) : Int) + 1) = (L : Int) by rw [w32_id (by omega) (by omega)]; omega]
    rintro m4 e4
    refine h1 m4 L P ⟨σ1 312, hD, by omega, eL, p0, fun i hi => p1 i (by omega), fun i hi => p2 i (by omega)⟩ (by rw [e4, up2_eq]) (fun i hi => ?_) (fun i a1 a2 a3 => by rw [e4, up2_ne a1, e3, up2_ne a3]; exact tf i a1 a2 a3) (fun j hj => by rw [e4, up2_nj hj, e3, up2_ne (by omega)]; exact tj j hj)
    rw [e4, up2_ne (by omega), e3, up2_app]
    by_cases c : i = L - 1
    · rw [if_pos ⟨rfl, c⟩, c, hpt]
    · rw [if_neg (fun z => c z.2)]; exact p3 i (by omega)
theorem m_leastRoom {L : Nat} {P : Nat → Nat} {Q : Int → Mem → Prop} (hM : MN σ (GM m B s)) (hI : IvA B) (hZ : IvB B) (hS : SI m B s) (hL : 1 ≤ L ∧ L ≤ 8) (e13 : σ 300 13 = (L : Int)) (hP : ∀ i, i < L → σ 313 i = ((P i : Nat) : Int)) (hPn : ∀ i, i < L → P i < 8) (he : ∀ i, i + 1 < L → 1 ≤ s (8 * P i + P (i + 1))) (h : Q (leastS s P 9999 (L - 1)) σ) : wX11_leastRoom σ Q := by
  unfold wX11_leastRoom wLX11_leastRoom_6
  refine lp_from (fun k y τ => τ = σ ∧ y = (leastS s P 9999 (k - 1), (k : Int))) 1 L hL.1 ?_ ?_ _ _ ⟨rfl, rfl⟩
  · rintro k hk1 hk _ τ ⟨rfl, rfl⟩ K hK
    dsimp only [wX11_leastRoom_6]
    have e := he (k - 1) (by omega)
    rw [show k - 1 + 1 = k by omega] at e
    refine ⟨fun z => absurd z (by rw [e13]; omega), fun _ => ?_⟩
    rw [show w32 ((k : Int) - 1) = ((k - 1 : Nat) : Int) by rw [w32_id (by omega) (by omega)]; omega, tn, tn, hP _ (by omega), hP k hk]
    refine ⟨⟨by omega, by omega⟩, ⟨by omega, by omega⟩, m_room hM (gm_A hI hZ hS) (hPn _ (by omega)) (hPn k hk) ?_⟩
    rw [gm_rm hZ hS (hPn _ (by omega)) (hPn k hk) (hS.nz (hPn _ (by omega)) (hPn k hk) e)]
    rintro _ rfl _ rfl
    refine hK _ _ ⟨rfl, ?_⟩
    rw [w32_id (by omega) (by omega), show k + 1 - 1 = (k - 1) + 1 by omega, leastS, show k - 1 + 1 = k by omega]
    rfl
  · rintro _ τ ⟨rfl, rfl⟩ K
    dsimp only [wX11_leastRoom_6]
    exact ⟨fun _ => h, fun z => absurd z (by rw [e13]; omega)⟩
theorem gm_pay {u v : Nat} {p : Int} (hu : u < 8) (hv : v < 8) (hum : u ≠ m) (hvm : v ≠ m) {i : Nat} (hi : i < 64) : pay (deb (GM m B s)) u v p i = deb (GM m B (pay s v u p)) i := by
  show pay (fun i => deb B i + (sp B i - mix m B s i)) u v p i = deb B i + (sp B i - mix m B (pay s v u p) i)
  rw [i88 i]
  have hb : i % 8 < 8 := by omega
  by_cases c : i / 8 = m ∨ i % 8 = m
  · rw [pay_ne (by omega) (by omega), mix_m hb c, mix_m hb c]
  · have q : ∀ s' : Nat → Int, mix m B s' (8 * (i / 8) + i % 8) = s' (8 * (i / 8) + i % 8) := fun s' => mix_uv hb (by omega) (by omega)
    unfold pay
    (try dsimp only)
    rw [q s, q (fun i => s i + (if i = 8 * v + u then p else 0) - (if i = 8 * u + v then p else 0))]
    omega
theorem m_goOnWay {L : Nat} {P : Nat → Nat} {p : Int} {Q : Mem → Prop} (hM : MN σ (GM m B s)) (hI : IvA B) (hZ : IvB B) (hL : 1 ≤ L ∧ L ≤ 8) (e13 : σ 300 13 = (L : Int)) (hP : ∀ i, i < L → σ 313 i = ((P i : Nat) : Int)) (hPn : ∀ i, i < L → P i < 8) (hPm : ∀ i, i < L → P i ≠ m) (hp : -100000 ≤ p ∧ p ≤ 100000) (hS : ∀ k, k < L → SI m B (pushS s P p k)) (h : ∀ σ', MN σ' (GM m B (pushS s P p (L - 1))) → (∀ i, i ≠ 301 → σ' i = σ i) → Q σ') : wX11_goOnWay p σ Q := by
  unfold wX11_goOnWay wLX11_goOnWay_2
  refine lp_from (fun k y τ => y = (p, (k : Int)) ∧ MN τ (GM m B (pushS s P p (k - 1))) ∧ ∀ i, i ≠ 301 → τ i = σ i) 1 L hL.1 ?_ ?_ _ _ ⟨rfl, hM, fun i _ => rfl⟩
  · rintro k hk1 hk _ τ ⟨rfl, hT, hF⟩ K hK
    dsimp only [wX11_goOnWay_2]
    have hu := hPn (k - 1) (by omega)
    have hv := hPn k hk
    have hA := gm_A hI hZ (hS (k - 1) (by omega))
    have d1 := hA.2.2.1 _ (lt64 hu hv)
    have d2 := hA.2.2.1 _ (lt64 hv hu)
    rw [hF 300 (by omega), hF 313 (by omega), show w32 ((k : Int) - 1) = ((k - 1 : Nat) : Int) by rw [w32_id (by omega) (by omega)]; omega, tn, tn, hP _ (by omega), hP k hk]
    refine ⟨fun z => absurd z (by rw [e13]; omega), fun _ => ⟨⟨by omega, by omega⟩, ⟨by omega, by omega⟩, m_straight hT hu hv (by omega) (by omega) hp (fun σ' hM' f' => ?_)⟩⟩
    rintro _ rfl
    refine hK _ _ ⟨by rw [w32_id (by omega) (by omega)]; rfl, ?_, fun i hi => by rw [f' i hi]; exact hF i hi⟩
    have ep : pushS s P p (k + 1 - 1) = pay (pushS s P p (k - 1)) (P k) (P (k - 1)) p := by
      rw [show k + 1 - 1 = (k - 1) + 1 by omega, pushS, show k - 1 + 1 = k by omega]
    rw [ep]
    exact MB_deb (B := B) hM' (fun i hi => gm_pay hu hv (hPm _ (by omega)) (hPm k hk) hi)
  · rintro _ τ ⟨rfl, hT, hF⟩ K
    dsimp only [wX11_goOnWay_2]
    rw [hF 300 (by omega)]
    exact ⟨fun _ => h τ hT hF, fun z => absurd z (by rw [e13]; omega)⟩
def rowR (r : List (Nat × Int)) : List Int := r.flatMap (fun z => [(z.1 : Int), z.2])
def lgst (c : Int) (r : List (Nat × Int)) : Int := r.foldl (fun a z => max a (z.1 : Int)) c
/-- behind parts -/
def ME (m : Nat) (B : Bk) (k : Nat) (c : Int) (r : List (Nat × Int)) (s' : Nat → Int) (σ σ' : Mem) : Prop := MN σ' (GM m B s') ∧ σ' 300 16 = ((k + r.length : Nat) : Int) ∧ σ' 300 17 = lgst c r ∧ (∀ i, i ≠ 300 → i ≠ 301 → i ≠ 304 → i ≠ 312 → i ≠ 313 → σ' i = σ i) ∧ ∀ j, j ≠ 4 → j ≠ 13 → j ≠ 16 → j ≠ 17 → σ' 300 j = σ 300 j
theorem m_goParts13 {f t : Nat} {y tl : Int} {s' : Nat → Int} {l' : Int} {Q : Int → Mem → Prop} (hI : IvA B) (hZ : IvB B) (hf : f < nN B) (ht : t < nN B) (hne : f ≠ t) : ∀ (r : List (Nat × Int)) (s : Nat → Int) (l : Int) (k : Nat) (c : Int) (R : List Int) (σ : Mem), MN σ (GM m B s) → SI m B s → (∀ u : Nat, u < 8 → ((u : Int) = σ 300 14 ↔ u = m)) → σ 300 16 = (k : Int) → σ 300 17 = c → k + r.length ≤ 255 → 0 ≤ l → l ≤ 2147483647 → MR R σ → (¬ tl = 0 → R.length + 2 * r.length ≤ 2000) → Snd (nN B) f t r s l s' l' → (∀ σ', ME m B k c r s' σ σ' → MR (if tl = 0 then R else R ++ rowR r) σ' → Q (w32 (y - l')) σ') → lp (fun (K13 : (Int × Int × Int × Int × Int) → Mem → Prop) (x : Int × Int × Int × Int × Int) (σ : Mem) => wX11_goParts_13 K13 Q x.1 x.2.1 x.2.2.1 x.2.2.2.1 x.2.2.2.2 σ) (r.length + 1) ((f : Int), (t : Int), y, tl, l) σ := by
  have hN := hI.1
  intro r
  induction r with
  | nil =>
    intro s l k c R σ hM hS hb e16 e17 hk hl hl2 hR hRl hr h
    obtain ⟨⟨rfl, rfl⟩, e⟩ := hr
    have fin : ∀ σ' : Mem, (∀ i, i ≠ 312 → σ' i = σ i) → Q (w32 (y - l')) σ' := fun σ' hF => h σ' ⟨by unfold MN; rw [hF 301 (by omega)]; exact hM, by rw [hF 300 (by omega)]; exact e16, by rw [hF 300 (by omega)]; exact e17, fun i _ _ _ a _ => hF i a, fun j _ _ _ _ => by rw [hF 300 (by omega)]⟩ (by
      have q : MR R σ' := hR.fr (by rw [hF 300 (by omega)]) (hF 304 (by omega))
      split
      · exact q
      · rw [show R ++ rowR [] = R by simp [rowR]]; exact q)
    show wX11_goParts_13 _ Q (f : Int) (t : Int) y tl l' σ
    unfold wX11_goParts_13 wX11_goParts_101
    refine ⟨fun z => fin σ (fun _ _ => rfl), fun z => ?_⟩
    refine m_findWay hM hI hZ hS hb hf ht (by omega) (fun σ' _ hF => ⟨fun _ => fin σ' hF, fun q => absurd rfl q⟩) (fun σ' L P hW _ _ _ _ => ?_)
    rcases e with e | e
    · exact absurd e z
    · exact (hW.no hf e).elim
  | cons z r ih =>
    obtain ⟨L0, p⟩ := z
    intro s l k c R σ hM hS hb e16 e17 hk hl hl2 hR hRl hr h
    obtain ⟨⟨h1, P0, hW0, hp, hr1⟩, hr2⟩ := hr
    simp only [List.length_cons] at hk hRl
    show wX11_goParts_13 (lp _ (r.length + 1)) Q (f : Int) (t : Int) y tl l σ
    unfold wX11_goParts_13
    refine ⟨fun z => absurd z (by omega), fun _ => ?_⟩
    refine m_findWay hM hI hZ hS hb hf ht (by omega) (fun σ' q _ => (hW0.no hf q).elim) (fun σ1 L P hW g13 g313 gf gj => ?_)
    obtain ⟨eL, eP⟩ := hW.eq hf hW0
    subst eL
    obtain ⟨hL2, hLN, q0, qL, hPn, hinj, he⟩ := hW.sh hf ht hne
    have hP8 : ∀ i, i < L → P i < 8 := fun i hi => by have := hPn i hi; omega
    have hle := leastS_le (s := s) (P := P) (c := 9999) (L - 1)
    have hge := leastS_ge (s := s) (P := P) (c := 9999) (y := 1) (by omega) (L - 1) (fun j hj => he j (by omega))
    have elP : leastS s P 9999 (L - 1) = leastS s P0 9999 (L - 1) := leastS_congr _ (fun i hi => eP i (by omega))
    have epP : pushS s P p (L - 1) = pushS s P0 p (L - 1) := pushS_congr _ (fun i hi => eP i (by omega))
    have hpS := hS.push (p := p) hP8 hinj (by omega) (fun i hi => ⟨he i hi, by have := hle.2 i (by omega); omega⟩)
    have hPm : ∀ i, i < L → P i ≠ m := fun i hi e => by
      by_cases c : i + 1 < L
      · exact hS.nz (hP8 i hi) (hP8 _ c) (he i c) (Or.inr (Or.inl e))
      · have := he (i - 1) (by omega)
        rw [show i - 1 + 1 = i by omega] at this
        exact hS.nz (hP8 (i - 1) (by omega)) (hP8 i hi) this (Or.inr (Or.inr (Or.inl e)))
    have M1 : MN σ1 (GM m B s) := by unfold MN; rw [gf 301 (by omega) (by omega) (by omega)]; exact hM
    have R1 : MR R σ1 := hR.fr (gj 4 (by omega)) (gf 304 (by omega) (by omega) (by omega))
    refine ⟨fun q => absurd q (by decide), fun _ => ?_⟩
    refine m_leastRoom M1 hI hZ hS ⟨by omega, by omega⟩ g13 g313 hP8 he ?_
    rintro _ rfl
    rw [show min l (leastS s P 9999 (L - 1)) = p by rw [hp, elP]]
    have go : ∀ (R' : List Int) (σ2 : Mem), MR R' σ2 → (∀ i, i ≠ 300 → i ≠ 304 → σ2 i = σ1 i) → (∀ j, j ≠ 4 → σ2 300 j = σ1 300 j) → (¬ tl = 0 → R'.length + 2 * r.length ≤ 2000) → (if tl = 0 then R else R ++ rowR ((L, p) :: r)) = (if tl = 0 then R' else R' ++ rowR r) → wX11_goParts_60 (lp (fun (K13 : (Int × Int × Int × Int × Int) → Mem → Prop) (x : Int × Int × Int × Int × Int) (σ : Mem) => wX11_goParts_13 K13 Q x.1 x.2.1 x.2.2.1 x.2.2.2.1 x.2.2.2.2 σ) (r.length + 1)) Q (f : Int) (t : Int) y tl l p σ2 := by
      intro R' σ2 hR' f2 j2 hl' eR
      unfold wX11_goParts_60
      rintro m1 e1
      have k13 : m1 300 13 = (L : Int) := by rw [e1, up2_nj (by omega), j2 13 (by omega)]; exact g13
      have fm : ∀ i, i ≠ 300 → i ≠ 304 → m1 i = σ1 i := fun i a1 a2 => by rw [e1, up2_ne a1]; exact f2 i a1 a2
      have jm : ∀ j, j ≠ 4 → j ≠ 17 → m1 300 j = σ1 300 j := fun j a1 a2 => by rw [e1, up2_nj a2]; exact j2 j a1
      have k17 : m1 300 17 = max c (L : Int) := by rw [e1, up2_eq, j2 17 (by omega), j2 13 (by omega), gj 17 (by omega), e17, g13]
      have Rm : MR R' m1 := hR'.fr (by rw [e1, up2_nj (by omega)]) (by rw [e1, up2_ne (by omega)])
      clear e1
      have Mm : MN m1 (GM m B s) := by unfold MN; rw [fm 301 (by omega) (by omega)]; exact M1
      refine m_goOnWay Mm hI hZ ⟨by omega, by omega⟩ k13 (fun i hi => by rw [fm 313 (by omega) (by omega)]; exact g313 i hi) hP8 hPm (by omega) hpS (fun σ3 M3 f3 => ?_)
      rintro _ rfl
      have j3 : σ3 300 16 = (k : Int) := by rw [f3 300 (by omega), jm 16 (by omega) (by omega), gj 16 (by omega)]; exact e16
      rw [j3, w32_id (a := l - p) (by omega) (by omega), show w32 ((k : Int) + 1) = ((k + 1 : Nat) : Int) by rw [w32_id (by omega) (by omega)]; rfl]
      rintro m4 e4
      have f4 : ∀ i, i ≠ 300 → i ≠ 301 → i ≠ 304 → i ≠ 312 → i ≠ 313 → m4 i = σ i := fun i a1 a2 a3 a4 a5 => by rw [e4, up2_ne a1, f3 i a2, fm i a1 a3]; exact gf i a1 a4 a5
      have n4 : ∀ j, j ≠ 4 → j ≠ 13 → j ≠ 16 → j ≠ 17 → m4 300 j = σ 300 j := fun j a1 a2 a3 a4 => by rw [e4, up2_nj a3, f3 300 (by omega), jm j a1 a4]; exact gj j a2
      refine ih (pushS s P p (L - 1)) (l - p) (k + 1) (max c (L : Int)) R' m4 ?_ (hpS (L - 1) (by omega)) (fun u hu => by rw [n4 14 (by omega) (by omega) (by omega) (by omega)]; exact hb u hu) (by rw [e4, up2_eq]) (by rw [e4, up2_nj (by omega), f3 300 (by omega)]; exact k17) (by omega) (by omega) (by omega) (Rm.fr (by rw [e4, up2_nj (by omega), f3 300 (by omega)]) (by rw [e4, up2_ne (by omega), f3 304 (by omega)])) hl' ⟨by rw [epP]; exact hr1, hr2⟩ (fun σ' hE hR2 => h σ' ?_ (by rw [eR]; exact hR2))
      · unfold MN; rw [e4, up2_ne (by omega)]; exact M3
      · obtain ⟨E1, E2, E3, E4, E5⟩ := hE
        exact ⟨E1, by rw [E2]; simp only [List.length_cons]; omega, E3, fun i a1 a2 a3 a4 a5 => by rw [E4 i a1 a2 a3 a4 a5]; exact f4 i a1 a2 a3 a4 a5, fun j a1 a2 a3 a4 => by rw [E5 j a1 a2 a3 a4]; exact n4 j a1 a2 a3 a4⟩
    refine ⟨fun z => go R σ1 R1 (fun i _ _ => rfl) (fun j _ => rfl) (fun q => absurd z q) (by rw [if_pos z, if_pos z]), fun z => ?_⟩
    rw [g13]
    have hl0 := hRl z
    refine m_tell R1 (by omega) (fun σ2 R2 f2 j2 => m_tell R2 (by simp; omega) (fun σ3 R3 f3 j3 => go _ σ3 R3 (fun i a1 a2 => by rw [f3 i a1 a2, f2 i a1 a2]) (fun j hj => by rw [j3 j hj, j2 j hj]) (fun _ => by simp; omega) ?_))
    rw [if_neg z, if_neg z]
    simp [rowR]
theorem m_goParts {f t : Nat} {y tl : Int} {r : List (Nat × Int)} {s' : Nat → Int} {l' : Int} {R : List Int} {Q : Int → Mem → Prop} (hM : MN σ (GM m B s)) (hI : IvA B) (hZ : IvB B) (hS : SI m B s) (hb : ∀ u : Nat, u < 8 → ((u : Int) = σ 300 14 ↔ u = m)) (hf : f < nN B) (ht : t < nN B) (hne : f ≠ t) (hy : 0 ≤ y) (hy2 : y ≤ 2147483647) (hR : MR R σ) (hRl : ¬ tl = 0 → R.length ≤ 512) (hr : Snd (nN B) f t r s y s' l') (h : ∀ σ', ME m B 0 0 r s' σ σ' → MR (if tl = 0 then R else R ++ rowR r) σ' → Q (y - l') σ') : wX11_goParts (f : Int) (t : Int) y tl σ Q := by
  have hlen := snd_len hI hf ht hne hS hy hr
  have q := Prun.si hI hf ht hne hr.1 hS hy
  unfold wX11_goParts
  rintro m1 e1 m2 e2
  have f2 : ∀ i, i ≠ 300 → m2 i = σ i := fun i hi => by rw [e2, up2_ne hi, e1, up2_ne hi]
  have j2 : ∀ j, j ≠ 16 → j ≠ 17 → m2 300 j = σ 300 j := fun j a1 a2 => by rw [e2, up2_nj a2, e1, up2_nj a1]
  refine ⟨r.length + 1, m_goParts13 hI hZ hf ht hne r s y 0 0 R m2 (by unfold MN; rw [f2 301 (by omega)]; exact hM) hS (fun u hu => by rw [j2 14 (by omega) (by omega)]; exact hb u hu) (by rw [e2, up2_nj (by omega), e1, up2_eq]; rfl) (by rw [e2, up2_eq]) (by omega) hy (by omega) (hR.fr (j2 4 (by omega) (by omega)) (f2 304 (by omega))) (fun z => by have := hRl z; omega) hr (fun σ' hE hR' => ?_)⟩
  rw [w32_id (by omega) (by omega)]
  obtain ⟨E1, E2, E3, E4, E5⟩ := hE
  exact h σ' ⟨E1, E2, E3, fun i a1 a2 a3 a4 a5 => by rw [E4 i a1 a2 a3 a4 a5]; exact f2 i a1, fun j a1 a2 a3 a4 => by rw [E5 j a1 a2 a3 a4]; exact j2 j a3 a4⟩ hR'
end MGO
