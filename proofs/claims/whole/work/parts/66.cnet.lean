/-! the class's network: what is loaded, sent, booked -/
def gB (B : Bk) (s : Nat → Int) : Bk := wDeb B (fun i => deb B i + (sp B i - s i))
section CSEND
variable {m : Nat} {B : Bk} {s : Nat → Int} {σ : Mem} {b : Nat}
theorem s_load {Q : Mem → Prop} (hb : 40 ≤ b) (hC : CB b B σ) (hI : IvA B) (hZ : IvB B) (h : ∀ σ', σ' 14 0 = (nN B : Int) → (∀ i, i < 64 → σ' 15 i = sp B i) → (∀ i, i < 64 → σ' 16 i = sp B i) → (∀ i, i ≠ 14 → i ≠ 15 → i ≠ 16 → σ' i = σ i) → Q σ') : wX4_load b σ Q := by
  have hN := hI.1
  unfold wX4_load
  rintro m1 e1
  have g0 : m1 14 0 = (nN B : Int) := by rw [e1, up2_eq]; exact hC.1
  have gf : ∀ i, i ≠ 14 → i ≠ 15 → m1 i = σ i := fun i h1 _ => by rw [e1, up2_ne h1]
  clear e1
  unfold wLX4_load_10
  refine lp_for (fun k y τ => y = (k : Int) ∧ τ 14 0 = (nN B : Int) ∧ (∀ i, i < 8 * k → τ 15 i = sp B i) ∧ ∀ i, i ≠ 14 → i ≠ 15 → τ i = σ i) 8 ?_ ?_ _ _ ⟨rfl, g0, fun i hi => by omega, gf⟩
  · rintro k hk _ τ ⟨rfl, t0, tS, tf⟩ K hK
    dsimp only [wX4_load_10]
    refine ⟨(fun hno => absurd hno (by omega)), fun _ => ?_⟩
    unfold wLX4_load_18
    refine lp_for (fun j y ρ => y = ((k : Int), (j : Int)) ∧ ρ 14 0 = (nN B : Int) ∧ (∀ i, i < 8 * k + j → ρ 15 i = sp B i) ∧ ∀ i, i ≠ 14 → i ≠ 15 → ρ i = σ i) 8 ?_ ?_ _ _ ⟨rfl, t0, fun i hi => tS i (by omega), tf⟩
    · rintro j hj _ ρ ⟨rfl, r0, rS, rf⟩ K2 hK2
      dsimp only [wX4_load_18, wX4_load_49, wX4_load_50]
      have hCr : CB b B ρ := hC.fr (fun i a1 a2 => rf i (by omega) (by omega))
      have st : ∀ v, v = sp B (8 * k + j) → wX4_load_76 b K K2 Q (k : Int) (j : Int) v ((8 * k + j : Nat) : Int) ρ := fun v ev => by
        unfold wX4_load_76
        refine ⟨rg64 hk hj, ?_⟩
        rintro m1 e1 _ rfl
        rw [tn] at e1
        refine hK2 _ _ ⟨by rw [w32_id (by omega) (by omega)]; rfl, by rw [e1, up2_ne (by omega)]; exact r0, fun i hi => ?_, fun i a1 a2 => by rw [e1, up2_ne a2]; exact rf i a1 a2⟩
        rw [e1, up2_app]
        by_cases c : i = 8 * k + j
        · rw [if_pos ⟨rfl, c⟩, ev, c]
        · rw [if_neg (fun z => c z.2)]; exact rS i (by omega)
      have zero : ¬ (k < nN B ∧ j < nN B ∧ k ≠ j) → wX10_at (k : Int) (j : Int) ρ (fun y2 m1 => (((0 : Int) = 0 → wX4_load_76 b K K2 Q (k : Int) (j : Int) 0 y2 m1) ∧ (¬ (0 : Int) = 0 → (wX1_room b (k : Int) (j : Int) m1 (fun y4 m3 => wX4_load_76 b K K2 Q (k : Int) (j : Int) y4 y2 m3))))) := fun z => s_at hk hj ⟨fun _ => st 0 (by rw [sp_0 hj z]), fun q => absurd rfl q⟩
      refine ⟨(fun hno => absurd hno (by omega)), fun _ => ⟨fun z => zero (by omega), fun z1 => ⟨fun z => zero (by omega), fun z2 => ⟨fun z => zero (by omega), fun z3 => s_at hk hj ⟨fun q => absurd q (by decide), fun _ => s_room hk hj hCr hI hZ (st _ ?_)⟩⟩⟩⟩⟩
      rw [sp_uv hj (by omega) (by omega) (by omega)]
    · rintro _ ρ ⟨rfl, r0, rS, rf⟩ K2
      dsimp only [wX4_load_18]
      refine ⟨fun _ => ?_, (fun hno => absurd hno (by omega))⟩
      rintro _ rfl
      exact hK _ _ ⟨by rw [w32_id (by omega) (by omega)]; rfl, r0, fun i hi => rS i (by omega), rf⟩
  · rintro _ τ ⟨rfl, t0, tS, tf⟩ K
    dsimp only [wX4_load_10]
    refine ⟨fun _ => ?_, (fun hno => absurd hno (by omega))⟩
    rintro _ rfl
    have ne : ∀ {i : Nat} {g : Nat → Int}, i ≠ 16 → upA τ 16 g i = τ i := fun hi => if_neg hi
    have eq : ∀ {g : Nat → Int}, upA τ 16 g 16 = g := if_pos rfl
    refine h _ (by rw [ne (by omega)]; exact t0) (fun i hi => by rw [ne (by omega)]; exact tS i (by omega)) (fun i hi => ?_) (fun i a1 a2 a3 => by rw [ne a3]; exact tf i a1 a2)
    rw [eq, acp_64 hi]
    exact tS i (by omega)
def SE (N k : Nat) (r : List (Nat × Int)) (s' : Nat → Int) (σ σ' : Mem) : Prop := σ' 14 0 = (N : Int) ∧ (∀ i, i < 64 → σ' 15 i = s' i) ∧ σ' 14 10 = ((k + r.length : Nat) : Int) ∧ (∀ (j : Nat) (z : Nat × Int), r[j]? = some z → σ' 21 (k + j) = (z.1 : Int) ∧ σ' 22 (k + j) = z.2) ∧ (∀ j, j < k → σ' 21 j = σ 21 j ∧ σ' 22 j = σ 22 j) ∧ ∀ i, ¬ (14 ≤ i ∧ i ≤ 22 ∧ i ≠ 16 ∧ i ≠ 17) → σ' i = σ i
theorem s_send8 {f t : Nat} {x : Int} {s' : Nat → Int} {l' : Int} {Q : Int → Mem → Prop} (hI : IvA B) (hf : f < nN B) (ht : t < nN B) (hne : f ≠ t) : ∀ (r : List (Nat × Int)) (s : Nat → Int) (l : Int) (k : Nat) (σ : Mem), σ 14 0 = (nN B : Int) → (∀ i, i < 64 → σ 15 i = s i) → σ 14 10 = (k : Int) → k + r.length ≤ 255 → SI m B s → 0 ≤ l → l ≤ 2000000000 → Snd (nN B) f t r s l s' l' → (∀ σ', SE (nN B) k r s' σ σ' → Q (w32 (x - l')) σ') → lp (fun (K8 : (Int × Int × Int × Int) → Mem → Prop) (x : Int × Int × Int × Int) (σ : Mem) => wX4_send_8 K8 Q x.1 x.2.1 x.2.2.1 x.2.2.2 σ) (r.length + 1) ((f : Int), (t : Int), x, l) σ := by
  have hN := hI.1
  intro r
  induction r with
  | nil =>
    intro s l k σ e0 eS e10 hk hS hl hl2 hr h
    obtain ⟨⟨rfl, rfl⟩, e⟩ := hr
    have fin : ∀ σ' : Mem, (∀ i, i ≠ 18 → i ≠ 19 → σ' i = σ i) → Q (w32 (x - l')) σ' := fun σ' hF => h σ' ⟨by rw [hF 14 (by omega) (by omega)]; exact e0, by rw [hF 15 (by omega) (by omega)]; exact eS, by rw [hF 14 (by omega) (by omega)]; exact e10, fun j z hz => by simp at hz, fun j _ => by rw [hF 21 (by omega) (by omega), hF 22 (by omega) (by omega)]; exact ⟨rfl, rfl⟩, fun i hi => hF i (by omega) (by omega)⟩
    show wX4_send_8 _ Q (f : Int) (t : Int) x l' σ
    unfold wX4_send_8 wX4_send_94
    simp only [List.length_nil, Nat.add_zero] at hk
    refine ⟨fun z => absurd z (by rw [e10]; omega), fun _ => ⟨fun z => fin σ (fun _ _ _ => rfl), fun z => ?_⟩⟩
    refine s_findWay (s := s') (by omega) hf ht e0 eS (fun σ' _ hF => ⟨fun _ => fin σ' hF, fun q => absurd rfl q⟩) (fun σ' L P hW _ _ _ _ => ?_)
    rcases e with e | e
    · exact absurd e z
    · exact (hW.no hf e).elim
  | cons z r ih =>
    obtain ⟨L0, p⟩ := z
    intro s l k σ e0 eS e10 hk hS hl hl2 hr h
    obtain ⟨⟨h1, P0, hW0, hp, hr1⟩, hr2⟩ := hr
    simp only [List.length_cons] at hk
    show wX4_send_8 (lp _ (r.length + 1)) Q (f : Int) (t : Int) x l σ
    unfold wX4_send_8
    refine ⟨fun z => absurd z (by rw [e10]; omega), fun _ => ⟨fun z => absurd z (by omega), fun _ => ?_⟩⟩
    refine s_findWay (s := s) (by omega) hf ht e0 eS (fun σ' q _ => (hW0.no hf q).elim) (fun σ1 L P hW g7 g20 gf g14 => ?_)
    obtain ⟨eL, eP⟩ := hW.eq hf hW0
    subst eL
    obtain ⟨hL2, hLN, q0, qL, hPn, hinj, he⟩ := hW.sh hf ht hne
    have hP8 : ∀ i, i < L → P i < 8 := fun i hi => by have := hPn i hi; omega
    have hle := leastS_le (s := s) (P := P) (c := 9999) (L - 1)
    have hge := leastS_ge (s := s) (P := P) (c := 9999) (y := 1) (by omega) (L - 1) (fun j hj => he j (by omega))
    have hcap := (leastS_cap (s := s) (P := P) (c := 1000000) (c' := 9999) (L - 1) (by omega) (fun j hj => by
      have := (hS.b hI (lt64 (hP8 j (by omega)) (hP8 (j + 1) (by omega)))).2
      omega)).1
    have elP : leastS s P 9999 (L - 1) = leastS s P0 9999 (L - 1) := leastS_congr _ (fun i hi => eP i (by omega))
    have epP : pushS s P p (L - 1) = pushS s P0 p (L - 1) := pushS_congr _ (fun i hi => eP i (by omega))
    have hpS := hS.push (p := p) hP8 hinj (by omega) (fun i hi => ⟨he i hi, by have := hle.2 i (by omega); omega⟩)
    have eS1 : ∀ i, i < 64 → σ1 15 i = s i := fun i hi => by rw [gf 15 (by omega) (by omega) (by omega) (by omega)]; exact eS i hi
    refine ⟨fun q => absurd q (by decide), fun _ => ?_⟩
    refine s_leastSpace (s := s) ⟨by omega, by omega⟩ g7 g20 hP8 eS1 ?_
    rw [hcap]
    rintro _ rfl
    rw [show min l (leastS s P 9999 (L - 1)) = p by rw [hp, elP]]
    refine s_pushAlong (s := s) ⟨by omega, by omega⟩ g7 g20 hP8 (fun i hi e => by have := hinj _ (by omega) _ hi e; omega) eS1 (by omega) (fun k hk i hi => by
      have := (hpS k hk).b hI hi
      omega) (fun σ2 e15 f2 => ?_)
    have a10 : σ2 14 10 = (k : Int) := by rw [f2 14 (by omega), g14 10 (by omega)]; exact e10
    have a7 : σ2 14 7 = (L : Int) := by rw [f2 14 (by omega)]; exact g7
    rw [a10, a7, tn]
    refine ⟨⟨by omega, by omega⟩, ?_⟩
    rintro m7 e7
    have b10 : m7 14 10 = (k : Int) := by rw [e7, up2_ne (by omega)]; exact a10
    rw [b10, tn]
    refine ⟨⟨by omega, by omega⟩, ?_⟩
    rintro m8 e8
    have c10 : m8 14 10 = (k : Int) := by rw [e8, up2_ne (by omega)]; exact b10
    rw [c10, show w32 ((k : Int) + 1) = ((k + 1 : Nat) : Int) by rw [w32_id (by omega) (by omega)]; rfl]
    rintro m9 e9 _ rfl
    rw [w32_id (by omega) (by omega)]
    have fr9 : ∀ i, ¬ (14 ≤ i ∧ i ≤ 22 ∧ i ≠ 16 ∧ i ≠ 17) → m9 i = σ i := fun i hi => by
      rw [e9, up2_ne (by omega), e8, up2_ne (by omega), e7, up2_ne (by omega), f2 i (by omega), gf i (by omega) (by omega) (by omega) (by omega)]
    have n21 : ∀ j, j ≠ k → m9 21 j = σ 21 j := fun j hj => by
      rw [e9, up2_ne (by omega), e8, up2_ne (by omega), e7, up2_nj hj, f2 21 (by omega), gf 21 (by omega) (by omega) (by omega) (by omega)]
    have n22 : ∀ j, j ≠ k → m9 22 j = σ 22 j := fun j hj => by
      rw [e9, up2_ne (by omega), e8, up2_nj hj, e7, up2_ne (by omega), f2 22 (by omega), gf 22 (by omega) (by omega) (by omega) (by omega)]
    have k21 : m9 21 k = (L : Int) := by rw [e9, up2_ne (by omega), e8, up2_ne (by omega), e7, up2_eq]
    have k22 : m9 22 k = p := by rw [e9, up2_ne (by omega), e8, up2_eq]
    refine ih (pushS s P p (L - 1)) (l - p) (k + 1) m9 ?_ (fun i hi => ?_) ?_ (by omega) (hpS (L - 1) (by omega)) (by omega) (by omega) ⟨by rw [epP]; exact hr1, hr2⟩ (fun σ' hE => h σ' ?_)
    · rw [e9, up2_nj (by omega), e8, up2_ne (by omega), e7, up2_ne (by omega), f2 14 (by omega), g14 0 (by omega)]; exact e0
    · rw [e9, up2_ne (by omega), e8, up2_ne (by omega), e7, up2_ne (by omega)]; exact e15 i hi
    · rw [e9, up2_eq]
    · obtain ⟨E1, E2, E3, E4, E5, E6⟩ := hE
      refine ⟨E1, E2, by rw [E3]; simp only [List.length_cons]; omega, fun j z hz => ?_, fun j hj => ?_, fun i hi => by rw [E6 i hi]; exact fr9 i hi⟩
      · cases j with
        | zero =>
          simp only [List.getElem?_cons_zero, Option.some.injEq] at hz
          rw [← hz]
          have := E5 k (by omega)
          exact ⟨by rw [show k + 0 = k from rfl, this.1]; exact k21, by rw [show k + 0 = k from rfl, this.2]; exact k22⟩
        | succ j =>
          simp only [List.getElem?_cons_succ] at hz
          have := E4 j z hz
          rw [show k + (j + 1) = k + 1 + j by omega]
          exact this
      · have := E5 j (by omega)
        rw [this.1, this.2, n21 j (by omega), n22 j (by omega)]
        exact ⟨rfl, rfl⟩
theorem snd_len (hI : IvA B) {f t : Nat} (hf : f < nN B) (ht : t < nN B) (hne : f ≠ t) (hS : SI m B s) {l : Int} (hl : 0 ≤ l) {r : List (Nat × Int)} {s' : Nat → Int} {l' : Int} (h : Snd (nN B) f t r s l s' l') : r.length ≤ 197 := by
  obtain ⟨r2, s2, l2, h2, hlen⟩ := snd_ex hI hf ht hne hS hl
  rw [(h.eq hf h2).1]; exact hlen
theorem s_send {f t : Nat} {x : Int} {r : List (Nat × Int)} {s' : Nat → Int} {l' : Int} {Q : Int → Mem → Prop} (hI : IvA B) (hf : f < nN B) (ht : t < nN B) (hne : f ≠ t) (e0 : σ 14 0 = (nN B : Int)) (eS : ∀ i, i < 64 → σ 15 i = s i) (hS : SI m B s) (hx : 0 ≤ x) (hx2 : x ≤ 1000000) (hr : Snd (nN B) f t r s x s' l') (h : ∀ σ', σ' 14 0 = (nN B : Int) → (∀ i, i < 64 → σ' 15 i = s' i) → σ' 14 10 = (r.length : Int) → (∀ (j : Nat) (z : Nat × Int), r[j]? = some z → σ' 21 j = (z.1 : Int) ∧ σ' 22 j = z.2) → (∀ i, ¬ (14 ≤ i ∧ i ≤ 22 ∧ i ≠ 16 ∧ i ≠ 17) → σ' i = σ i) → Q (x - l') σ') : wX4_send (f : Int) (t : Int) x σ Q := by
  have hlen := snd_len hI hf ht hne hS hx hr
  have q := Prun.si hI hf ht hne hr.1 hS hx
  unfold wX4_send
  rintro m1 e1
  refine ⟨r.length + 1, s_send8 hI hf ht hne r s x 0 m1 (by rw [e1, up2_nj (by omega)]; exact e0) (fun i hi => by rw [e1, up2_ne (by omega)]; exact eS i hi) (by rw [e1, up2_eq]; rfl) (by omega) hS hx (by omega) hr (fun σ' hE => ?_)⟩
  obtain ⟨E1, E2, E3, E4, E5, E6⟩ := hE
  rw [w32_id (by omega) (by omega)]
  refine h σ' E1 E2 (by rw [E3]; simp) (fun j z hz => by have := E4 j z hz; rw [Nat.zero_add] at this; exact this) (fun i hi => by rw [E6 i hi, e1, up2_ne (by omega)])
end CSEND
