/-! one way alone: the widest; a payment by it -/
theorem bdiv2 {a : Int} (h0 : 0 ≤ a) (h1 : a < 2147483648) : bdiv a 2 = a / 2 := by
  unfold bdiv
  rw [Int32.toInt_div, oi_t ⟨by omega, by omega⟩, show (Int32.ofInt 2).toInt = 2 from rfl, Int.tdiv_eq_ediv_of_nonneg h0]
  exact tc_bm (by omega) (by omega)
def Sep (N : Nat) (s : Nat → Int) (x : Int) (f t : Nat) : Prop := ∃ S : Nat → Prop, Cls N s x f S ∧ ¬ S t
def Wd (N : Nat) (s : Nat → Int) (f t : Nat) (W : Int) : Prop := (0 ≤ W ∧ W ≤ 9999) ∧ ∀ x, 1 ≤ x → x ≤ 9999 → (x ≤ W ↔ ¬ Sep N s x f t)
section WIDEST
variable {N : Nat} {s : Nat → Int} {x : Int} {f t : Nat} {σ : Mem}
theorem now_sep (hf : f < N) (ht : t < N) (h : NoW N s x f t) : Sep N s x f t := by
  obtain ⟨d, hd, h0⟩ := h
  refine ⟨fun u => d u < 0, ⟨h0, fun u hu v hv hS he => ?_⟩, fun hS => ?_⟩
  · by_cases c : 0 ≤ d v
    · have := hd.2.2.2 u hu v hv c he
      have hS' : d u < 0 := hS
      omega
    · show d v < 0
      omega
  · have hS' : d t < 0 := hS
    rw [hd.1] at hS'
    omega
theorem sep_now (hf : f < N) (ht : t < N) (h : Sep N s x f t) : NoW N s x f t := by
  obtain ⟨S, hS, hn⟩ := h
  rcases w_or (s := s) (x := x) trivial hf ht with c | ⟨L, P, hW⟩
  · exact c
  · exfalso
    obtain ⟨d, hd, h0, hL, hP0, hP, hE⟩ := hW
    have key : ∀ i, i < L → S (P i) := by
      intro i
      induction i with
      | zero => intro _; rw [hP0]; exact hS.1
      | succ i ih =>
        intro hi
        exact hS.2 _ (hP i (by omega)).1 _ (hP (i + 1) hi).1 (ih (by omega)) (hE i hi).1
    have e : P (L - 1) = t := hd.z (hP (L - 1) (by omega)).1 (by rw [(hP (L - 1) (by omega)).2]; omega)
    exact hn (e ▸ key (L - 1) (by omega))
theorem Sep.mono {y : Int} (h : Sep N s x f t) (hxy : x ≤ y) : Sep N s y f t := by
  obtain ⟨S, hS, hn⟩ := h
  exact ⟨S, ⟨hS.1, fun u hu v hv h1 h2 => hS.2 u hu v hv h1 (by omega)⟩, hn⟩
theorem ex_Wd (N : Nat) (s : Nat → Int) (f t : Nat) : ∃ W, Wd N s f t W := by
  classical
  have key : ∀ n : Nat, ∃ W : Int, (0 ≤ W ∧ W ≤ (n : Int)) ∧ ∀ x, 1 ≤ x → x ≤ (n : Int) → (x ≤ W ↔ ¬ Sep N s x f t) := by
    intro n
    induction n with
    | zero => exact ⟨0, by omega, fun x h1 h2 => by omega⟩
    | succ n ih =>
      obtain ⟨W, hW, hx⟩ := ih
      by_cases c : Sep N s ((n + 1 : Nat) : Int) f t
      · refine ⟨W, by omega, fun x h1 h2 => ?_⟩
        by_cases e : x = ((n + 1 : Nat) : Int)
        · rw [e]; exact ⟨fun q => by omega, fun q => absurd c q⟩
        · exact hx x h1 (by omega)
      · exact ⟨((n + 1 : Nat) : Int), by omega, fun x h1 h2 => ⟨fun _ q => c (q.mono h2), fun _ => h2⟩⟩
  exact key 9999
theorem Wd.le {W W' : Int} (h : Wd N s f t W) (h' : Wd N s f t W') : W ≤ W' := by
  by_cases c : W ≤ 0
  · have := h'.1; omega
  · have b := h.1
    exact (h'.2 W (by omega) (by omega)).mpr ((h.2 W (by omega) (by omega)).mp (Int.le_refl _))
theorem Wd.eq {W W' : Int} (h : Wd N s f t W) (h' : Wd N s f t W') : W = W' := by
  have := h.le h'
  have := h'.le h
  omega
def Pth (N : Nat) (s : Nat → Int) (x : Int) (f L : Nat) (P : Nat → Nat) : Prop := P 0 = f ∧ (∀ i, i < L → P i < N) ∧ ∀ i, i + 1 < L → x ≤ s (8 * P i + P (i + 1))
def WI (N : Nat) (s : Nat → Int) (f : Nat) (D : Nat → Int) : Prop := (∀ v, v < N → 0 ≤ D v) ∧ 1000000 ≤ D f ∧ (∀ v, v < N → v ≠ f → D v ≤ 9999) ∧ ∀ x, 1 ≤ x → ∀ S : Nat → Prop, Cls N s x f S → ∀ v, v < N → x ≤ D v → S v
theorem WI.set {D : Nat → Int} {u v : Nat} (h : WI N s f D) (hu : u < N) (hv : v < N) (hb : s (8 * u + v) ≤ 9999) : WI N s f (up1 D v (max (D v) (min (D u) (s (8 * u + v))))) := by
  obtain ⟨h1, h2, h3, h4⟩ := h
  refine ⟨fun w hw => ?_, ?_, fun w hw hne => ?_, fun x hx S hS w hw hxw => ?_⟩
  · unfold up1
    have := h1 w hw
    split
    · rename_i e; subst e; omega
    · exact this
  · unfold up1
    split
    · rename_i e; subst e; omega
    · exact h2
  · unfold up1
    have := h3 w hw hne
    split
    · rename_i e; subst e; omega
    · exact this
  · unfold up1 at hxw
    by_cases e : w = v
    · subst e
      rw [if_pos rfl] at hxw
      by_cases c : x ≤ D w
      · exact h4 x hx S hS w hw c
      · exact hS.2 u hu w hw (h4 x hx S hS u hu (by omega)) (by omega)
    · rw [if_neg e] at hxw
      exact h4 x hx S hS w hw hxw
theorem up1_ge {D : Nat → Int} {v w : Nat} {y : Int} (h : D v ≤ y) : D w ≤ up1 D v y w := by
  unfold up1
  split
  · rename_i e; rw [e]; exact h
  · omega
theorem s_widest {Q : Int → Mem → Prop} (hN : 2 ≤ N ∧ N ≤ 8) (hf : f < N) (ht : t < N) (hne : f ≠ t) (e0 : σ 14 0 = (N : Int)) (eS : ∀ i, i < 64 → σ 15 i = s i) (hb : ∀ i, i < 64 → s i ≤ 9999) (h : ∀ σ' W, Wd N s f t W → (∀ i, i ≠ 18 → σ' i = σ i) → Q W σ') : wX4_widest (f : Int) (t : Int) σ Q := by
  unfold wX4_widest wLX4_widest_2
  refine lp_for (fun k y τ => y = ((f : Int), (t : Int), (k : Int)) ∧ (∀ u, u < k → τ 18 u = 0) ∧ ∀ i, i ≠ 18 → τ i = σ i) 8 ?_ ?_ _ _ ⟨rfl, fun u hu => by omega, fun _ _ => rfl⟩
  · rintro k hk _ τ ⟨rfl, hD, hF⟩ K hK
    dsimp only [wX4_widest_2]
    refine ⟨(fun hno => absurd hno (by omega)), fun _ => ⟨⟨by omega, by omega⟩, ?_⟩⟩
    rintro m2 e2 _ rfl
    rw [tn] at e2
    refine hK _ _ ⟨by rw [w32_id (by omega) (by omega)]; rfl, fun u hu => ?_, fun i hi => by rw [e2, up2_ne hi]; exact hF i hi⟩
    rw [e2, up2_app]
    split
    · rfl
    · exact hD u (by omega)
  · rintro _ τ ⟨rfl, hD, hF⟩ K
    dsimp only [wX4_widest_2]
    refine ⟨fun _ => ?_, (fun hno => absurd hno (by omega))⟩
    rw [band7_all f (by omega)]
    refine ⟨⟨by omega, by omega⟩, ?_⟩
    rintro m1 e1
    rw [tn] at e1
    have d1 : ∀ u, u < 8 → m1 18 u = if u = f then 1000000 else 0 := fun u hu => by
      rw [e1, up2_app]
      by_cases c : u = f
      · rw [if_pos ⟨rfl, c⟩, if_pos c]
      · rw [if_neg (fun z => c z.2), if_neg c]; exact hD u hu
    have f1 : ∀ i, i ≠ 18 → m1 i = σ i := fun i hi => by rw [e1, up2_ne hi]; exact hF i hi
    clear e1
    have w0 : WI N s f (m1 18) := by
      refine ⟨fun v hv => by rw [d1 v (by omega)]; split <;> omega, by rw [d1 f (by omega), if_pos rfl]; omega, fun v hv hn => by rw [d1 v (by omega), if_neg hn]; omega, fun x hx S hS v hv hxv => ?_⟩
      rw [d1 v (by omega)] at hxv
      by_cases c : v = f
      · rw [c]; exact hS.1
      · rw [if_neg c] at hxv; omega
    unfold wLX4_widest_34
    refine lp_from (fun k y τ => y = ((t : Int), (k : Int)) ∧ WI N s f (τ 18) ∧ (∀ x, x ≤ 9999 → ∀ L P, Pth N s x f L P → ∀ i, i < k → i < L → x ≤ τ 18 (P i)) ∧ ∀ i, i ≠ 18 → τ i = σ i) 1 N (by omega) ?_ ?_ _ _ ⟨rfl, w0, fun x hx L P hP i h1 h2 => ?_, f1⟩
    · rintro k hk1 hk _ ρ ⟨rfl, hW, hC, hF1⟩ K1 hK1
      dsimp only [wX4_widest_34]
      refine ⟨fun z => absurd z (by rw [hF1 14 (by omega), e0]; omega), fun _ => ?_⟩
      unfold wLX4_widest_45
      refine lp_for (fun u y τ => y = ((t : Int), (k : Int), (u : Int)) ∧ WI N s f (τ 18) ∧ (∀ w, w < N → ρ 18 w ≤ τ 18 w) ∧ (∀ a, a < u → ∀ c, c < N → min (ρ 18 a) (s (8 * a + c)) ≤ τ 18 c) ∧ ∀ i, i ≠ 18 → τ i = σ i) N ?_ ?_ _ _ ⟨rfl, hW, fun _ _ => Int.le_refl _, fun a ha => by omega, hF1⟩
      · rintro u hu _ τ2 ⟨rfl, hW2, hG2, hP2, hF2⟩ K2 hK2
        dsimp only [wX4_widest_45]
        refine ⟨fun z => absurd z (by rw [hF2 14 (by omega), e0]; omega), fun _ => ?_⟩
        unfold wLX4_widest_57
        refine lp_for (fun v y τ => y = ((t : Int), (k : Int), (u : Int), (v : Int)) ∧ WI N s f (τ 18) ∧ (∀ w, w < N → ρ 18 w ≤ τ 18 w) ∧ (∀ a, a < u → ∀ c, c < N → min (ρ 18 a) (s (8 * a + c)) ≤ τ 18 c) ∧ (∀ c, c < v → min (ρ 18 u) (s (8 * u + c)) ≤ τ 18 c) ∧ ∀ i, i ≠ 18 → τ i = σ i) N ?_ ?_ _ _ ⟨rfl, hW2, hG2, hP2, fun c hc => by omega, hF2⟩
        · rintro v hv _ τ3 ⟨rfl, hW3, hG3, hP3, hQ3, hF3⟩ K3 hK3
          dsimp only [wX4_widest_57]
          have b := hb (8 * u + v) (by omega)
          have g := hG3 u hu
          refine ⟨fun z => absurd z (by rw [hF3 14 (by omega), e0]; omega), fun _ => ?_⟩
          rw [band7_all u (by omega), band7_all v (by omega)]
          refine ⟨⟨by omega, by omega⟩, s_at (by omega) (by omega) ⟨rg64 (by omega) (by omega), ?_⟩⟩
          rintro _ rfl
          refine ⟨⟨by omega, by omega⟩, ⟨by omega, by omega⟩, ?_⟩
          rintro m5 e5 _ rfl
          rw [tn, tn, tn, hF3 15 (by omega), eS _ (by omega)] at e5
          have r18 : m5 18 = up1 (τ3 18) v (max (τ3 18 v) (min (τ3 18 u) (s (8 * u + v)))) := by rw [e5, up2_row]
          have mono : ∀ w, τ3 18 w ≤ m5 18 w := fun w => by rw [r18]; exact up1_ge (by omega)
          refine hK3 _ _ ⟨by rw [w32_id (by omega) (by omega)]; rfl, by rw [r18]; exact hW3.set hu hv b, fun w hw => Int.le_trans (hG3 w hw) (mono w), fun a ha c hc => Int.le_trans (hP3 a ha c hc) (mono c), fun c hc => ?_, fun i hi => by rw [e5, up2_ne hi]; exact hF3 i hi⟩
          by_cases q : c = v
          · rw [q, r18, up1_eq]; omega
          · exact Int.le_trans (hQ3 c (by omega)) (mono c)
        · rintro _ τ3 ⟨rfl, hW3, hG3, hP3, hQ3, hF3⟩ K3
          dsimp only [wX4_widest_57]
          refine ⟨fun _ => ?_, fun z => absurd z (by rw [hF3 14 (by omega), e0]; omega)⟩
          rintro _ rfl
          refine hK2 _ _ ⟨by rw [w32_id (by omega) (by omega)]; rfl, hW3, hG3, fun a ha c hc => ?_, hF3⟩
          by_cases q : a = u
          · rw [q]; exact hQ3 c hc
          · exact hP3 a (by omega) c hc
      · rintro _ τ2 ⟨rfl, hW2, hG2, hP2, hF2⟩ K2
        dsimp only [wX4_widest_45]
        refine ⟨fun _ => ?_, fun z => absurd z (by rw [hF2 14 (by omega), e0]; omega)⟩
        rintro _ rfl
        refine hK1 _ _ ⟨by rw [w32_id (by omega) (by omega)]; rfl, hW2, fun x hx L P hP i h1 h2 => ?_, hF2⟩
        have hPi := hP.2.1 i h2
        by_cases q : i = k
        · have c1 := hC x hx L P hP (i - 1) (by omega) (by omega)
          have c2 := hP.2.2 (i - 1) (by omega)
          have c3 := hP2 (P (i - 1)) (hP.2.1 (i - 1) (by omega)) (P (i - 1 + 1)) (hP.2.1 _ (by omega))
          rw [show i - 1 + 1 = i by omega] at c2 c3
          omega
        · exact Int.le_trans (hC x hx L P hP i (by omega) h2) (hG2 _ hPi)
    · rintro _ ρ ⟨rfl, hW, hC, hF1⟩ K1
      dsimp only [wX4_widest_34]
      refine ⟨fun _ => ?_, fun z => absurd z (by rw [hF1 14 (by omega), e0]; omega)⟩
      rw [band7_all t (by omega)]
      refine ⟨⟨by omega, by omega⟩, ?_⟩
      rw [tn]
      refine h ρ _ ⟨⟨hW.1 t ht, hW.2.2.1 t ht (Ne.symm hne)⟩, fun x h1 h2 => ⟨fun q => ?_, fun q => ?_⟩⟩ hF1
      · rintro ⟨S, hS, hn⟩
        exact hn (hW.2.2.2 x h1 S hS t ht q)
      · rcases w_or (s := s) (x := x) trivial hf ht with c | ⟨L, P, hw⟩
        · exact absurd (now_sep hf ht c) q
        · obtain ⟨hL2, hLN, q0, qL, hPn, hinj, he⟩ := hw.sh hf ht hne
          have := hC x h2 L P ⟨q0, hPn, he⟩ (L - 1) (by omega) (by omega)
          rw [qL] at this
          exact this
    · rw [show i = 0 by omega, hP.1, d1 f (by omega), if_pos rfl]; omega
end WIDEST
