/-! without a member; both payments -/
def barS (m : Nat) (B : Bk) (i : Nat) : Int := if i / 8 = m ∨ i % 8 = m then 0 else sp B i
section BAR
variable {B : Bk} {s : Nat → Int} {σ : Mem} {m f t : Nat}
theorem barS_uv {u v : Nat} (hv : v < 8) : barS m B (8 * u + v) = if u = m ∨ v = m then 0 else sp B (8 * u + v) := by
  unfold barS
  rw [(dm8 hv).1, (dm8 hv).2]
theorem si_bar : SI m B (barS m B) := by
  refine ⟨fun u hu v hv z => ?_, fun u hu v hv z => ?_⟩
  · rw [barS_uv hv]
    by_cases c : u = m ∨ v = m
    · rw [if_pos c]
    · rw [if_neg c, sp_0 hv (by unfold Zr at z; omega)]
  · unfold Zr at z
    rw [barS_uv hv, barS_uv hu, if_neg (by omega), if_neg (by omega)]
    exact ⟨rfl, Or.inl (Int.le_refl _)⟩
theorem gm_bar : ∀ i, i < 64 → deb (GM m B (barS m B)) i = deb B i := fun i hi => by
  show deb B i + (sp B i - mix m B (barS m B) i) = deb B i
  have : mix m B (barS m B) i = sp B i := by
    unfold mix barS
    by_cases c : i / 8 = m ∨ i % 8 = m
    · rw [if_pos c]
    · rw [if_neg c, if_neg c]
  rw [this]; omega
theorem mn_bar (h : MN σ B) : MN σ (GM m B (barS m B)) := MB_deb (B := B) (d := deb B) h (fun i hi => (gm_bar i hi).symm)
theorem mn_bar' (h : MN σ (GM m B (barS m B))) : MN σ B := MB_deb (B := B) (d' := deb B) h (fun i hi => gm_bar i hi)
theorem s_bar {Q : Mem → Prop} (hN : nN B ≤ 8) (hm : m < nN B) (e0 : σ 14 0 = (nN B : Int)) (eS : ∀ i, i < 64 → σ 15 i = sp B i) (h : ∀ σ', (∀ i, i < 64 → σ' 15 i = barS m B i) → (∀ i, i ≠ 15 → σ' i = σ i) → Q σ') : wX4_bar (m : Int) σ Q := by
  unfold wX4_bar wLX4_bar_2
  refine lp_for (fun k y τ => y = ((m : Int), (k : Int)) ∧ (∀ i, i < 64 → τ 15 i = if (i / 8 = m ∧ i % 8 < k) ∨ (i % 8 = m ∧ i / 8 < k) then 0 else sp B i) ∧ ∀ i, i ≠ 15 → τ i = σ i) (nN B) ?_ ?_ _ _ ⟨rfl, fun i hi => by rw [if_neg (by omega)]; exact eS i hi, fun _ _ => rfl⟩
  · rintro k hk _ τ ⟨rfl, hT, hF⟩ K hK
    dsimp only [wX4_bar_2]
    refine ⟨fun z => absurd z (by rw [hF 14 (by omega), e0]; omega), fun _ => ?_⟩
    refine s_at (by omega) (by omega) ⟨rg64 (by omega) (by omega), ?_⟩
    rintro m3 e3
    refine s_at (by omega) (by omega) ⟨rg64 (by omega) (by omega), ?_⟩
    rintro m6 e6 _ rfl
    rw [tn] at e3 e6
    refine hK _ _ ⟨by rw [w32_id (by omega) (by omega)]; rfl, fun i hi => ?_, fun i hi => by rw [e6, up2_ne hi, e3, up2_ne hi]; exact hF i hi⟩
    rw [e6, up2_app]
    by_cases c1 : i = 8 * k + m
    · rw [if_pos ⟨rfl, c1⟩, if_pos (by omega)]
    · rw [if_neg (fun z => c1 z.2), e3, up2_app]
      by_cases c2 : i = 8 * m + k
      · rw [if_pos ⟨rfl, c2⟩, if_pos (by omega)]
      · rw [if_neg (fun z => c2 z.2), hT i hi]
        by_cases c3 : (i / 8 = m ∧ i % 8 < k) ∨ (i % 8 = m ∧ i / 8 < k)
        · rw [if_pos c3, if_pos (by omega)]
        · rw [if_neg c3, if_neg (by omega)]
  · rintro _ τ ⟨rfl, hT, hF⟩ K
    dsimp only [wX4_bar_2]
    refine ⟨fun _ => h τ (fun i hi => ?_) hF, fun z => absurd z (by rw [hF 14 (by omega), e0]; omega)⟩
    rw [hT i hi]
    unfold barS
    by_cases c3 : (i / 8 = m ∧ i % 8 < nN B) ∨ (i % 8 = m ∧ i / 8 < nN B)
    · rw [if_pos c3, if_pos (by omega)]
    · rw [if_neg c3]
      by_cases c4 : i / 8 = m ∨ i % 8 = m
      · rw [if_pos c4]
        have := sp_0 (B := B) (u := i / 8) (v := i % 8) (by omega) (by omega)
        rw [← i88 i] at this
        exact this
      · rw [if_neg c4]
theorem s_mostW {r : List (Nat × Int)} {s' : Nat → Int} {v : Int} {Q : Int → Mem → Prop} (hC : CB 40 B σ) (hI : IvA B) (hZ : IvB B) (hf : f < nN B) (ht : t < nN B) (hne : f ≠ t) (hm : m < nN B) (hr : Snd (nN B) f t r (barS m B) 1000000 s' (1000000 - v)) (h : ∀ σ', (∀ i, ¬ (14 ≤ i ∧ i ≤ 22) → σ' i = σ i) → Q v σ') : wX10_mostWithout (f : Int) (t : Int) (m : Int) σ Q := by
  have hN := hI.1
  unfold wX10_mostWithout
  refine s_load (by omega) hC hI hZ (fun σ1 g0 g15 g16 gf => ?_)
  refine s_bar hN.2 hm g0 g15 (fun σ2 k15 f2 => ?_)
  refine s_send (m := m) (s := barS m B) hI hf ht hne (by rw [f2 14 (by omega)]; exact g0) k15 si_bar (by omega) (by omega) hr (fun σ3 _ _ _ _ f3 => ?_)
  rw [show (1000000 : Int) - (1000000 - v) = v by omega]
  exact h σ3 (fun i hi => by rw [f3 i (by omega), f2 i (by omega)]; exact gf i (by omega) (by omega) (by omega))
theorem mo_mostW {X : St} {r : List (Nat × Int)} {s' : Nat → Int} {v : Int} {Q : Int → Mem → Prop} (hA : IvA X.1) (hZ : IvB X.1) (hM : MSt X σ) (hf : f < nN X.1) (ht : t < nN X.1) (hne : f ≠ t) (hm : m < 8) (hr : Snd (nN X.1) f t r (barS m X.1) 2147483647 s' (2147483647 - v)) (h : ∀ σ', MSt X σ' → (∀ i, i ≠ 300 → i ≠ 301 → i ≠ 304 → i ≠ 312 → i ≠ 313 → i ≠ 316 → σ' i = σ i) → Q v σ') : wX11_mostWithout (f : Int) (t : Int) (m : Int) σ Q := by
  unfold wX11_mostWithout
  rintro m1 e1
  have g1 : ∀ i, i ≠ 300 → m1 i = σ i := fun i hi => by rw [e1, up2_ne hi]
  have n1 : ∀ j, j ≠ 14 → m1 300 j = σ 300 j := fun j hj => by rw [e1, up2_nj hj]
  refine m_mostOf (m := m) (s := barS m X.1) (R := X.2.2.2.2) (mn_bar (by unfold MN; rw [g1 301 (by omega)]; exact hM.1)) hA hZ si_bar (fun u hu => by rw [e1, up2_eq]; omega) hf ht hne (hM.2.2.2.2.1.fr (n1 4 (by omega)) (g1 304 (by omega))) hr (fun σ2 b b1 b2 b3 b4 b5 b6 b7 b8 b9 => ?_)
  rintro m4 e4
  have g4 : ∀ i, i ≠ 300 → m4 i = σ2 i := fun i hi => by rw [e4, up2_ne hi]
  have n4 : ∀ j, j ≠ 14 → m4 300 j = σ2 300 j := fun j hj => by rw [e4, up2_nj hj]
  refine h m4 ⟨?_, hM.2.1.fr ?_ ?_, hM.2.2.1.fr ?_ ?_, hM.2.2.2.1.fr ?_ ?_, b3.fr (n4 4 (by omega)) (g4 304 (by omega)), by rw [e4, up2_eq]⟩ (fun i a1 a2 a3 a4 a5 a6 => by rw [g4 i a1, b7 i a1 a2 a3 a4 a5 a6, g1 i a1])
  · unfold MN; rw [g4 301 (by omega)]; exact mn_bar' b2
  · rw [g4 332 (by omega), b7 332 (by omega) (by omega) (by omega) (by omega) (by omega) (by omega), g1 332 (by omega)]
  · rw [g4 331 (by omega), b7 331 (by omega) (by omega) (by omega) (by omega) (by omega) (by omega), g1 331 (by omega)]
  · rw [n4 28 (by omega), b9 28 (by omega) (by omega) (by omega) (by omega) (by omega), n1 28 (by omega)]
  · rw [g4 327 (by omega), b7 327 (by omega) (by omega) (by omega) (by omega) (by omega) (by omega), g1 327 (by omega)]
  · rw [n4 2 (by omega), b9 2 (by omega) (by omega) (by omega) (by omega) (by omega), n1 2 (by omega)]
  · rw [g4 302 (by omega), b7 302 (by omega) (by omega) (by omega) (by omega) (by omega) (by omega), g1 302 (by omega)]
end BAR
theorem op_without (a b c : Int) : OpOK (wX10_without a b c) (wX11_without a b c) := by
  refine OpOK.of (fun X hI => ?_)
  have hN := hI.1.1.1
  by_cases hp : two (nN X.1) a b ∧ (0 ≤ c ∧ c < (nN X.1 : Int)) ∧ c ≠ a ∧ c ≠ b
  · obtain ⟨f, rfl⟩ : ∃ f : Nat, a = f := ⟨a.toNat, by omega⟩
    obtain ⟨t, rfl⟩ : ∃ t : Nat, b = t := ⟨b.toNat, by omega⟩
    obtain ⟨m, rfl⟩ : ∃ m : Nat, c = m := ⟨c.toNat, by omega⟩
    have hf : f < nN X.1 := by omega
    have ht : t < nN X.1 := by omega
    have hne : f ≠ t := by omega
    have hm : m < nN X.1 := by omega
    obtain ⟨r, s', v, hr, hr2, hn, v0, v1, hlen, hS'⟩ := snd_most hI.1.1 hf ht hne (si_sp (B := X.1))
    obtain ⟨r', s'', v', hr', hr2', hn', v0', v1', hlen', hS''⟩ := snd_most hI.1.1 hf ht hne (si_bar (B := X.1) (m := m))
    refine ⟨v', wL X [v - v'], fun σ Q hC h => ?_, fun σ Q hM h => ?_, xi_row hI ⟨fun y hy => ?_, by simp⟩⟩
    · unfold wX10_without
      have e := hC.1.1
      refine s_hasBoth (fun _ _ _ _ _ _ _ => ⟨fun z => absurd z (by decide), fun _ => s_has (fun _ _ _ => ⟨fun z => absurd z (by decide), fun _ => ⟨fun z => absurd z hp.2.2.1, fun _ => ⟨fun _ => ?_, fun z => absurd z hp.2.2.2⟩⟩⟩) (fun z => absurd (by rw [e]; exact hp.2.1) z)⟩) (fun z => absurd (by rw [e]; exact hp.1) z)
      refine s_loadSend (by omega) hC.1 hI.1.1 hI.1.2.1 hf ht hne (by omega) (by omega) hr (fun σ1 _ _ _ f1 => ?_)
      refine s_mostW (hC.1.fr (fun i a1 a2 => f1 i (by omega))) hI.1.1 hI.1.2.1 hf ht hne hm hr' (fun σ2 f2 => ?_)
      rw [show (1000000 : Int) - (1000000 - v) = v by omega, w32_id (by omega) (by omega)]
      refine c_tell1 (fun σ3 r3 f3 => ?_)
      have h2 : CSt X σ2 := hC.fr (fun i a1 a2 a3 a4 => by rw [f2 i (by omega)]; exact f1 i (by omega))
      exact h σ3 (h2.row r3 (fun i a1 a2 _ => f3 i a1 a2)) (fun i hi => by rw [f3 i (by omega) (by omega), f2 i (by omega)]; exact f1 i (by omega))
    · unfold wX11_without
      rintro m1 rfl
      have hM1 := hM.thr (v := 0)
      refine m_areTwo hM1.1 hI.1.1 (fun _ _ _ _ _ _ _ => ⟨fun z => absurd z (by decide), fun _ => m_isMember hM1.1 hI.1.1 (fun _ _ _ => ⟨fun z => absurd z (by decide), fun _ => ⟨fun z => absurd z hp.2.2.1, fun _ => ⟨fun _ => ?_, fun z => absurd z hp.2.2.2⟩⟩⟩) (fun z => absurd hp.2.1 z)⟩) (fun z => absurd hp.1 z)
      refine mo_mostW hI.1.1 hI.1.2.1 hM1 hf ht hne (by omega) hr2' (fun σ2 M2 f2 => ?_)
      rintro m3 e3
      have M3 : MSt (wL X []) m3 := by rw [e3]; exact mo_row0 M2
      refine mo_mostOf (X := wL X []) hI.1.1 hI.1.2.1 M3 hf ht hne hr2 (fun σ4 c4 hc4 M4 _ _ _ f4 _ _ => ?_)
      rw [w32_id (by omega) (by omega)]
      refine mo_tell M4 (by simp) (fun σ5 M5 f5 j5 => ?_)
      exact h σ5 M5 (fun i hi => by rw [f5 i (by omega) (by omega), f4 i (by omega) (by omega) (by omega) (by omega) (by omega) (by omega), e3, up2_ne (by omega), f2 i (by omega) (by omega) (by omega) (by omega) (by omega) (by omega), fr2 hi])
    · simp at hy
      omega
  · refine ⟨-1, X, fun σ Q hC h => ?_, fun σ Q hM h => ?_, hI⟩
    · unfold wX10_without
      have e := hC.1.1
      have hh := h σ hC (fun _ _ => rfl)
      exact s_hasBoth (fun u y e1 e2 hu hw hne2 => ⟨fun z => absurd z (by decide), fun _ => s_has (fun k e3 hk => ⟨fun z => absurd z (by decide), fun _ => ⟨fun _ => hh, fun z1 => ⟨fun z2 => absurd ⟨by subst e1 e2; exact two_n (by omega) (by omega) hne2, ⟨by omega, by omega⟩, z1, z2⟩ hp, fun _ => hh⟩⟩⟩) (fun z => ⟨fun _ => hh, fun q => absurd rfl q⟩)⟩) (fun z => ⟨fun _ => hh, fun q => absurd rfl q⟩)
    · unfold wX11_without
      rintro m1 rfl
      have hM1 := hM.thr (v := 0)
      have hh := h _ hM1 (fun i hi => fr2 hi)
      exact m_areTwo hM1.1 hI.1.1 (fun u y e1 e2 hu hw hne2 => ⟨fun z => absurd z (by decide), fun _ => m_isMember hM1.1 hI.1.1 (fun k e3 hk => ⟨fun z => absurd z (by decide), fun _ => ⟨fun _ => hh, fun z1 => ⟨fun z2 => absurd ⟨by subst e1 e2; exact two_n hu hw hne2, ⟨by omega, by omega⟩, z1, z2⟩ hp, fun _ => hh⟩⟩⟩) (fun z => ⟨fun _ => hh, fun q => absurd rfl q⟩)⟩) (fun z => ⟨fun _ => hh, fun q => absurd rfl q⟩)
/-! the member without whom least goes -/
def kst (mw : Nat → Int) (f t : Nat) : Nat → Int × Int
  | 0 => (-1, 1000000)
  | k + 1 => if k = f ∨ k = t then kst mw f t k else if mw k < (kst mw f t k).2 then ((k : Int), mw k) else kst mw f t k
theorem kst_b {mw : Nat → Int} {f t N : Nat} (hb : ∀ m, m < N → m ≠ f → m ≠ t → 0 ≤ mw m ∧ mw m ≤ 787212) : ∀ k, k ≤ N → ((kst mw f t k).1 = -1 ∧ (kst mw f t k).2 = 1000000) ∨ (0 ≤ (kst mw f t k).1 ∧ (kst mw f t k).1 < 1000 + k ∧ 0 ≤ (kst mw f t k).2 ∧ (kst mw f t k).2 ≤ 787212)
  | 0, _ => Or.inl ⟨rfl, rfl⟩
  | k + 1, h => by
    have ih := kst_b hb k (by omega)
    unfold kst
    by_cases c : k = f ∨ k = t
    · rw [if_pos c]
      rcases ih with ih | ih
      · exact Or.inl ih
      · exact Or.inr ⟨ih.1, by omega, ih.2.2⟩
    · rw [if_neg c]
      have hk := hb k (by omega) (by omega) (by omega)
      split
      · exact Or.inr ⟨by (try dsimp only); omega, by (try dsimp only); omega, hk.1, hk.2⟩
      · rcases ih with ih | ih
        · exact Or.inl ih
        · exact Or.inr ⟨ih.1, by omega, ih.2.2⟩
theorem kst_skip {mw : Nat → Int} {f t k : Nat} (h : k = f ∨ k = t) : kst mw f t (k + 1) = kst mw f t k := by rw [kst, if_pos h]
theorem kst_take {mw : Nat → Int} {f t k : Nat} (h1 : k ≠ f) (h2 : k ≠ t) (h : mw k < (kst mw f t k).2) : kst mw f t (k + 1) = ((k : Int), mw k) := by rw [kst, if_neg (by omega), if_pos h]
theorem kst_keep {mw : Nat → Int} {f t k : Nat} (h1 : k ≠ f) (h2 : k ≠ t) (h : ¬ mw k < (kst mw f t k).2) : kst mw f t (k + 1) = kst mw f t k := by rw [kst, if_neg (by omega), if_neg h]
theorem op_key (a b : Int) : OpOK (wX10_key a b) (wX11_key a b) := by
  refine OpOK.of (fun X hI => ?_)
  have hN := hI.1.1.1
  by_cases hp : two (nN X.1) a b
  · obtain ⟨f, rfl⟩ : ∃ f : Nat, a = f := ⟨a.toNat, by omega⟩
    obtain ⟨t, rfl⟩ : ∃ t : Nat, b = t := ⟨b.toNat, by omega⟩
    have hf : f < nN X.1 := by omega
    have ht : t < nN X.1 := by omega
    have hne : f ≠ t := by omega
    have ex : ∀ m : Nat, ∃ v : Int, (0 ≤ v ∧ v ≤ 787212) ∧ ∃ r s', Snd (nN X.1) f t r (barS m X.1) 1000000 s' (1000000 - v) ∧ Snd (nN X.1) f t r (barS m X.1) 2147483647 s' (2147483647 - v) := fun m => by
      obtain ⟨r', s'', v', hr', hr2', hn', v0', v1', hlen', hS''⟩ := snd_most hI.1.1 hf ht hne (si_bar (B := X.1) (m := m))
      exact ⟨v', ⟨v0', v1'⟩, r', s'', hr', hr2'⟩
    obtain ⟨mw, hmw⟩ : ∃ mw : Nat → Int, ∀ m, (0 ≤ mw m ∧ mw m ≤ 787212) ∧ ∃ r s', Snd (nN X.1) f t r (barS m X.1) 1000000 s' (1000000 - mw m) ∧ Snd (nN X.1) f t r (barS m X.1) 2147483647 s' (2147483647 - mw m) := ⟨fun m => Classical.choose (ex m), fun m => Classical.choose_spec (ex m)⟩
    have kb := kst_b (mw := mw) (f := f) (t := t) (N := nN X.1) (fun m _ _ _ => (hmw m).1)
    have kN := kb (nN X.1) (Nat.le_refl _)
    by_cases hw : (kst mw f t (nN X.1)).1 = -1
    · refine ⟨-2, X, fun σ Q hC h => ?_, fun σ Q hM h => ?_, hI⟩
      · unfold wX10_key
        have e := hC.1.1
        refine s_hasBoth (fun _ _ _ _ _ _ _ => ⟨fun _ => ?_, fun z => absurd z (by decide)⟩) (fun z => absurd (by rw [e]; exact hp) z)
        unfold wLX10_key_23
        refine lp_for (fun k y τ => y = ((f : Int), (t : Int), (kst mw f t k).1, (kst mw f t k).2, (k : Int)) ∧ ∀ i, ¬ (14 ≤ i ∧ i ≤ 22) → τ i = σ i) (nN X.1) ?_ ?_ _ _ ⟨rfl, fun _ _ => rfl⟩
        · rintro k hk _ τ ⟨rfl, hF⟩ K hK
          dsimp only [wX10_key_23]
          have wk : w32 ((k : Int) + 1) = ((k + 1 : Nat) : Int) := by rw [w32_id (by omega) (by omega)]; rfl
          rw [wk]
          refine ⟨fun z => absurd z (by rw [hF 40 (by omega), e]; omega), fun _ => ⟨fun z => ?_, fun z1 => ⟨fun z2 => ?_, fun z => ?_⟩⟩⟩
          · rintro _ rfl
            exact hK _ _ ⟨by rw [kst_skip (by omega)], hF⟩
          · obtain ⟨_, r', s'', hr', hr2'⟩ := hmw k
            refine s_mostW (hC.1.fr (fun i a1 a2 => hF i (by omega))) hI.1.1 hI.1.2.1 hf ht hne hk hr' (fun σ2 f2 => ⟨fun z3 => ?_, fun z3 => ?_⟩)
            · rintro _ rfl
              exact hK _ _ ⟨by rw [kst_keep (by omega) (by omega) (by omega)], fun i hi => by rw [f2 i hi]; exact hF i hi⟩
            · rintro _ rfl
              exact hK _ _ ⟨by rw [kst_take (by omega) (by omega) (by omega)], fun i hi => by rw [f2 i hi]; exact hF i hi⟩
          · rintro _ rfl
            exact hK _ _ ⟨by rw [kst_skip (by omega)], hF⟩
        · rintro _ τ ⟨rfl, hF⟩ K
          dsimp only [wX10_key_23]
          refine ⟨fun _ => ⟨fun z => absurd hw z, fun _ => ?_⟩, fun z => absurd z (by rw [hF 40 (by omega), e]; omega)⟩
          exact h τ (hC.fr (fun i a1 a2 a3 a4 => hF i (by omega))) (fun i hi => hF i (by omega))
      · unfold wX11_key
        rintro m1 rfl
        have hM1 := hM.thr (v := 0)
        refine m_areTwo hM1.1 hI.1.1 (fun _ _ _ _ _ _ _ => ⟨fun _ => ?_, fun z => absurd z (by decide)⟩) (fun z => absurd hp z)
        unfold wLX11_key_24
        refine lp_for (fun k y τ => y = ((f : Int), (t : Int), (kst mw f t k).1, (if (kst mw f t k).1 = -1 then 0 else (kst mw f t k).2), (k : Int)) ∧ MSt X τ ∧ ∀ i, i < 300 ∨ i = 340 → τ i = σ i) (nN X.1) ?_ ?_ _ _ ⟨rfl, hM1, fun i hi => fr2 hi⟩
        · rintro k hk _ τ ⟨rfl, hT, hF⟩ K hK
          dsimp only [wX11_key_24, wX11_key_75]
          have wk : w32 ((k : Int) + 1) = ((k + 1 : Nat) : Int) := by rw [w32_id (by omega) (by omega)]; rfl
          have kk := kb k (by omega)
          rw [wk]
          refine ⟨fun z => absurd z (by rw [hT.1.1]; omega), fun _ => ⟨fun z => ?_, fun z1 => ⟨fun z2 => ?_, fun z => ?_⟩⟩⟩
          · rintro _ rfl
            exact hK _ _ ⟨by rw [kst_skip (by omega)], hT, hF⟩
          · obtain ⟨vb, r', s'', hr', hr2'⟩ := hmw k
            refine mo_mostW hI.1.1 hI.1.2.1 hT hf ht hne (by omega) hr2' (fun σ2 M2 f2 => ?_)
            have F2 : ∀ i, i < 300 ∨ i = 340 → σ2 i = σ i := fun i hi => by rw [f2 i (by omega) (by omega) (by omega) (by omega) (by omega) (by omega)]; exact hF i hi
            refine ⟨fun z3 => ?_, fun z3 => ⟨fun z4 => ?_, fun z4 => ?_⟩⟩
            · rintro _ rfl
              refine hK _ _ ⟨?_, M2, F2⟩
              rw [kst_take (by omega) (by omega) (by omega), if_neg (by (try dsimp only); omega)]
            · rintro _ rfl
              rw [if_neg z3] at z4
              refine hK _ _ ⟨?_, M2, F2⟩
              rw [kst_take (by omega) (by omega) (by omega), if_neg (by (try dsimp only); omega)]
            · rintro _ rfl
              rw [if_neg z3] at z4
              refine hK _ _ ⟨?_, M2, F2⟩
              rw [kst_keep (by omega) (by omega) (by omega)]
          · rintro _ rfl
            exact hK _ _ ⟨by rw [kst_skip (by omega)], hT, hF⟩
        · rintro _ τ ⟨rfl, hT, hF⟩ K
          dsimp only [wX11_key_24]
          exact ⟨fun _ => ⟨fun z => absurd hw z, fun _ => h τ hT hF⟩, fun z => absurd z (by rw [hT.1.1]; omega)⟩
    · refine ⟨(kst mw f t (nN X.1)).1, wL X [(kst mw f t (nN X.1)).2], fun σ Q hC h => ?_, fun σ Q hM h => ?_, xi_row hI ⟨fun y hy => ?_, by simp⟩⟩
      · unfold wX10_key
        have e := hC.1.1
        refine s_hasBoth (fun _ _ _ _ _ _ _ => ⟨fun _ => ?_, fun z => absurd z (by decide)⟩) (fun z => absurd (by rw [e]; exact hp) z)
        unfold wLX10_key_23
        refine lp_for (fun k y τ => y = ((f : Int), (t : Int), (kst mw f t k).1, (kst mw f t k).2, (k : Int)) ∧ ∀ i, ¬ (14 ≤ i ∧ i ≤ 22) → τ i = σ i) (nN X.1) ?_ ?_ _ _ ⟨rfl, fun _ _ => rfl⟩
        · rintro k hk _ τ ⟨rfl, hF⟩ K hK
          dsimp only [wX10_key_23]
          have wk : w32 ((k : Int) + 1) = ((k + 1 : Nat) : Int) := by rw [w32_id (by omega) (by omega)]; rfl
          rw [wk]
          refine ⟨fun z => absurd z (by rw [hF 40 (by omega), e]; omega), fun _ => ⟨fun z => ?_, fun z1 => ⟨fun z2 => ?_, fun z => ?_⟩⟩⟩
          · rintro _ rfl
            exact hK _ _ ⟨by rw [kst_skip (by omega)], hF⟩
          · obtain ⟨_, r', s'', hr', hr2'⟩ := hmw k
            refine s_mostW (hC.1.fr (fun i a1 a2 => hF i (by omega))) hI.1.1 hI.1.2.1 hf ht hne hk hr' (fun σ2 f2 => ⟨fun z3 => ?_, fun z3 => ?_⟩)
            · rintro _ rfl
              exact hK _ _ ⟨by rw [kst_keep (by omega) (by omega) (by omega)], fun i hi => by rw [f2 i hi]; exact hF i hi⟩
            · rintro _ rfl
              exact hK _ _ ⟨by rw [kst_take (by omega) (by omega) (by omega)], fun i hi => by rw [f2 i hi]; exact hF i hi⟩
          · rintro _ rfl
            exact hK _ _ ⟨by rw [kst_skip (by omega)], hF⟩
        · rintro _ τ ⟨rfl, hF⟩ K
          dsimp only [wX10_key_23]
          refine ⟨fun _ => ⟨fun _ => c_tell1 (fun σ3 r3 f3 => ?_), fun z => absurd z hw⟩, fun z => absurd z (by rw [hF 40 (by omega), e]; omega)⟩
          have h2 : CSt X τ := hC.fr (fun i a1 a2 a3 a4 => hF i (by omega))
          exact h σ3 (h2.row r3 (fun i a1 a2 _ => f3 i a1 a2)) (fun i hi => by rw [f3 i (by omega) (by omega)]; exact hF i (by omega))
      · unfold wX11_key
        rintro m1 rfl
        have hM1 := hM.thr (v := 0)
        refine m_areTwo hM1.1 hI.1.1 (fun _ _ _ _ _ _ _ => ⟨fun _ => ?_, fun z => absurd z (by decide)⟩) (fun z => absurd hp z)
        unfold wLX11_key_24
        refine lp_for (fun k y τ => y = ((f : Int), (t : Int), (kst mw f t k).1, (if (kst mw f t k).1 = -1 then 0 else (kst mw f t k).2), (k : Int)) ∧ MSt X τ ∧ ∀ i, i < 300 ∨ i = 340 → τ i = σ i) (nN X.1) ?_ ?_ _ _ ⟨rfl, hM1, fun i hi => fr2 hi⟩
        · rintro k hk _ τ ⟨rfl, hT, hF⟩ K hK
          dsimp only [wX11_key_24, wX11_key_75]
          have wk : w32 ((k : Int) + 1) = ((k + 1 : Nat) : Int) := by rw [w32_id (by omega) (by omega)]; rfl
          have kk := kb k (by omega)
          rw [wk]
          refine ⟨fun z => absurd z (by rw [hT.1.1]; omega), fun _ => ⟨fun z => ?_, fun z1 => ⟨fun z2 => ?_, fun z => ?_⟩⟩⟩
          · rintro _ rfl
            exact hK _ _ ⟨by rw [kst_skip (by omega)], hT, hF⟩
          · obtain ⟨vb, r', s'', hr', hr2'⟩ := hmw k
            refine mo_mostW hI.1.1 hI.1.2.1 hT hf ht hne (by omega) hr2' (fun σ2 M2 f2 => ?_)
            have F2 : ∀ i, i < 300 ∨ i = 340 → σ2 i = σ i := fun i hi => by rw [f2 i (by omega) (by omega) (by omega) (by omega) (by omega) (by omega)]; exact hF i hi
            refine ⟨fun z3 => ?_, fun z3 => ⟨fun z4 => ?_, fun z4 => ?_⟩⟩
            · rintro _ rfl
              refine hK _ _ ⟨?_, M2, F2⟩
              rw [kst_take (by omega) (by omega) (by omega), if_neg (by (try dsimp only); omega)]
            · rintro _ rfl
              rw [if_neg z3] at z4
              refine hK _ _ ⟨?_, M2, F2⟩
              rw [kst_take (by omega) (by omega) (by omega), if_neg (by (try dsimp only); omega)]
            · rintro _ rfl
              rw [if_neg z3] at z4
              refine hK _ _ ⟨?_, M2, F2⟩
              rw [kst_keep (by omega) (by omega) (by omega)]
          · rintro _ rfl
            exact hK _ _ ⟨by rw [kst_skip (by omega)], hT, hF⟩
        · rintro _ τ ⟨rfl, hT, hF⟩ K
          dsimp only [wX11_key_24]
          rw [if_neg hw]
          refine ⟨fun _ => ⟨fun _ => ?_, fun z => absurd z hw⟩, fun z => absurd z (by rw [hT.1.1]; omega)⟩
          rintro m3 e3
          have M3 : MSt (wL X []) m3 := by rw [e3]; exact mo_row0 hT
          refine mo_tell M3 (by simp) (fun σ4 M4 f4 j4 => ?_)
          exact h σ4 M4 (fun i hi => by rw [f4 i (by omega) (by omega), e3, up2_ne (by omega)]; exact hF i hi)
      · simp at hy
        omega
  · refine ⟨-1, X, fun σ Q hC h => ?_, fun σ Q hM h => ?_, hI⟩
    · unfold wX10_key
      exact s_hasBoth (not_twoC hC.1.1 hp) (fun z => ⟨fun q => absurd rfl q, fun _ => h σ hC (fun _ _ => rfl)⟩)
    · unfold wX11_key
      rintro m1 rfl
      have hM1 := hM.thr (v := 0)
      exact m_areTwo hM1.1 hI.1.1 (not_two hp) (fun z => ⟨fun q => absurd rfl q, fun _ => h _ hM1 (fun i hi => fr2 hi)⟩)
