/-! a payment that is made, or not at all; both payments -/
section GOPAY
variable {m : Nat} {B : Bk} {s : Nat → Int} {σ : Mem} {f t : Nat} {x : Int}
theorem m_goPay {r : List (Nat × Int)} {s1 : Nat → Int} {l1 : Int} {R : List Int} {Q : Int → Mem → Prop} (hM : MN σ (GM m B s)) (hI : IvA B) (hZ : IvB B) (hS : SI m B s) (hb : ∀ u : Nat, u < 8 → ((u : Int) = σ 300 14 ↔ u = m)) (hf : f < nN B) (ht : t < nN B) (hne : f ≠ t) (hx : 1 ≤ x ∧ x ≤ 9999) (hR : MR R σ) (hr : Snd (nN B) f t r s x s1 l1) (h : ∀ σ', MN σ' (GM m B (if l1 = 0 then s1 else s)) → MR R σ' → (∀ i, i ≠ 300 → i ≠ 301 → i ≠ 304 → i ≠ 312 → i ≠ 313 → i ≠ 316 → σ' i = σ i) → (∀ k, ¬ (405 ≤ k ∧ k < 810) → σ' 316 k = σ 316 k) → (∀ j, j ≠ 4 → j ≠ 13 → j ≠ 16 → j ≠ 17 → σ' 300 j = σ 300 j) → Q (if l1 = 0 then 1 else 0) σ') : wX11_goPay (f : Int) (t : Int) x σ Q := by
  unfold wX11_goPay
  refine m_layAside (d := 1) hM (by omega) (fun σ1 a1 k1 f1 => ?_)
  refine m_goParts (m := m) (B := B) (s := s) (R := R) (by unfold MN; rw [f1 301 (by omega)]; exact hM) hI hZ hS (fun u hu => by rw [f1 300 (by omega)]; exact hb u hu) hf ht hne (by omega) (by omega) (hR.fr (by rw [f1 300 (by omega)]) (f1 304 (by omega))) (fun z => absurd rfl z) hr (fun σ2 E R2 => ?_)
  obtain ⟨E1, E2, E3, E4, E5⟩ := E
  rw [if_pos rfl] at R2
  refine ⟨fun z => ?_, fun z => ?_⟩
  · rw [if_neg (show ¬ l1 = 0 by omega), if_neg (show ¬ l1 = 0 by omega)] at h
    refine m_comesBack (B := GM m B s) (d := 1) (by rw [E4 316 (by omega) (by omega) (by omega) (by omega) (by omega)]; exact a1) (by omega) (fun σ3 M3 f3 => ?_)
    refine h σ3 M3 (R2.fr (by rw [f3 300 (by omega)]) (f3 304 (by omega))) (fun i a1 a2 a3 a4 a5 a6 => by rw [f3 i a2, E4 i a1 a2 a3 a4 a5, f1 i a6]) (fun k hk => ?_) (fun j a1 a2 a3 a4 => by rw [f3 300 (by omega), E5 j a1 a2 a3 a4, f1 300 (by omega)])
    rw [f3 316 (by omega), E4 316 (by omega) (by omega) (by omega) (by omega) (by omega)]; exact k1 k (by omega)
  · rw [if_pos (show l1 = 0 by omega), if_pos (show l1 = 0 by omega)] at h
    refine h σ2 E1 R2 (fun i a1 a2 a3 a4 a5 a6 => by rw [E4 i a1 a2 a3 a4 a5, f1 i a6]) (fun k hk => ?_) (fun j a1 a2 a3 a4 => by rw [E5 j a1 a2 a3 a4, f1 300 (by omega)])
    rw [E4 316 (by omega) (by omega) (by omega) (by omega) (by omega)]; exact k1 k (by omega)
end GOPAY
/-- what was taken back keeps all but what is tried -/
theorem MSt.back {X : St} {σ σ' : Mem} (h : MSt X σ) (hM : MN σ' X.1) (hR : MR X.2.2.2.2 σ') (hF : ∀ i, i = 302 ∨ i = 327 ∨ i = 331 ∨ i = 332 → σ' i = σ i) (hj : ∀ j, j = 2 ∨ j = 14 ∨ j = 28 → σ' 300 j = σ 300 j) : MSt X σ' := ⟨hM, h.2.1.fr (hF 332 (by omega)) (hF 331 (by omega)), h.2.2.1.fr (hj 28 (by omega)) (hF 327 (by omega)), h.2.2.2.1.fr (hj 2 (by omega)) (hF 302 (by omega)), hR, by rw [hj 14 (by omega)]; exact h.2.2.2.2.2⟩
theorem bor_12 : bor 0 1 = 1 ∧ bor 0 0 = 0 ∧ bor 0 2 = 2 ∧ bor 1 2 = 3 := by decide +kernel
theorem op_both (a b x c d y : Int) : OpOK (wX10_both a b x c d y) (wX11_both a b x c d y) := by
  refine OpOK.of (fun X hI => ?_)
  have hN := hI.1.1.1
  by_cases hp : (two (nN X.1) a b ∧ 1 ≤ x ∧ x ≤ 9999) ∧ (two (nN X.1) c d ∧ 1 ≤ y ∧ y ≤ 9999)
  · obtain ⟨f, rfl⟩ : ∃ f : Nat, a = f := ⟨a.toNat, by omega⟩
    obtain ⟨t, rfl⟩ : ∃ t : Nat, b = t := ⟨b.toNat, by omega⟩
    obtain ⟨u, rfl⟩ : ∃ u : Nat, c = u := ⟨c.toNat, by omega⟩
    obtain ⟨w, rfl⟩ : ∃ w : Nat, d = w := ⟨d.toNat, by omega⟩
    have hf : f < nN X.1 := by omega
    have ht : t < nN X.1 := by omega
    have hne : f ≠ t := by omega
    have hu : u < nN X.1 := by omega
    have hw : w < nN X.1 := by omega
    have hne2 : u ≠ w := by omega
    have hA := hI.1.1
    have hZ := hI.1.2.1
    obtain ⟨r1, s1, l1, h1, _⟩ := snd_ex hA hf ht hne (si_sp (B := X.1)) (l := x) (by omega)
    have q1 := Prun.si hA hf ht hne h1.1 si_sp (by omega)
    obtain ⟨r2, s2, v, h2, h2', _, v0, v1, _, _⟩ := snd_most hA hu hw hne2 q1.1
    obtain ⟨r3, s3, l3, h3, _⟩ := snd_ex hA hu hw hne2 (si_sp (B := X.1)) (l := y) (by omega)
    have q3 := Prun.si hA hu hw hne2 h3.1 si_sp (by omega)
    obtain ⟨r4, s4, v4, h4, h4', _, v40, v41, _, _⟩ := snd_most hA hf ht hne q3.1
    obtain ⟨r5, s5, l5, h5, _⟩ := snd_ex hA hf ht hne q3.1 (l := x) (by omega)
    have q5 := Prun.si hA hf ht hne h5.1 q3.1 (by omega)
    have c5 := snd_x hA hf ht hne q3.1 h4 (by omega) h5
    -- the first order's share, the most behind it, the second order's share
    obtain ⟨g, hg⟩ : ∃ g : Int, g = if l1 = 0 then (if y ≤ v then 1 else 0) else 0 := ⟨_, rfl⟩
    obtain ⟨k, hk⟩ : ∃ k : Int, k = if l1 = 0 then v else -1 := ⟨_, rfl⟩
    have gb : g = 0 ∨ g = 1 := by rw [hg]; split <;> (try split) <;> omega
    refine ⟨g + (if l3 = 0 ∧ l5 = 0 then 2 else 0), wL X [k], fun σ Q hC h => ?_, fun σ Q hM h => ?_, xi_row hI ⟨fun z hz => ?_, by simp⟩⟩
    · have last : ∀ (n : Int) (τ : Mem), n = g + (if l3 = 0 ∧ l5 = 0 then 2 else 0) → (∀ i, ¬ (14 ≤ i ∧ i ≤ 22) → τ i = σ i) → wX10_both_134 Q n k τ := fun n τ en hF => by
        unfold wX10_both_134
        rw [en]
        have h0 : CSt X τ := hC.fr (fun i a1 a2 a3 a4 => hF i (by omega))
        exact c_tell1 (fun σ3 r3 f3 => h σ3 (h0.row r3 (fun i a1 a2 _ => f3 i a1 a2)) (fun i hi => by rw [f3 i (by omega) (by omega)]; exact hF i (by omega)))
      have second : ∀ τ : Mem, (∀ i, ¬ (14 ≤ i ∧ i ≤ 22) → τ i = σ i) → wX10_both_88 Q (f : Int) (t : Int) x (u : Int) (w : Int) y g k τ := fun τ hF => by
        unfold wX10_both_88
        refine s_loadSend (by omega) (hC.1.fr (fun i a1 a2 => hF i (by omega))) hA hZ hu hw hne2 (by omega) (by omega) h3 (fun τ2 k0 k15 k16 f2 => ⟨fun z => last _ τ2 (by rw [if_neg (by omega)]; omega) (fun i hi => by rw [f2 i hi]; exact hF i hi), fun z => ?_⟩)
        refine s_send (m := 8) (s := s3) hA hf ht hne k0 k15 q3.1 (by omega) (by omega) h5 (fun τ3 _ _ _ _ f3 => ?_)
        have F3 : ∀ i, ¬ (14 ≤ i ∧ i ≤ 22) → τ3 i = σ i := fun i hi => by rw [f3 i (by omega), f2 i hi]; exact hF i hi
        refine ⟨fun z2 => last _ τ3 (by rw [if_neg (by omega)]; omega) F3, fun z2 => ?_⟩
        rintro _ rfl
        exact last _ τ3 (by rw [if_pos (by omega), w32_id (by omega) (by omega)]) F3
      unfold wX10_both
      refine s_isPayment hC.1 (fun _ _ _ _ _ _ _ _ _ => ⟨fun z => absurd z (by decide), fun _ => s_isPayment hC.1 (fun _ _ _ _ _ _ _ _ _ => ⟨fun _ => ?_, fun z => absurd z (by decide)⟩) (fun z => absurd hp.2 z)⟩) (fun z => absurd hp.1 z)
      refine s_loadSend (by omega) hC.1 hA hZ hf ht hne (by omega) (by omega) h1 (fun τ1 k0 k15 k16 f1 => ⟨fun z => ?_, fun z => ?_⟩)
      · have hl : ¬ l1 = 0 := by omega
        rw [if_neg hl] at hg hk
        rw [← hg, ← hk]
        exact second τ1 f1
      · have hl : l1 = 0 := by omega
        rw [if_pos hl] at hg hk
        refine s_send (m := 8) (s := s1) hA hu hw hne2 k0 k15 q1.1 (by omega) (by omega) h2 (fun τ2 _ _ _ _ f2 => ?_)
        have F2 : ∀ i, ¬ (14 ≤ i ∧ i ≤ 22) → τ2 i = σ i := fun i hi => by rw [f2 i (by omega)]; exact f1 i hi
        rw [show (1000000 : Int) - (1000000 - v) = v by omega, ← hk]
        unfold wX10_both_85
        refine ⟨fun z2 => ?_, fun z2 => ?_⟩
        · rintro _ rfl
          rw [if_neg (by omega)] at hg
          rw [show w32 (0 + 0) = g by rw [hg]; decide +kernel]
          exact second τ2 F2
        · rintro _ rfl
          rw [if_pos (by omega)] at hg
          rw [show w32 (0 + 1) = g by rw [hg]; decide +kernel]
          exact second τ2 F2
    · unfold wX11_both
      rintro m1 e1
      have hM1 : MSt X m1 := by rw [e1]; exact hM.thr
      have f1 : ∀ i, i < 300 ∨ i = 340 → m1 i = σ i := fun i hi => by rw [e1, fr2 hi]
      clear e1
      refine m_isPayment hM1.1 hA (fun _ _ _ _ _ _ _ _ _ => ⟨fun z => absurd z (by decide), fun _ => m_isPayment hM1.1 hA (fun _ _ _ _ _ _ _ _ _ => ⟨fun _ => ?_, fun z => absurd z (by decide)⟩) (fun z => absurd hp.2 z)⟩) (fun z => absurd hp.1 z)
      refine m_layAside (d := 2) hM1.1 (by omega) (fun σ2 a2 k2 f2 => ?_)
      have M2 : MSt X σ2 := hM1.fr (fun j _ => by rw [f2 300 (by omega)]) (fun i hi => f2 i (by omega))
      have f2' : ∀ i, i < 300 ∨ i = 340 → σ2 i = σ i := fun i hi => by rw [f2 i (by omega)]; exact f1 i hi
      -- what stays while things are tried
      let Kp2 : Mem → Prop := fun τ => MR X.2.2.2.2 τ ∧ (∀ i, i ≠ 300 → i ≠ 301 → i ≠ 304 → i ≠ 312 → i ≠ 313 → i ≠ 316 → τ i = σ2 i) ∧ (∀ k, 810 ≤ k → τ 316 k = σ2 316 k) ∧ (∀ j, j ≠ 4 → j ≠ 13 → j ≠ 16 → j ≠ 17 → j ≠ 18 → τ 300 j = σ2 300 j)
      have back : ∀ (τ : Mem) (Q2 : Mem → Prop), Kp2 τ → (∀ τ', MSt X τ' → Kp2 τ' → Q2 τ') → wX11_comesBack 2 τ Q2 := fun τ Q2 hK hQ => by
        obtain ⟨c1, c2, c3, c4⟩ := hK
        refine m_comesBack (B := X.1) (d := 2) (a2.cp (fun k hk => c3 _ (by omega))) (by omega) (fun σ3 M3 f3 => ?_)
        have R3 : MR X.2.2.2.2 σ3 := c1.fr (by rw [f3 300 (by omega)]) (f3 304 (by omega))
        refine hQ σ3 (M2.back M3 R3 (fun i hi => by rw [f3 i (by omega)]; exact c2 i (by omega) (by omega) (by omega) (by omega) (by omega) (by omega)) (fun j hj => by rw [f3 300 (by omega)]; exact c4 j (by omega) (by omega) (by omega) (by omega) (by omega))) ⟨R3, fun i b1 b2 b3 b4 b5 b6 => by rw [f3 i b2]; exact c2 i b1 b2 b3 b4 b5 b6, fun k hk => by rw [f3 316 (by omega)]; exact c3 k hk, fun j b1 b2 b3 b4 b5 => by rw [f3 300 (by omega)]; exact c4 j b1 b2 b3 b4 b5⟩
      have last : ∀ (n : Int) (τ : Mem), n = g + (if l3 = 0 ∧ l5 = 0 then 2 else 0) → Kp2 τ → wX11_both_112 Q n k τ := fun n τ en hK => by
        unfold wX11_both_112
        rw [en]
        refine back τ _ hK (fun τ' M' K' => ?_)
        rintro m2 e2
        have M3 : MSt (wL X []) m2 := by rw [e2]; exact mo_row0 M'
        refine mo_tell M3 (by simp) (fun σ4 M4 f4 j4 => ?_)
        exact h σ4 M4 (fun i hi => by rw [f4 i (by omega) (by omega), e2, up2_ne (by omega), K'.2.1 i (by omega) (by omega) (by omega) (by omega) (by omega) (by omega)]; exact f2' i hi)
      have second : ∀ τ : Mem, Kp2 τ → wX11_both_78 Q (f : Int) (t : Int) x (u : Int) (w : Int) y g k τ := fun τ hK => by
        unfold wX11_both_78
        refine back τ _ hK (fun τ' M' K' => ?_)
        refine m_goPay (m := 8) (s := sp X.1) (mn_gm M'.1) hA hZ si_sp (nobar M'.2.2.2.2.2) hu hw hne2 hp.2.2 M'.2.2.2.2.1 h3 (fun σ4 M4 R4 f4 g4 j4 => ?_)
        have K4 : Kp2 σ4 := ⟨R4, fun i b1 b2 b3 b4 b5 b6 => by rw [f4 i b1 b2 b3 b4 b5 b6]; exact K'.2.1 i b1 b2 b3 b4 b5 b6, fun k hk => by rw [g4 k (by omega)]; exact K'.2.2.1 k hk, fun j b1 b2 b3 b4 b5 => by rw [j4 j b1 b2 b3 b4]; exact K'.2.2.2 j b1 b2 b3 b4 b5⟩
        by_cases hl : l3 = 0
        · rw [if_pos hl] at M4 ⊢
          refine ⟨fun z => absurd z (by decide), fun _ => ?_⟩
          refine m_mostOf (m := 8) (s := s3) M4 hA hZ q3.1 (nobar (by rw [j4 14 (by omega) (by omega) (by omega) (by omega)]; exact M'.2.2.2.2.2)) hf ht hne R4 h4' (fun σ5 b5 _ _ R5 _ _ _ f5 g5 j5 => ?_)
          have K5 : Kp2 σ5 := ⟨R5, fun i b1 b2 b3 b4 b5 b6 => by rw [f5 i b1 b2 b3 b4 b5 b6]; exact K4.2.1 i b1 b2 b3 b4 b5 b6, fun k hk => by rw [g5 k (by omega)]; exact K4.2.2.1 k hk, fun j b1 b2 b3 b4 b5 => by rw [j5 j b1 b2 b3 b4 b5]; exact K4.2.2.2 j b1 b2 b3 b4 b5⟩
          refine ⟨fun z => last g σ5 (by rw [if_neg (by omega)]; omega) K5, fun z => ?_⟩
          rintro _ rfl
          refine last _ σ5 ?_ K5
          rw [if_pos (by omega)]
          rcases gb with e | e <;> rw [e]
          · rw [bor_12.2.2.1]; rfl
          · rw [bor_12.2.2.2]; rfl
        · rw [if_neg hl]
          exact ⟨fun _ => last g σ4 (by rw [if_neg (by omega)]; omega) K4, fun z => absurd rfl z⟩
      refine m_goPay (m := 8) (s := sp X.1) (mn_gm M2.1) hA hZ si_sp (nobar M2.2.2.2.2.2) hf ht hne hp.1.2 M2.2.2.2.2.1 h1 (fun σ4 M4 R4 f4 g4 j4 => ?_)
      have K4 : Kp2 σ4 := ⟨R4, f4, fun k hk => g4 k (by omega), fun j b1 b2 b3 b4 _ => j4 j b1 b2 b3 b4⟩
      by_cases hl : l1 = 0
      · rw [if_pos hl] at M4 hg hk ⊢
        refine ⟨fun z => absurd z (by decide), fun _ => ?_⟩
        refine m_mostOf (m := 8) (s := s1) M4 hA hZ q1.1 (nobar (by rw [j4 14 (by omega) (by omega) (by omega) (by omega)]; exact M2.2.2.2.2.2)) hu hw hne2 R4 h2' (fun σ5 b5 _ _ R5 _ _ _ f5 g5 j5 => ?_)
        have K5 : Kp2 σ5 := ⟨R5, fun i b1 b2 b3 b4 b5 b6 => by rw [f5 i b1 b2 b3 b4 b5 b6]; exact K4.2.1 i b1 b2 b3 b4 b5 b6, fun k hk => by rw [g5 k (by omega)]; exact K4.2.2.1 k hk, fun j b1 b2 b3 b4 b5 => by rw [j5 j b1 b2 b3 b4 b5]; exact K4.2.2.2 j b1 b2 b3 b4 b5⟩
        rw [← hk]
        unfold wX11_both_75
        rw [hk]
        refine ⟨fun z => ?_, fun z => ?_⟩
        · rintro _ rfl
          rw [if_neg (by omega)] at hg
          rw [show bor 0 0 = g by rw [hg]; exact bor_12.2.1, ← hk]
          exact second σ5 K5
        · rintro _ rfl
          rw [if_pos (by omega)] at hg
          rw [show bor 0 1 = g by rw [hg]; exact bor_12.1, ← hk]
          exact second σ5 K5
      · rw [if_neg hl] at hg hk ⊢
        refine ⟨fun _ => ?_, fun z => absurd rfl z⟩
        rw [← hg, ← hk]
        exact second σ4 K4
    · simp at hz
      rw [hz, hk]
      split <;> omega
  · refine ⟨-1, X, fun σ Q hC h => ?_, fun σ Q hM h => ?_, hI⟩
    · unfold wX10_both
      have hh := h σ hC (fun _ _ => rfl)
      refine s_isPayment hC.1 (fun u v e1 e2 hu hv hne z1 z2 => ⟨fun z => absurd z (by decide), fun _ => s_isPayment hC.1 (fun u' v' e1' e2' hu' hv' hne' z1' z2' => absurd ⟨⟨by subst e1 e2; exact two_n hu hv hne, z1, z2⟩, ⟨by subst e1' e2'; exact two_n hu' hv' hne', z1', z2'⟩⟩ hp) (fun z => ⟨fun q => absurd rfl q, fun _ => hh⟩)⟩) (fun z => ⟨fun _ => hh, fun q => absurd rfl q⟩)
    · unfold wX11_both
      rintro m1 rfl
      have hM1 := hM.thr (v := 0)
      have hh := h _ hM1 (fun i hi => fr2 hi)
      refine m_isPayment hM1.1 hI.1.1 (fun u v e1 e2 hu hv hne z1 z2 => ⟨fun z => absurd z (by decide), fun _ => m_isPayment hM1.1 hI.1.1 (fun u' v' e1' e2' hu' hv' hne' z1' z2' => absurd ⟨⟨by subst e1 e2; exact two_n hu hv hne, z1, z2⟩, ⟨by subst e1' e2'; exact two_n hu' hv' hne', z1', z2'⟩⟩ hp) (fun z => ⟨fun q => absurd rfl q, fun _ => hh⟩)⟩) (fun z => ⟨fun _ => hh, fun q => absurd rfl q⟩)
