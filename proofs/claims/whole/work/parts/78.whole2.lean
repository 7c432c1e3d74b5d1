theorem mo_change2 {X : St} {σ : Mem} {Q : Mem → Prop} (h : MSt X σ) (hl : X.2.2.1.length ≤ 8) (k : ∀ σ', MSt (wBP X X.1 (pushP X.2.2.1 X.1)) σ' → (∀ i, i ≠ 327 → i ≠ 328 → i ≠ 300 → σ' i = σ i) → (∀ j, j ≠ 28 → σ' 300 j = σ 300 j) → Q σ') : wX11_change σ Q :=
  m_change h.1 h.2.2.1 hl (fun σ' p f1 f2 => k σ' ⟨by unfold MN; rw [f1 301 (by omega) (by omega) (by omega)]; exact h.1, h.2.1.fr (f1 332 (by omega) (by omega) (by omega)) (f1 331 (by omega) (by omega) (by omega)), p, h.2.2.2.1.fr (f2 2 (by omega)) (f1 302 (by omega) (by omega) (by omega)), h.2.2.2.2.1.fr (f2 4 (by omega)) (f1 304 (by omega) (by omega) (by omega)), by rw [f2 14 (by omega)]; exact h.2.2.2.2.2⟩ f1 f2)
section MWIDE
variable {m : Nat} {B : Bk} {s : Nat → Int} {σ : Mem} {f t : Nat}
theorem m_widest {W : Int} {Q : Int → Mem → Prop} (hM : MN σ (GM m B s)) (hI : IvA B) (hZ : IvB B) (hS : SI m B s) (hb : ∀ u : Nat, u < 8 → ((u : Int) = σ 300 14 ↔ u = m)) (hf : f < nN B) (ht : t < nN B) (hW : Wd (nN B) s f t W) (h : ∀ σ', (∀ i, i ≠ 300 → i ≠ 312 → i ≠ 313 → σ' i = σ i) → (∀ j, j ≠ 13 → σ' 300 j = σ 300 j) → Q W σ') : wX11_widest (f : Int) (t : Int) σ Q := by
  have wb := hW.1
  unfold wX11_widest wLX11_widest_7
  refine lp_in (I := fun y τ => ∃ lo hi : Int, y = ((f : Int), (t : Int), lo, hi) ∧ 0 ≤ lo ∧ lo ≤ W ∧ W ≤ hi ∧ hi ≤ 9999 ∧ (∀ i, i ≠ 300 → i ≠ 312 → i ≠ 313 → τ i = σ i) ∧ ∀ j, j ≠ 13 → τ 300 j = σ 300 j) (μ := fun y _ => (y.2.2.2 - y.2.2.1).toNat) ?_ _ _ ⟨0, 9999, rfl, by omega, by omega, by omega, by omega, fun _ _ _ _ => rfl, fun _ _ => rfl⟩
  rintro y τ ⟨lo, hi, rfl, h0, h1, h2, h3, hF, hJ⟩ K hK
  dsimp only [wX11_widest_7]
  refine ⟨fun z => ?_, fun z => ?_⟩
  · rw [show lo = W by omega]; exact h τ hF hJ
  · rintro _ rfl
    rw [w32_id (a := lo + hi) (by omega) (by omega), w32_id (a := lo + hi + 1) (by omega) (by omega), bdiv2 (by omega) (by omega)]
    have hx1 : 1 ≤ (lo + hi + 1) / 2 := by omega
    have hx2 : (lo + hi + 1) / 2 ≤ 9999 := by omega
    have hw := hW.2 _ hx1 hx2
    refine m_findWay (m := m) (s := s) (by unfold MN; rw [hF 301 (by omega) (by omega) (by omega)]; exact hM) hI hZ hS (fun u hu => by rw [hJ 14 (by omega)]; exact hb u hu) hf ht hx1 (fun σ2 hn f2 => ⟨fun _ => ?_, fun q => absurd rfl q⟩) (fun σ2 L P hP _ _ f2 j2 => ⟨fun q => absurd q (by decide), fun _ => ?_⟩)
    · have c : ¬ (lo + hi + 1) / 2 ≤ W := fun q => (hw.mp q) (now_sep hf ht hn)
      rintro _ rfl
      rw [w32_id (by omega) (by omega)]
      refine hK _ _ ⟨lo, (lo + hi + 1) / 2 - 1, rfl, h0, h1, by omega, by omega, fun i a1 a2 a3 => by rw [f2 i a2]; exact hF i a1 a2 a3, fun j hj => by rw [f2 300 (by omega)]; exact hJ j hj⟩ ?_
      (try dsimp only)
      omega
    · have c : (lo + hi + 1) / 2 ≤ W := hw.mpr (fun q => hP.no hf (sep_now hf ht q))
      refine hK _ _ ⟨(lo + hi + 1) / 2, hi, rfl, by omega, c, h2, h3, fun i a1 a2 a3 => by rw [f2 i a1 a2 a3]; exact hF i a1 a2 a3, fun j hj => by rw [j2 j hj]; exact hJ j hj⟩ ?_
      (try dsimp only)
      omega
end MWIDE
section CWHOLE
variable {B : Bk} {L0 : List Int}
theorem ca_nowhole {a b x : Int} (hp : ¬ (two (nN B) a b ∧ 1 ≤ x ∧ x ≤ 9999)) : CAct B L0 (fun τ Q => wX10_payWhole a b x τ Q) (-1, B, L0) := by
  intro τ Q hC hR h
  show wX10_payWhole a b x τ Q
  unfold wX10_payWhole
  exact s_isPayment hC (not_pay hp) (fun z => ⟨fun q => absurd rfl q, fun _ => h _ hC hR (fun _ _ _ => rfl)⟩)
theorem ca_whole0 (hI : Inv B) {f t : Nat} {x W : Int} (hf : f < nN B) (ht : t < nN B) (hne : f ≠ t) (hx : 1 ≤ x ∧ x ≤ 9999) (hn : NoW (nN B) (sp B) x f t) (hW : Wd (nN B) (sp B) f t W) : CAct B L0 (fun τ Q => wX10_payWhole (f : Int) (t : Int) x τ Q) (-4, B, [W]) := by
  intro τ Q hC hR h
  have hN := hI.1.1
  show wX10_payWhole (f : Int) (t : Int) x τ Q
  unfold wX10_payWhole
  refine s_isPayment hC (fun u v e1 e2 hu hv hne2 z1 z2 => ⟨fun _ => ?_, fun z => absurd z (by decide)⟩) (fun z => absurd ⟨two_n hf ht hne, hx⟩ z)
  refine s_load (by omega) hC hI.1 hI.2.1 (fun σ1 g0 g15 g16 gf => ?_)
  refine s_findWay (s := sp B) (by omega) hf ht g0 g15 (fun σ2 _ f2 => ⟨fun q => absurd rfl q, fun _ => ?_⟩) (fun σ2 L P hW _ _ _ _ => (hW.no hf hn).elim)
  refine s_widest (s := sp B) hN hf ht hne (by rw [f2 14 (by omega) (by omega)]; exact g0) (fun i hi => by rw [f2 15 (by omega) (by omega)]; exact g15 i hi) (fun i hi => by have := sp_b hI.1 hi; omega) (fun σ3 W3 hW3 f3 => ?_)
  obtain rfl := hW3.eq hW
  have F3 : ∀ i, ¬ (14 ≤ i ∧ i ≤ 22) → σ3 i = τ i := fun i hi => by rw [f3 i (by omega), f2 i (by omega) (by omega)]; exact gf i (by omega) (by omega) (by omega)
  exact c_tell1 (fun σ4 r4 f4 => h σ4 (hC.fr (fun i a1 a2 => by rw [f4 i (by omega) (by omega)]; exact F3 i (by omega))) r4 (fun i a1 a2 => by rw [f4 i (by omega) (by omega)]; exact F3 i (by omega)))
theorem whole_si (hI : Inv B) {f t : Nat} {x : Int} {L : Nat} {P : Nat → Nat} (hf : f < nN B) (ht : t < nN B) (hne : f ≠ t) (hx : 1 ≤ x ∧ x ≤ 9999) (hW : IsW (nN B) (sp B) x f t L P) : ∀ k, k < L → SI 8 B (pushS (sp B) P x k) := by
  have hN := hI.1.1
  obtain ⟨hL2, hLN, q0, qL, hPn, hinj, he⟩ := hW.sh hf ht hne
  exact (si_sp (B := B)).push (fun i hi => by have := hPn i hi; omega) hinj (by omega) (fun i hi => ⟨by have := he i hi; omega, he i hi⟩)
theorem ca_whole1 (hI : Inv B) {f t : Nat} {x : Int} {L : Nat} {P : Nat → Nat} (hf : f < nN B) (ht : t < nN B) (hne : f ≠ t) (hx : 1 ≤ x ∧ x ≤ 9999) (hW : IsW (nN B) (sp B) x f t L P) : CAct B L0 (fun τ Q => wX10_payWhole (f : Int) (t : Int) x τ Q) ((L : Int), GM 8 B (pushS (sp B) P x (L - 1)), wayR L P) := by
  intro τ Q hC hR h
  have hN := hI.1.1
  obtain ⟨hL2, hLN, q0, qL, hPn, hinj, he⟩ := hW.sh hf ht hne
  have hsi := whole_si hI hf ht hne hx hW
  show wX10_payWhole (f : Int) (t : Int) x τ Q
  unfold wX10_payWhole
  refine s_isPayment hC (fun u v e1 e2 hu hv hne2 z1 z2 => ⟨fun _ => ?_, fun z => absurd z (by decide)⟩) (fun z => absurd ⟨two_n hf ht hne, hx⟩ z)
  refine s_load (by omega) hC hI.1 hI.2.1 (fun σ1 g0 g15 g16 gf => ?_)
  refine s_findWay (s := sp B) (by omega) hf ht g0 g15 (fun σ2 q _ => (hW.no hf q).elim) (fun σ2 L2 P2 hW2 e7 e20 f2 j2 => ⟨fun _ => ?_, fun q => absurd q (by decide)⟩)
  obtain ⟨eL, eP⟩ := hW2.eq hf hW
  subst eL
  have e20' : ∀ i, i < L2 → σ2 20 i = ((P i : Nat) : Int) := fun i hi => by rw [e20 i hi, eP i hi]
  refine s_pushAlong (s := sp B) (P := P) ⟨by omega, by omega⟩ e7 e20' (fun i hi => by have := hPn i hi; omega) (fun i hi e => by have := hinj _ (by omega) _ hi e; omega) (fun i hi => by rw [f2 15 (by omega) (by omega) (by omega) (by omega)]; exact g15 i hi) (by omega) (fun k hk i hi => by
      have := (hsi k hk).b hI.1 hi
      omega) (fun σ3 e15 f3 => ?_)
  have F3 : ∀ i, ¬ (14 ≤ i ∧ i ≤ 22) → σ3 i = τ i := fun i hi => by rw [f3 i (by omega), f2 i (by omega) (by omega) (by omega) (by omega)]; exact gf i (by omega) (by omega) (by omega)
  refine s_bookIn (s := pushS (sp B) P x (L2 - 1)) (by omega) (hC.fr (fun i a1 a2 => F3 i (by omega))) hI.1 (hsi _ (by omega)) (by rw [f3 14 (by omega), j2 0 (by omega)]; exact g0) (fun i hi => by rw [f3 16 (by omega), f2 16 (by omega) (by omega) (by omega) (by omega)]; exact g16 i hi) e15 (fun σ4 C4 f4 => ?_)
  refine s_tellWay (L := L2) (P := P) (by omega) (by rw [f4 14 (by omega), f3 14 (by omega)]; exact e7) (fun i hi => by rw [f4 20 (by omega), f3 20 (by omega)]; exact e20' i hi) (fun σ5 r5 f5 => ?_)
  rw [show σ5 14 7 = (L2 : Int) by rw [f5 14 (by omega) (by omega), f4 14 (by omega), f3 14 (by omega)]; exact e7]
  exact h σ5 (C4.fr (fun i a1 a2 => f5 i (by omega) (by omega))) r5 (fun i a1 a2 => by rw [f5 i (by omega) (by omega), f4 i (by omega)]; exact F3 i (by omega))
end CWHOLE
theorem op_whole (a b x : Int) : OpOK (wX10_whole a b x) (wX11_whole a b x) := by
  refine OpOK.of (fun X hI => ?_)
  have hN := hI.1.1.1
  by_cases hp : two (nN X.1) a b ∧ 1 ≤ x ∧ x ≤ 9999
  · obtain ⟨f, rfl⟩ : ∃ f : Nat, a = f := ⟨a.toNat, by omega⟩
    obtain ⟨t, rfl⟩ : ∃ t : Nat, b = t := ⟨b.toNat, by omega⟩
    have hf : f < nN X.1 := by omega
    have ht : t < nN X.1 := by omega
    have hne : f ≠ t := by omega
    rcases w_or (s := sp X.1) (x := x) trivial hf ht with hn | ⟨L, P, hW⟩
    · obtain ⟨W, hWd⟩ := ex_Wd (nN X.1) (sp X.1) f t
      have wb := hWd.1
      refine ⟨_, _, cto_rem (ca_whole0 hI.1 hf ht hne hp.2 hn hWd), fun σ Q hM h => ?_, xi_rem hI hI.1 ⟨fun y hy => ?_, by simp⟩⟩
      · unfold wX11_whole
        rintro m1 rfl
        have hM1 := hM.thr (v := 0)
        refine m_isPayment hM1.1 hI.1.1 (fun u w e1 e2 hu hw hne2 z1 z2 => ⟨fun _ => ?_, fun z => absurd z (by decide)⟩) (fun z => absurd hp z)
        rintro m3 e3
        have M3 : MSt (wL X []) m3 := by rw [e3]; exact mo_row0 hM1
        have f3 : ∀ i, i < 300 ∨ i = 340 → m3 i = σ i := fun i hi => by rw [e3, up2_ne (by omega), fr2 hi]
        refine m_findWay (m := 8) (s := sp X.1) (mn_gm M3.1) hI.1.1 hI.1.2.1 si_sp (nobar M3.2.2.2.2.2) hf ht z1 (fun σ2 _ f2 => ⟨fun q => absurd rfl q, fun _ => ?_⟩) (fun σ2 L P hW _ _ _ _ => (hW.no hf hn).elim)
        have M2 : MSt (wL X []) σ2 := M3.fr (fun j _ => by rw [f2 300 (by omega)]) (fun i hi => f2 i (by omega))
        refine m_widest (m := 8) (s := sp X.1) (mn_gm M2.1) hI.1.1 hI.1.2.1 si_sp (nobar M2.2.2.2.2.2) hf ht hWd (fun σ4 f4 j4 => ?_)
        have M4 : MSt (wL X []) σ4 := M2.fr (fun j hj => j4 j (by omega)) (fun i hi => f4 i (by omega) (by omega) (by omega))
        refine mo_tell M4 (by simp) (fun σ5 M5 f5 j5 => ?_)
        have er : remX X (-4, X.1, [W]) = wL X [W] := rfl
        rw [er] at h
        exact h σ5 M5 (fun i hi => by rw [f5 i (by omega) (by omega), f4 i (by omega) (by omega) (by omega), f2 i (by omega)]; exact f3 i hi)
      · simp at hy
        omega
    · obtain ⟨hL2, hLN, q0, qL, hPn, hinj, he⟩ := hW.sh hf ht hne
      have hsi := whole_si hI.1 hf ht hne hp.2 hW
      refine ⟨_, _, cto_rem (ca_whole1 hI.1 hf ht hne hp.2 hW), fun σ Q hM h => ?_, xi_rem hI (inv_gm hI.1 (hsi _ (by omega))) (wayR_b (by omega) (fun i hi => by have := hPn i hi; omega))⟩
      unfold wX11_whole
      rintro m1 rfl
      have hM1 := hM.thr (v := 0)
      refine m_isPayment hM1.1 hI.1.1 (fun u w e1 e2 hu hw hne2 z1 z2 => ⟨fun _ => ?_, fun z => absurd z (by decide)⟩) (fun z => absurd hp z)
      rintro m3 e3
      have M3 : MSt (wL X []) m3 := by rw [e3]; exact mo_row0 hM1
      have f3 : ∀ i, i < 300 ∨ i = 340 → m3 i = σ i := fun i hi => by rw [e3, up2_ne (by omega), fr2 hi]
      refine m_findWay (m := 8) (s := sp X.1) (mn_gm M3.1) hI.1.1 hI.1.2.1 si_sp (nobar M3.2.2.2.2.2) hf ht z1 (fun σ2 q _ => (hW.no hf q).elim) (fun σ2 L2 P2 hW2 e13 e313 f2 j2 => ⟨fun _ => ?_, fun q => absurd q (by decide)⟩)
      obtain ⟨eL, eP⟩ := hW2.eq hf hW
      subst eL
      have e313' : ∀ i, i < L2 → σ2 313 i = ((P i : Nat) : Int) := fun i hi => by rw [e313 i hi, eP i hi]
      have M2 : MSt (wL X []) σ2 := M3.fr (fun j hj => j2 j (by omega)) (fun i hi => f2 i (by omega) (by omega) (by omega))
      refine mo_change2 M2 hI.2.2.1.2 (fun σ4 M4 f4 j4 => ?_)
      refine m_goOnWay (m := 8) (B := X.1) (s := sp X.1) (P := P) (mn_gm M4.1) hI.1.1 hI.1.2.1 ⟨by omega, by omega⟩ (by rw [j4 13 (by omega)]; exact e13) (fun i hi => by rw [f4 313 (by omega) (by omega) (by omega)]; exact e313' i hi) (fun i hi => by have := hPn i hi; omega) (fun i hi => by have := hPn i hi; omega) (by omega) hsi (fun σ5 M5 f5 => ?_)
      have MS5 := M4.now M5 f5
      refine m_tellWay (L := L2) (P := P) (R := []) (by omega) MS5.2.2.2.2.1 (by simp) (by rw [f5 300 (by omega), j4 13 (by omega)]; exact e13) (fun i hi => by rw [f5 313 (by omega), f4 313 (by omega) (by omega) (by omega)]; exact e313' i hi) (fun σ6 r6 f6 j6 => ?_)
      rw [show σ6 300 13 = (L2 : Int) by rw [j6 13 (by omega), f5 300 (by omega), j4 13 (by omega)]; exact e13]
      rw [remX_pos rfl (by (try dsimp only); omega)] at h
      exact h σ6 (MS5.row r6 (fun i a1 a2 _ _ => f6 i a1 a2) (fun j hj => j6 j (by omega))) (fun i hi => by rw [f6 i (by omega) (by omega), f5 i (by omega), f4 i (by omega) (by omega) (by omega), f2 i (by omega) (by omega) (by omega)]; exact f3 i hi)
  · refine ⟨-1, X, ?_, fun σ Q hM h => ?_, hI⟩
    · have c := cto_rem (X := X) (ca_nowhole (B := X.1) (L0 := X.2.2.2.2) hp)
      exact c
    · unfold wX11_whole
      rintro m1 rfl
      have hM1 := hM.thr (v := 0)
      exact m_isPayment hM1.1 hI.1.1 (not_pay hp) (fun z => ⟨fun q => absurd rfl q, fun _ => h _ hM1 (fun i hi => fr2 hi)⟩)
