/-! calls: told one case at a time; way, reach, most -/
def CTo (X : St) (wc : Mem → (Int → Mem → Prop) → Prop) (r : Int) (X' : St) : Prop := ∀ (σ : Mem) (Q : Int → Mem → Prop), CSt X σ → (∀ σ', CSt X' σ' → (∀ i, 300 ≤ i → σ' i = σ i) → Q r σ') → wc σ Q
def MTo (X : St) (wm : Mem → (Int → Mem → Prop) → Prop) (r : Int) (X' : St) : Prop := ∀ (σ : Mem) (Q : Int → Mem → Prop), MSt X σ → (∀ σ', MSt X' σ' → (∀ i, i < 300 ∨ i = 340 → σ' i = σ i) → Q r σ') → wm σ Q
theorem OpOK.of {wc wm : Mem → (Int → Mem → Prop) → Prop} (h : ∀ X, XInv X → ∃ r X', CTo X wc r X' ∧ MTo X wm r X' ∧ XInv X') : OpOK wc wm := by
  classical
  have key : ∀ X, ∃ p : Int × St, XInv X → CTo X wc p.1 p.2 ∧ MTo X wm p.1 p.2 ∧ XInv p.2 := fun X => by
    by_cases c : XInv X
    · obtain ⟨r, X', q⟩ := h X c
      exact ⟨(r, X'), fun _ => q⟩
    · exact ⟨(0, X), fun z => absurd z c⟩
  refine ⟨fun X => Classical.choose (key X), fun X σ Q hI hC k => ?_, fun X σ Q hI hM k => ?_, fun X hI => ?_⟩
  · exact (Classical.choose_spec (key X) hI).1 σ Q hC k
  · exact (Classical.choose_spec (key X) hI).2.1 σ Q hM k
  · exact (Classical.choose_spec (key X) hI).2.2
theorem i32b {v : Int} (h : -2000000000 ≤ v ∧ v ≤ 2000000000) : -2147483648 ≤ v ∧ v < 2147483648 := by omega
section WAYS
variable {m : Nat} {B : Bk} {s : Nat → Int} {σ : Mem} {x : Int}
theorem si_sp : SI 8 B (sp B) := by
  refine ⟨fun u hu v hv z => sp_0 hv (by unfold Zr at z; omega), fun u hu v hv z => ⟨rfl, Or.inl (Int.le_refl _)⟩⟩
theorem gm_sp : ∀ i, i < 64 → deb (GM m B (sp B)) i = deb B i := fun i hi => by
  show deb B i + (sp B i - mix m B (sp B) i) = deb B i
  have : mix m B (sp B) i = sp B i := by unfold mix; split <;> rfl
  rw [this]; omega
theorem mn_gm (h : MN σ B) : MN σ (GM m B (sp B)) := MB_deb (B := B) (d := deb B) h (fun i hi => (gm_sp i hi).symm)
theorem mn_gm' (h : MN σ (GM m B (sp B))) : MN σ B := MB_deb (B := B) (d' := deb B) h (fun i hi => gm_sp i hi)
theorem nobar (h : σ 300 14 = -1) : ∀ u : Nat, u < 8 → ((u : Int) = σ 300 14 ↔ u = 8) := fun u hu => by rw [h]; omega
def wayR (L : Nat) (P : Nat → Nat) : List Int := (List.range L).map (fun i => ((P i : Nat) : Int))
theorem wayR_s (k : Nat) (P : Nat → Nat) : wayR (k + 1) P = wayR k P ++ [((P k : Nat) : Int)] := by
  unfold wayR
  rw [List.range_succ, List.map_append]
  rfl
theorem wayR_len (L : Nat) (P : Nat → Nat) : (wayR L P).length = L := by unfold wayR; simp
theorem wayR_b {L : Nat} {P : Nat → Nat} (hL : L ≤ 8) (hP : ∀ i, i < L → P i < 8) : (∀ v ∈ wayR L P, -2147483648 ≤ v ∧ v < 2147483648) ∧ (wayR L P).length ≤ 512 := by
  refine ⟨fun v hv => ?_, by rw [wayR_len]; omega⟩
  unfold wayR at hv
  obtain ⟨i, hi, e⟩ := List.mem_map.mp hv
  have := hP i (List.mem_range.mp hi)
  omega
theorem s_tellWay {L : Nat} {P : Nat → Nat} {Q : Mem → Prop} (hL : L ≤ 8) (e7 : σ 14 7 = (L : Int)) (hP : ∀ i, i < L → σ 20 i = ((P i : Nat) : Int)) (h : ∀ σ', CR (wayR L P) σ' → (∀ i, i ≠ 12 → i ≠ 13 → σ' i = σ i) → Q σ') : wX10_tellWay σ Q := by
  unfold wX10_tellWay
  refine c_begin (fun σ1 r1 f1 => ?_)
  unfold wLX10_tellWay_9
  refine lp_for (fun k y τ => y = (k : Int) ∧ CR (wayR k P) τ ∧ ∀ i, i ≠ 12 → i ≠ 13 → τ i = σ i) L ?_ ?_ _ _ ⟨rfl, r1, fun i a1 _ => f1 i a1⟩
  · rintro k hk _ τ ⟨rfl, hR, hF⟩ K hK
    dsimp only [wX10_tellWay_9]
    refine ⟨fun z => absurd z (by rw [hF 14 (by omega) (by omega), e7]; omega), fun _ => ?_⟩
    refine s_wayM (L := L) hL (fun i hi => by rw [hF 20 (by omega) (by omega)]; exact hP i hi) hk (c_addn hR (by rw [wayR_len]; omega) (fun σ2 r2 f2 => ?_))
    rintro _ rfl
    exact hK _ _ ⟨by rw [w32_id (by omega) (by omega)]; rfl, by rw [wayR_s]; exact r2, fun i a1 a2 => by rw [f2 i a1 a2]; exact hF i a1 a2⟩
  · rintro _ τ ⟨rfl, hR, hF⟩ K
    dsimp only [wX10_tellWay_9]
    exact ⟨fun _ => h τ hR hF, fun z => absurd z (by rw [hF 14 (by omega) (by omega), e7]; omega)⟩
theorem m_tellWay {L : Nat} {P : Nat → Nat} {R : List Int} {Q : Mem → Prop} (hL : L ≤ 8) (hR : MR R σ) (hRl : R.length ≤ 512) (e13 : σ 300 13 = (L : Int)) (hP : ∀ i, i < L → σ 313 i = ((P i : Nat) : Int)) (h : ∀ σ', MR (R ++ wayR L P) σ' → (∀ i, i ≠ 300 → i ≠ 304 → σ' i = σ i) → (∀ j, j ≠ 4 → σ' 300 j = σ 300 j) → Q σ') : wX11_tellWay σ Q := by
  unfold wX11_tellWay wLX11_tellWay_2
  refine lp_for (fun k y τ => y = (k : Int) ∧ MR (R ++ wayR k P) τ ∧ (∀ i, i ≠ 300 → i ≠ 304 → τ i = σ i) ∧ ∀ j, j ≠ 4 → τ 300 j = σ 300 j) L ?_ ?_ _ _ ⟨rfl, by rw [show wayR 0 P = [] from rfl, List.append_nil]; exact hR, fun _ _ _ => rfl, fun _ _ => rfl⟩
  · rintro k hk _ τ ⟨rfl, hT, hF, hJ⟩ K hK
    dsimp only [wX11_tellWay_2]
    rw [hJ 13 (by omega), e13, tn, hF 313 (by omega) (by omega), hP k hk]
    refine ⟨fun z => absurd z (by omega), fun _ => ⟨⟨by omega, by omega⟩, m_tell hT (by rw [List.length_append, wayR_len]; omega) (fun σ2 r2 f2 j2 => ?_)⟩⟩
    rintro _ rfl
    exact hK _ _ ⟨by rw [w32_id (by omega) (by omega)]; rfl, by rw [wayR_s, ← List.append_assoc]; exact r2, fun i a1 a2 => by rw [f2 i a1 a2]; exact hF i a1 a2, fun j hj => by rw [j2 j hj]; exact hJ j hj⟩
  · rintro _ τ ⟨rfl, hT, hF, hJ⟩ K
    dsimp only [wX11_tellWay_2]
    rw [hJ 13 (by omega), e13]
    exact ⟨fun _ => h τ hT hF hJ, fun z => absurd z (by omega)⟩
theorem w_or (hD : True) {N f t : Nat} (hf : f < N) (ht : t < N) : NoW N s x f t ∨ ∃ L P, IsW N s x f t L P := by
  obtain ⟨d, hd⟩ := ex_D N s x ht
  by_cases c : 0 ≤ d f
  · exact Or.inr (ex_W hd hf c)
  · exact Or.inl ⟨d, hd, by omega⟩
theorem wayR_congr {L : Nat} {P P' : Nat → Nat} (h : ∀ i, i < L → P i = P' i) : wayR L P = wayR L P' := by
  unfold wayR
  refine List.map_congr_left (fun i hi => ?_)
  rw [h i (List.mem_range.mp hi)]
end WAYS
theorem not_pay {N : Nat} {a b x : Int} {A : Prop} (h : ¬ (two (N : Int) a b ∧ 1 ≤ x ∧ x ≤ 9999)) : ∀ u v : Nat, a = u → b = v → u < N → v < N → u ≠ v → 1 ≤ x → x ≤ 9999 → A := fun u v e1 e2 hu hv hne z1 z2 => absurd ⟨by subst e1 e2; exact two_n hu hv hne, z1, z2⟩ h
theorem op_way (a b x : Int) : OpOK (wX10_way a b x) (wX11_way a b x) := by
  refine OpOK.of (fun X hI => ?_)
  have hN := hI.1.1.1
  by_cases hp : two (nN X.1) a b ∧ 1 ≤ x ∧ x ≤ 9999
  · obtain ⟨f, rfl⟩ : ∃ f : Nat, a = f := ⟨a.toNat, by omega⟩
    obtain ⟨t, rfl⟩ : ∃ t : Nat, b = t := ⟨b.toNat, by omega⟩
    have hf : f < nN X.1 := by omega
    have ht : t < nN X.1 := by omega
    have hne : f ≠ t := by omega
    rcases w_or (s := sp X.1) (x := x) trivial hf ht with hw | ⟨L, P, hW⟩
    · refine ⟨-2, X, fun σ Q hC h => ?_, fun σ Q hM h => ?_, hI⟩
      · unfold wX10_way
        refine s_isPayment hC.1 (fun u v e1 e2 hu hv hne z1 z2 => ⟨fun _ => ?_, fun z => absurd z (by decide)⟩) (fun z => absurd hp z)
        refine s_load (by omega) hC.1 hI.1.1 hI.1.2.1 (fun σ1 g0 g15 g16 gf => ?_)
        refine s_findWay (s := sp X.1) (by omega) hf ht g0 g15 (fun σ2 _ f2 => ⟨fun q => absurd rfl q, fun _ => ?_⟩) (fun σ2 L P hW _ _ _ _ => (hW.no hf hw).elim)
        exact h σ2 (hC.fr (fun i a1 a2 a3 a4 => by rw [f2 i (by omega) (by omega)]; exact gf i (by omega) (by omega) (by omega))) (fun i hi => by rw [f2 i (by omega) (by omega)]; exact gf i (by omega) (by omega) (by omega))
      · unfold wX11_way
        rintro m1 rfl
        have hM1 := hM.thr (v := 0)
        refine m_isPayment hM1.1 hI.1.1 (fun u v e1 e2 hu hv hne z1 z2 => ⟨fun _ => ?_, fun z => absurd z (by decide)⟩) (fun z => absurd hp z)
        refine m_findWay (m := 8) (s := sp X.1) (mn_gm hM1.1) hI.1.1 hI.1.2.1 si_sp (nobar hM1.2.2.2.2.2) hf ht z1 (fun σ2 _ f2 => ⟨fun q => absurd rfl q, fun _ => ?_⟩) (fun σ2 L P hW _ _ _ _ => (hW.no hf hw).elim)
        exact h σ2 (hM1.fr (fun j _ => by rw [f2 300 (by omega)]) (fun i hi => f2 i (by omega))) (fun i hi => by rw [f2 i (by omega), fr2 hi])
    · obtain ⟨hL2, hLN, q0, qL, hPn, hinj, he⟩ := hW.sh hf ht hne
      refine ⟨(L : Int), wL X (wayR L P), fun σ Q hC h => ?_, fun σ Q hM h => ?_, xi_row hI (wayR_b (by omega) (fun i hi => by have := hPn i hi; omega))⟩
      · unfold wX10_way
        refine s_isPayment hC.1 (fun u v e1 e2 hu hv hne z1 z2 => ⟨fun _ => ?_, fun z => absurd z (by decide)⟩) (fun z => absurd hp z)
        refine s_load (by omega) hC.1 hI.1.1 hI.1.2.1 (fun σ1 g0 g15 g16 gf => ?_)
        refine s_findWay (s := sp X.1) (by omega) hf ht g0 g15 (fun σ2 q _ => (hW.no hf q).elim) (fun σ2 L2 P2 hW2 e7 e20 f2 j2 => ⟨fun _ => ?_, fun q => absurd q (by decide)⟩)
        obtain ⟨eL, eP⟩ := hW2.eq hf hW
        subst eL
        refine s_tellWay (by omega) e7 e20 (fun σ3 r3 f3 => ?_)
        rw [f3 14 (by omega) (by omega), e7]
        rw [wayR_congr eP] at r3
        have fr : ∀ i, ¬ (14 ≤ i ∧ i ≤ 20) → i ≠ 12 → i ≠ 13 → σ3 i = σ i := fun i a1 a2 a3 => by rw [f3 i a2 a3, f2 i (by omega) (by omega) (by omega) (by omega)]; exact gf i (by omega) (by omega) (by omega)
        have h2 : CSt X σ2 := hC.fr (fun i a1 a2 a3 a4 => by rw [f2 i (by omega) (by omega) (by omega) (by omega)]; exact gf i (by omega) (by omega) (by omega))
        exact h σ3 (h2.row r3 (fun i a1 a2 _ => f3 i a1 a2)) (fun i hi => fr i (by omega) (by omega) (by omega))
      · unfold wX11_way
        rintro m1 rfl
        have hM1 := hM.thr (v := 0)
        refine m_isPayment hM1.1 hI.1.1 (fun u v e1 e2 hu hv hne z1 z2 => ⟨fun _ => ?_, fun z => absurd z (by decide)⟩) (fun z => absurd hp z)
        refine m_findWay (m := 8) (s := sp X.1) (mn_gm hM1.1) hI.1.1 hI.1.2.1 si_sp (nobar hM1.2.2.2.2.2) hf ht z1 (fun σ2 q _ => (hW.no hf q).elim) (fun σ2 L2 P2 hW2 e13 e313 f2 j2 => ⟨fun _ => ?_, fun q => absurd q (by decide)⟩)
        obtain ⟨eL, eP⟩ := hW2.eq hf hW
        subst eL
        have M2 : MSt X σ2 := hM1.fr (fun j hj => j2 j (by omega)) (fun i hi => f2 i (by omega) (by omega) (by omega))
        rintro m3 e3
        have M3 : MSt (wL X []) m3 := by rw [e3]; exact mo_row0 M2
        refine m_tellWay (L := L2) (P := P2) (by omega) M3.2.2.2.2.1 (by simp) (by rw [e3, up2_nj (by omega)]; exact e13) (fun i hi => by rw [e3, up2_ne (by omega)]; exact e313 i hi) (fun σ4 r4 f4 j4 => ?_)
        rw [j4 13 (by omega), e3, up2_nj (by omega), e13]
        rw [wayR_congr eP] at r4
        refine h σ4 (M3.row r4 (fun i a1 a2 _ _ => f4 i a1 a2) (fun j hj => j4 j (by omega))) (fun i hi => ?_)
        rw [f4 i (by omega) (by omega), e3, up2_ne (by omega), f2 i (by omega) (by omega) (by omega), fr2 hi]
  · refine ⟨-1, X, fun σ Q hC h => ?_, fun σ Q hM h => ?_, hI⟩
    · unfold wX10_way
      exact s_isPayment hC.1 (not_pay hp) (fun z => ⟨fun q => absurd rfl q, fun _ => h σ hC (fun _ _ => rfl)⟩)
    · unfold wX11_way
      rintro m1 rfl
      have hM1 := hM.thr (v := 0)
      exact m_isPayment hM1.1 hI.1.1 (not_pay hp) (fun z => ⟨fun q => absurd rfl q, fun _ => h _ hM1 (fun i hi => fr2 hi)⟩)
theorem reach_all : ∀ x, x < 256 → ∀ f, f < 8 → ∃ y, y < 256 ∧ band ((x : Nat) : Int) (bxor (bshl 1 ((f : Nat) : Int)) (-1)) = ((y : Nat) : Int) := by
  have key : ∀ x, x < 256 → ∀ f, f < 8 → band ((x : Nat) : Int) (bxor (bshl 1 ((f : Nat) : Int)) (-1)) = ((x &&& (255 - 2 ^ f) : Nat) : Int) ∧ x &&& (255 - 2 ^ f) < 256 := by decide +kernel
  exact fun x hx f hf => ⟨_, (key x hx f hf).2, (key x hx f hf).1⟩
theorem op_reach (a x : Int) : OpOK (wX10_reach a x) (wX11_reach a x) := by
  refine OpOK.of (fun X hI => ?_)
  have hN := hI.1.1.1
  by_cases hp : (0 ≤ a ∧ a < (nN X.1 : Int)) ∧ 1 ≤ x ∧ x ≤ 9999
  · obtain ⟨f, rfl⟩ : ∃ f : Nat, a = f := ⟨a.toNat, by omega⟩
    have hf : f < nN X.1 := by omega
    obtain ⟨b, hb⟩ := ex_R (nN X.1) (sp X.1) x (by omega) hf
    obtain ⟨y, hy, ey⟩ := reach_all b hb.1.1 f (by omega)
    refine ⟨(y : Int), wL X [(pc y : Int)], fun σ Q hC h => ?_, fun σ Q hM h => ?_, xi_row hI ⟨fun v hv => ?_, by simp⟩⟩
    · unfold wX10_reach
      refine s_has (fun u e1 hu => ⟨fun z => absurd z (by decide), fun _ => s_isSum (fun z1 z2 => ⟨fun _ => ?_, fun z => absurd z (by decide)⟩) (fun z => absurd hp.2 z)⟩) (fun z => absurd (by rw [hC.1.1]; exact hp.1) z)
      refine s_load (by omega) hC.1 hI.1.1 hI.1.2.1 (fun σ1 g0 g15 g16 gf => ?_)
      refine s_reached (s := sp X.1) (by omega) hf g0 g15 (fun σ2 b2 hb2 f2 => ?_)
      obtain rfl := hb2.eq hb
      rintro _ rfl
      rw [ey]
      refine s_bitCount hy (c_tell1 (fun σ3 r3 f3 => ?_))
      have h2 : CSt X σ2 := hC.fr (fun i a1 a2 a3 a4 => by rw [f2 i (by omega)]; exact gf i (by omega) (by omega) (by omega))
      exact h σ3 (h2.row r3 (fun i a1 a2 _ => f3 i a1 a2)) (fun i hi => by rw [f3 i (by omega) (by omega), f2 i (by omega)]; exact gf i (by omega) (by omega) (by omega))
    · unfold wX11_reach
      rintro m1 rfl
      have hM1 := hM.thr (v := 0)
      refine m_isMember hM1.1 hI.1.1 (fun u e1 hu => ⟨fun z => absurd z (by decide), fun _ => m_in (fun z1 z2 => ⟨fun _ => ?_, fun z => absurd z (by decide)⟩) (fun z => absurd hp.2 z)⟩) (fun z => absurd hp.1 z)
      refine m_reached (m := 8) (s := sp X.1) (mn_gm hM1.1) hI.1.1 hI.1.2.1 si_sp (nobar hM1.2.2.2.2.2) hf z1 (fun b2 hb2 => ?_)
      obtain rfl := hb2.eq hb
      rintro _ rfl m9 e9
      rw [ey]
      have M9 : MSt (wL X []) m9 := by rw [e9]; exact mo_row0 hM1
      refine m_countBits hy (mo_tell M9 (by simp) (fun σ4 M4 f4 j4 => ?_))
      exact h σ4 M4 (fun i hi => by rw [f4 i (by omega) (by omega), e9, up2_ne (by omega), fr2 hi])
    · simp at hv
      have := pc_8 y hy
      omega
  · refine ⟨-1, X, fun σ Q hC h => ?_, fun σ Q hM h => ?_, hI⟩
    · unfold wX10_reach
      have e := hC.1.1
      exact s_has (fun u e1 hu => ⟨fun z => absurd z (by decide), fun _ => s_isSum (fun z1 z2 => absurd ⟨⟨by omega, by omega⟩, z1, z2⟩ hp) (fun z => ⟨fun q => absurd rfl q, fun _ => h σ hC (fun _ _ => rfl)⟩)⟩) (fun z => ⟨fun _ => h σ hC (fun _ _ => rfl), fun q => absurd rfl q⟩)
    · unfold wX11_reach
      rintro m1 rfl
      have hM1 := hM.thr (v := 0)
      exact m_isMember hM1.1 hI.1.1 (fun u e1 hu => ⟨fun z => absurd z (by decide), fun _ => m_in (fun z1 z2 => absurd ⟨⟨by omega, by omega⟩, z1, z2⟩ hp) (fun z => ⟨fun q => absurd rfl q, fun _ => h _ hM1 (fun i hi => fr2 hi)⟩)⟩) (fun z => ⟨fun _ => h _ hM1 (fun i hi => fr2 hi), fun q => absurd rfl q⟩)
