/-! as much as goes, were it otherwise -/
section THEN
variable {B : Bk} {s : Nat → Int} {σ : Mem} {b f t : Nat}
theorem s_loadSend {x : Int} {r : List (Nat × Int)} {s' : Nat → Int} {l' : Int} {Q : Int → Mem → Prop} (hb : 40 ≤ b) (hC : CB b B σ) (hI : IvA B) (hZ : IvB B) (hf : f < nN B) (ht : t < nN B) (hne : f ≠ t) (hx : 0 ≤ x) (hx2 : x ≤ 1000000) (hr : Snd (nN B) f t r (sp B) x s' l') (h : ∀ σ', σ' 14 0 = (nN B : Int) → (∀ i, i < 64 → σ' 15 i = s' i) → (∀ i, i < 64 → σ' 16 i = sp B i) → (∀ i, ¬ (14 ≤ i ∧ i ≤ 22) → σ' i = σ i) → Q (x - l') σ') : wX4_load b σ (fun m1 => wX4_send (f : Int) (t : Int) x m1 (fun y m2 => Q y m2)) := by
  refine s_load hb hC hI hZ (fun σ1 g0 g15 g16 gf => ?_)
  refine s_send (m := 8) (s := sp B) hI hf ht hne g0 g15 si_sp hx hx2 hr (fun σ2 k0 k15 k10 kR kf => ?_)
  exact h σ2 k0 k15 (fun i hi => by rw [kf 16 (by omega)]; exact g16 i hi) (fun i hi => by rw [kf i (by omega)]; exact gf i (by omega) (by omega) (by omega))
theorem not_two {N : Nat} {a b : Int} {A : Prop} (h : ¬ two (N : Int) a b) : ∀ u v : Nat, a = u → b = v → u < N → v < N → u ≠ v → A := fun u v e1 e2 hu hv hne => absurd (by subst e1 e2; exact two_n hu hv hne) h
theorem not_twoC {N : Nat} {a b c : Int} {A : Prop} (e : c = (N : Int)) (h : ¬ two (N : Int) a b) : ∀ u v : Nat, a = u → b = v → (u : Int) < c → (v : Int) < c → u ≠ v → A := fun u v e1 e2 hu hv hne => absurd (by subst e1 e2; exact two_n (by omega) (by omega) hne) h
/-- books behind places ahead of k are made, or let go -/
def thenB (w : Int) (B : Bk) : Nat → Bk
  | 0 => B
  | k + 1 => if 0 < hdr (thenB w B k) k 2 then (if w = 0 then makeB (thenB w B k) k else dropB (thenB w B k) k) else thenB w B k
theorem thenB_N (w : Int) (B : Bk) : ∀ k, nN (thenB w B k) = nN B
  | 0 => rfl
  | k + 1 => by
    have ih := thenB_N w B k
    unfold thenB
    split
    · split
      · exact ih
      · exact ih
    · exact ih
theorem thenB_inv (w : Int) (hI : Inv B) : ∀ k, k ≤ 4 → Inv (thenB w B k)
  | 0, _ => hI
  | k + 1, h => by
    have ih := thenB_inv w hI k (by omega)
    unfold thenB
    split
    · split
      · exact inv_make ih (by omega)
      · exact inv_drop ih (by omega)
    · exact ih
end THEN
theorem op_mostThen (a b w : Int) : OpOK (wX10_mostThen a b w) (wX11_mostThen a b w) := by
  refine OpOK.of (fun X hI => ?_)
  have hN := hI.1.1.1
  by_cases hp : two (nN X.1) a b ∧ 0 ≤ w ∧ w ≤ 1
  · obtain ⟨f, rfl⟩ : ∃ f : Nat, a = f := ⟨a.toNat, by omega⟩
    obtain ⟨t, rfl⟩ : ∃ t : Nat, b = t := ⟨b.toNat, by omega⟩
    have hne : f ≠ t := by omega
    have eN := thenB_N w X.1 4
    have hI4 := thenB_inv w hI.1 4 (by omega)
    have hf : f < nN (thenB w X.1 4) := by rw [eN]; omega
    have ht : t < nN (thenB w X.1 4) := by rw [eN]; omega
    obtain ⟨r, s', v, hr, hr2, hn, v0, v1, hlen, hS'⟩ := snd_most hI4.1 hf ht hne (si_sp (B := thenB w X.1 4))
    refine ⟨v, X, fun σ Q hC h => ?_, fun σ Q hM h => ?_, hI⟩
    · unfold wX10_mostThen
      have e := hC.1.1
      refine s_hasBoth (fun u y e1 e2 hu hw hne2 => ⟨fun z => absurd z (by decide), fun _ => ⟨fun z => absurd z (by omega), fun _ => ⟨fun _ => ?_, fun z => absurd hp.2.2 z⟩⟩⟩) (fun z => absurd (by rw [e]; exact hp.1) z)
      refine s_copyFrom (b := 72) (by omega) hC.1 (fun σ1 C1 f1 => ?_)
      unfold wLX10_mostThen_37
      refine lp_for (fun k y τ => y = ((f : Int), (t : Int), w, (k : Int)) ∧ CB 72 (thenB w X.1 k) τ ∧ ∀ i, ¬ (72 ≤ i ∧ i < 85) → τ i = σ i) 4 ?_ ?_ _ _ ⟨rfl, C1, fun i hi => f1 i (by omega)⟩
      · rintro k hk _ τ ⟨rfl, hT, hF⟩ K hK
        dsimp only [wX10_mostThen_37]
        have ik := thenB_inv w hI.1 k (by omega)
        have wk : w32 ((k : Int) + 1) = ((k + 1 : Nat) : Int) := by rw [w32_id (by omega) (by omega)]; rfl
        refine ⟨(fun hno => absurd hno (by omega)), fun _ => ⟨fun z => ?_, fun z => ?_⟩⟩
        · by_cases c : 0 < hdr (thenB w X.1 k) k 2
          · refine s_dropAt hk c hT (fun σ2 C2 f2 => ?_)
            rintro _ rfl
            refine hK _ _ ⟨by rw [wk], ?_, fun i hi => by rw [f2 i (by omega)]; exact hF i hi⟩
            rw [thenB, if_pos c, if_neg z]; exact C2
          · refine s_dropAt0 hk c hT ?_
            rintro _ rfl
            refine hK _ _ ⟨by rw [wk], ?_, hF⟩
            rw [thenB, if_neg c]; exact hT
        · by_cases c : 0 < hdr (thenB w X.1 k) k 2
          · refine s_makeAt hk c hT ik.1 ik.2.1 (fun σ2 C2 f2 => ?_)
            rintro _ rfl
            refine hK _ _ ⟨by rw [wk], ?_, fun i hi => by rw [f2 i (by omega)]; exact hF i hi⟩
            rw [thenB, if_pos c, if_pos z]; exact C2
          · refine s_makeAt0 hk c hT ?_
            rintro _ rfl
            refine hK _ _ ⟨by rw [wk], ?_, hF⟩
            rw [thenB, if_neg c]; exact hT
      · rintro _ τ ⟨rfl, hT, hF⟩ K
        dsimp only [wX10_mostThen_37]
        refine ⟨fun _ => ?_, (fun hno => absurd hno (by omega))⟩
        refine s_loadSend (by omega) hT hI4.1 hI4.2.1 hf ht hne (by omega) (by omega) hr (fun σ2 _ _ _ f2 => ?_)
        rw [show (1000000 : Int) - (1000000 - v) = v by omega]
        exact h σ2 (hC.fr (fun i a1 a2 a3 a4 => by rw [f2 i (by omega)]; exact hF i (by omega))) (fun i hi => by rw [f2 i (by omega)]; exact hF i (by omega))
    · unfold wX11_mostThen
      rintro m1 rfl
      have hM1 := hM.thr (v := 0)
      refine m_areTwo hM1.1 hI.1.1 (fun u y e1 e2 hu hw hne2 => ⟨fun z => absurd z (by decide), fun _ => m_in (fun z1 z2 => ⟨fun _ => ?_, fun z => absurd z (by decide)⟩) (fun z => absurd hp.2 z)⟩) (fun z => absurd hp.1 z)
      refine m_layAside (d := 2) hM1.1 (by omega) (fun σ1 a1 k1 f1 => ?_)
      have M1 : MSt X σ1 := hM1.fr (fun j _ => by rw [f1 300 (by omega)]) (fun i hi => f1 i (by omega))
      unfold wLX11_mostThen_33
      refine lp_for (fun k y τ => y = ((f : Int), (t : Int), w, (k : Int)) ∧ MSt (wB X (thenB w X.1 k)) τ ∧ ∀ i, i ≠ 301 → τ i = σ1 i) 4 ?_ ?_ _ _ ⟨rfl, M1, fun _ _ => rfl⟩
      · rintro k hk _ τ ⟨rfl, hT, hF⟩ K hK
        dsimp only [wX11_mostThen_33, wX11_mostThen_60]
        have ik := thenB_inv w hI.1 k (by omega)
        have wk : w32 ((k : Int) + 1) = ((k + 1 : Nat) : Int) := by rw [w32_id (by omega) (by omega)]; rfl
        refine ⟨(fun hno => absurd hno (by omega)), fun _ => m_isHeld hT.1 (fun p e hp4 hh => ⟨fun z => absurd z (by decide), fun _ => ?_⟩) (fun z => ⟨fun _ => ?_, fun q => absurd rfl q⟩)⟩
        · obtain rfl : p = k := by omega
          refine ⟨fun z => ?_, fun z => ?_⟩
          · refine m_free hT.1 ik.1 hk (fun σ2 M2 f2 => ?_)
            rintro _ rfl
            rw [if_pos rfl] at M2
            refine hK _ _ ⟨by rw [wk], ?_, fun i hi => by rw [f2 i hi]; exact hF i hi⟩
            rw [thenB, if_pos hh, if_neg z]; exact hT.now M2 f2
          · refine m_free hT.1 ik.1 hk (fun σ2 M2 f2 => ?_)
            rintro _ rfl
            rw [if_neg (by decide)] at M2
            refine hK _ _ ⟨by rw [wk], ?_, fun i hi => by rw [f2 i hi]; exact hF i hi⟩
            rw [thenB, if_pos hh, if_pos z]; exact hT.now M2 f2
        · rintro _ rfl
          refine hK _ _ ⟨by rw [wk], ?_, hF⟩
          rw [thenB, if_neg (fun c => z ⟨by omega, by omega, by rw [tn]; exact c⟩)]; exact hT
      · rintro _ τ ⟨rfl, hT, hF⟩ K
        dsimp only [wX11_mostThen_33]
        refine ⟨fun _ => ?_, (fun hno => absurd hno (by omega))⟩
        refine mo_mostOf (X := wB X (thenB w X.1 4)) hI4.1 hI4.2.1 hT hf ht hne hr2 (fun σ2 c2 hc2 M2 k16 k17 k18 f2 g2 j2 => ?_)
        refine m_comesBack (B := X.1) (d := 2) (a1.cp (fun k hk => by rw [g2 _ (by omega), hF 316 (by omega)])) (by omega) (fun σ3 M3 f3 => ?_)
        refine h σ3 (M2.now M3 f3) (fun i hi => ?_)
        rw [f3 i (by omega), f2 i (by omega) (by omega) (by omega) (by omega) (by omega) (by omega), hF i (by omega), f1 i (by omega), fr2 hi]
  · refine ⟨-1, X, fun σ Q hC h => ?_, fun σ Q hM h => ?_, hI⟩
    · unfold wX10_mostThen
      have e := hC.1.1
      exact s_hasBoth (fun u y e1 e2 hu hw hne2 => ⟨fun z => absurd z (by decide), fun _ => ⟨fun z => h σ hC (fun _ _ => rfl), fun z1 => ⟨fun z2 => absurd ⟨by subst e1 e2; exact two_n (by omega) (by omega) hne2, by omega, z2⟩ hp, fun z => h σ hC (fun _ _ => rfl)⟩⟩⟩) (fun z => ⟨fun _ => h σ hC (fun _ _ => rfl), fun q => absurd rfl q⟩)
    · unfold wX11_mostThen
      rintro m1 rfl
      have hM1 := hM.thr (v := 0)
      exact m_areTwo hM1.1 hI.1.1 (fun u y e1 e2 hu hw hne2 => ⟨fun z => absurd z (by decide), fun _ => m_in (fun z1 z2 => absurd ⟨by subst e1 e2; exact two_n hu hw hne2, z1, z2⟩ hp) (fun z => ⟨fun q => absurd rfl q, fun _ => h _ hM1 (fun i hi => fr2 hi)⟩)⟩) (fun z => ⟨fun _ => h _ hM1 (fun i hi => fr2 hi), fun q => absurd rfl q⟩)
/-! a line with another limit -/
section WIDE
variable {B : Bk} {σ : Mem} {u w : Nat} {v : Int}
theorem wl_A (hI : IvA B) (hv : 0 ≤ v ∧ v ≤ 999) (i : Nat) : IvA (wLim B (up1 (lim B) i v)) := ⟨hI.1, fun j hj => by
  show 0 ≤ up1 (lim B) i v j ∧ up1 (lim B) i v j ≤ 999
  unfold up1
  split
  · exact hv
  · exact hI.2.1 j hj, hI.2.2⟩
theorem wl_B (hZ : IvB B) (hu : u < nN B) (hw : w < nN B) (hN : nN B ≤ 8) (hne : u ≠ w) : IvB (wLim B (up1 (lim B) (8 * u + w) v)) := ⟨hZ.1, hZ.2.1, fun a ha b hb c => ⟨by
  show up1 (lim B) (8 * u + w) v (8 * a + b) = 0
  have c' : nN B ≤ a ∨ nN B ≤ b ∨ a = b := c
  rw [up1_ne (by omega)]
  exact (hZ.2.2.1 a ha b hb c).1, (hZ.2.2.1 a ha b hb c).2⟩, hZ.2.2.2⟩
/-- the rooms with the limit of the line from u to w at v -/
theorem wl_sp (hu : u < nN B) (hw : w < nN B) (hN : nN B ≤ 8) (hne : u ≠ w) : ∀ i, i < 64 → sp (wLim B (up1 (lim B) (8 * u + w) v)) i = up1 (sp B) (8 * w + u) (sp B (8 * w + u) + (v - lim B (8 * u + w))) i := by
  intro i hi
  rw [i88 i]
  have ha : i / 8 < 8 := by omega
  have hb : i % 8 < 8 := by omega
  generalize i / 8 = a at ha
  generalize i % 8 = b at hb
  by_cases c : a < nN B ∧ b < nN B ∧ a ≠ b
  · rw [sp_uv (B := wLim B (up1 (lim B) (8 * u + w) v)) hb c.1 c.2.1 c.2.2]
    show up1 (lim B) (8 * u + w) v (8 * b + a) - deb B (8 * a + b) - hld B a b = _
    by_cases e : a = w ∧ b = u
    · obtain ⟨rfl, rfl⟩ := e
      rw [up1_eq, up1_eq, sp_uv hb c.1 c.2.1 c.2.2]
      unfold rm
      omega
    · rw [up1_ne (by omega), up1_ne (by omega), sp_uv hb c.1 c.2.1 c.2.2]
      rfl
  · rw [sp_0 (B := wLim B (up1 (lim B) (8 * u + w) v)) hb c, up1_ne (by omega), sp_0 hb c]
end WIDE
theorem op_were (a b c d v : Int) : OpOK (wX10_were a b c d v) (wX11_were a b c d v) := by
  refine OpOK.of (fun X hI => ?_)
  have hN := hI.1.1.1
  by_cases hp : two (nN X.1) a b ∧ two (nN X.1) c d ∧ 0 ≤ v ∧ v ≤ 999
  · obtain ⟨f, rfl⟩ : ∃ f : Nat, a = f := ⟨a.toNat, by omega⟩
    obtain ⟨t, rfl⟩ : ∃ t : Nat, b = t := ⟨b.toNat, by omega⟩
    obtain ⟨u, rfl⟩ : ∃ u : Nat, c = u := ⟨c.toNat, by omega⟩
    obtain ⟨w, rfl⟩ : ∃ w : Nat, d = w := ⟨d.toNat, by omega⟩
    have hf : f < nN X.1 := by omega
    have ht : t < nN X.1 := by omega
    have hne : f ≠ t := by omega
    have hu : u < nN X.1 := by omega
    have hw : w < nN X.1 := by omega
    have hnuw : u ≠ w := by omega
    by_cases ho : owe X.1 w u ≤ v
    · have hA := wl_A hI.1.1 hp.2.2 (8 * u + w)
      have hZ := wl_B (v := v) hI.1.2.1 hu hw hN.2 hnuw
      have hsp := wl_sp (v := v) hu hw hN.2 hnuw
      obtain ⟨r, s', y, hr, hr2, hn, v0, v1, hlen, hS'⟩ := snd_most hA hf ht hne si_sp
      refine ⟨y, X, fun σ Q hC h => ?_, fun σ Q hM h => ?_, hI⟩
      · unfold wX10_were
        have e := hC.1.1
        refine s_hasBoth (fun _ _ _ _ _ _ _ => ⟨fun z => absurd z (by decide), fun _ => s_hasBoth (fun _ _ _ _ _ _ _ => ⟨fun z => absurd z (by decide), fun _ => s_isLimit (fun _ _ => ⟨fun _ => s_owed (by omega) (by omega) hC.1 ⟨fun _ => ?_, fun z => absurd ho z⟩, fun z => absurd z (by decide)⟩) (fun z => absurd hp.2.2 z)⟩) (fun z => absurd (by rw [e]; exact hp.2.1) z)⟩) (fun z => absurd (by rw [e]; exact hp.1) z)
        refine s_load (by omega) hC.1 hI.1.1 hI.1.2.1 (fun σ1 g0 g15 g16 gf => ?_)
        refine s_at (by omega) (by omega) ⟨rg64 (by omega) (by omega), ?_⟩
        have lb := hI.1.1.2.1 (8 * u + w) (by omega)
        have sb := sp_b hI.1.1 (i := 8 * w + u) (by omega)
        rw [tn, gf (40 + 1) (by omega) (by omega) (by omega), hC.1.2.1 _ (lt64 (by omega) (by omega)), w32_id (by omega) (by omega)]
        unfold wX4_widen
        refine s_at (by omega) (by omega) ⟨rg64 (by omega) (by omega), rg64 (by omega) (by omega), ?_⟩
        rintro m3 e3
        rw [tn, g15 _ (lt64 (by omega) (by omega)), w32_id (by omega) (by omega)] at e3
        refine s_send (m := 8) hA hf ht hne (by rw [e3, up2_ne (by omega)]; exact g0) (fun i hi => ?_) si_sp (by omega) (by omega) hr (fun σ4 _ _ _ _ f4 => ?_)
        · rw [hsp i hi, e3, up2_app]
          unfold up1
          by_cases q : i = 8 * w + u
          · rw [if_pos ⟨rfl, q⟩, if_pos q]
          · rw [if_neg (fun z => q z.2), if_neg q]; exact g15 i hi
        · rw [show (1000000 : Int) - (1000000 - y) = y by omega]
          exact h σ4 (hC.fr (fun i a1 a2 a3 a4 => by rw [f4 i (by omega), e3, up2_ne (by omega)]; exact gf i (by omega) (by omega) (by omega))) (fun i hi => by rw [f4 i (by omega), e3, up2_ne (by omega)]; exact gf i (by omega) (by omega) (by omega))
      · unfold wX11_were
        rintro m1 rfl
        have hM1 := hM.thr (v := 0)
        refine m_areTwo hM1.1 hI.1.1 (fun _ _ _ _ _ _ _ => ⟨fun z => absurd z (by decide), fun _ => m_areTwo hM1.1 hI.1.1 (fun _ _ _ _ _ _ _ => ⟨fun z => absurd z (by decide), fun _ => m_in (fun _ _ => ⟨fun _ => m_owes hM1.1 (by omega) (by omega) ⟨fun _ => ?_, fun z => absurd ho z⟩, fun z => absurd z (by decide)⟩) (fun z => absurd hp.2.2 z)⟩) (fun z => absurd hp.2.1 z)⟩) (fun z => absurd hp.1 z)
        refine m_limit hM1.1 (by omega) (by omega) (m_pair (by omega) (by omega) ?_)
        rw [w32n (1 + (8 * u + w)) (by omega) (by omega), tn]
        refine ⟨by omega, ?_⟩
        rintro m14 e14
        have M14 : MSt (wB X (wLim X.1 (up1 (lim X.1) (8 * u + w) v))) m14 := by
          rw [e14]
          exact hM1.now (MN_lim (by omega) hM1.1) (fun i hi => up2_ne hi)
        refine mo_mostOf (X := wB X (wLim X.1 (up1 (lim X.1) (8 * u + w) v))) hA hZ M14 hf ht hne hr2 (fun σ2 c2 hc2 M2 k16 k17 k18 f2 g2 j2 => ?_)
        refine m_pair (by omega) (by omega) ?_
        rw [w32n (1 + (8 * u + w)) (by omega) (by omega), tn]
        refine ⟨by omega, ?_⟩
        rintro m19 e19
        have el : up1 (up1 (lim X.1) (8 * u + w) v) (8 * u + w) (lim X.1 (8 * u + w)) = lim X.1 := by
          funext i
          unfold up1
          by_cases q : i = 8 * u + w
          · rw [if_pos q, q]
          · rw [if_neg q, if_neg q]
        have M19 := MN_lim (i := 8 * u + w) (v := lim X.1 (8 * u + w)) (by omega) M2.1
        rw [show lim (wB X (wLim X.1 (up1 (lim X.1) (8 * u + w) v))).1 = up1 (lim X.1) (8 * u + w) v from rfl, el] at M19
        refine h m19 ?_ (fun i hi => by rw [e19, up2_ne (by omega), f2 i (by omega) (by omega) (by omega) (by omega) (by omega) (by omega), e14, up2_ne (by omega), fr2 hi])
        rw [e19]
        exact M2.now (B := X.1) M19 (fun i hi => up2_ne hi)
    · refine ⟨-4, X, fun σ Q hC h => ?_, fun σ Q hM h => ?_, hI⟩
      · unfold wX10_were
        have e := hC.1.1
        exact s_hasBoth (fun _ _ _ _ _ _ _ => ⟨fun z => absurd z (by decide), fun _ => s_hasBoth (fun _ _ _ _ _ _ _ => ⟨fun z => absurd z (by decide), fun _ => s_isLimit (fun _ _ => ⟨fun _ => s_owed (by omega) (by omega) hC.1 ⟨fun z => absurd z ho, fun _ => h σ hC (fun _ _ => rfl)⟩, fun z => absurd z (by decide)⟩) (fun z => absurd hp.2.2 z)⟩) (fun z => absurd (by rw [e]; exact hp.2.1) z)⟩) (fun z => absurd (by rw [e]; exact hp.1) z)
      · unfold wX11_were
        rintro m1 rfl
        have hM1 := hM.thr (v := 0)
        exact m_areTwo hM1.1 hI.1.1 (fun _ _ _ _ _ _ _ => ⟨fun z => absurd z (by decide), fun _ => m_areTwo hM1.1 hI.1.1 (fun _ _ _ _ _ _ _ => ⟨fun z => absurd z (by decide), fun _ => m_in (fun _ _ => ⟨fun _ => m_owes hM1.1 (by omega) (by omega) ⟨fun z => absurd z ho, fun _ => h _ hM1 (fun i hi => fr2 hi)⟩, fun z => absurd z (by decide)⟩) (fun z => absurd hp.2.2 z)⟩) (fun z => absurd hp.2.1 z)⟩) (fun z => absurd hp.1 z)
  · refine ⟨-1, X, fun σ Q hC h => ?_, fun σ Q hM h => ?_, hI⟩
    · unfold wX10_were
      have e := hC.1.1
      exact s_hasBoth (fun u y e1 e2 hu hw hne2 => ⟨fun z => absurd z (by decide), fun _ => s_hasBoth (fun u' y' e1' e2' hu' hw' hne2' => ⟨fun z => absurd z (by decide), fun _ => s_isLimit (fun z1 z2 => absurd ⟨by subst e1 e2; exact two_n (by omega) (by omega) hne2, by subst e1' e2'; exact two_n (by omega) (by omega) hne2', z1, z2⟩ hp) (fun z => ⟨fun q => absurd rfl q, fun _ => h σ hC (fun _ _ => rfl)⟩)⟩) (fun z => ⟨fun _ => h σ hC (fun _ _ => rfl), fun q => absurd rfl q⟩)⟩) (fun z => ⟨fun _ => h σ hC (fun _ _ => rfl), fun q => absurd rfl q⟩)
    · unfold wX11_were
      rintro m1 rfl
      have hM1 := hM.thr (v := 0)
      exact m_areTwo hM1.1 hI.1.1 (fun u y e1 e2 hu hw hne2 => ⟨fun z => absurd z (by decide), fun _ => m_areTwo hM1.1 hI.1.1 (fun u' y' e1' e2' hu' hw' hne2' => ⟨fun z => absurd z (by decide), fun _ => m_in (fun z1 z2 => absurd ⟨by subst e1 e2; exact two_n hu hw hne2, by subst e1' e2'; exact two_n hu' hw' hne2', z1, z2⟩ hp) (fun z => ⟨fun q => absurd rfl q, fun _ => h _ hM1 (fun i hi => fr2 hi)⟩)⟩) (fun z => ⟨fun _ => h _ hM1 (fun i hi => fr2 hi), fun q => absurd rfl q⟩)⟩) (fun z => ⟨fun _ => h _ hM1 (fun i hi => fr2 hi), fun q => absurd rfl q⟩)
