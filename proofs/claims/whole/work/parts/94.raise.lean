/-! the least raise of a line -/
section MRAISE
variable {σ : Mem} {f t a c : Nat} {x v : Int} {b0 : Nat}
theorem up1_up1 {g : Nat → Int} {i : Nat} {y z : Int} : up1 (up1 g i y) i z = up1 g i z := by
  funext j
  unfold up1
  by_cases e : j = i
  · rw [if_pos e, if_pos e]
  · rw [if_neg e, if_neg e, if_neg e]
theorem up1_id {g : Nat → Int} {i : Nat} : up1 g i (g i) = g := by
  funext j
  unfold up1
  by_cases e : j = i
  · rw [if_pos e, e]
  · rw [if_neg e]
/-- this line raised by what is missing lets it through -/
def Hlp (B : Bk) (f t : Nat) (x v : Int) (a c : Nat) : Prop := Wde B f t x a c (x - v) ∧ lim B (8 * a + c) + (x - v) ≤ 999
theorem m_raiseOf {X : St} {Q : Int → Mem → Prop} (hI : Inv X.1) (hM : MSt X σ) (hf : f < nN X.1) (ht : t < nN X.1) (hft : f ≠ t) (ha : a < nN X.1) (hc : c < nN X.1) (hne : a ≠ c) (hx : 1 ≤ x ∧ x ≤ 9999) (hxv : v < x) (hv0 : 0 ≤ v) (h0 : b0 < 256) (hf0 : b0.testBit f = true) (ht0 : b0.testBit t = false) (hv : v = cutS (nN X.1) (sp X.1) b0) (hmin : ∀ b, b < 256 → b.testBit f = true → b.testBit t = false → v ≤ cutS (nN X.1) (sp X.1) b) (h1 : Hlp X.1 f t x v a c → ∀ σ', MSt X σ' → (∀ i, i ≠ 300 → i ≠ 301 → i ≠ 304 → i ≠ 312 → i ≠ 313 → i ≠ 316 → σ' i = σ i) → Q (x - v) σ') (h2 : ¬ Hlp X.1 f t x v a c → ∀ σ', MSt X σ' → (∀ i, i ≠ 300 → i ≠ 301 → i ≠ 304 → i ≠ 312 → i ≠ 313 → i ≠ 316 → σ' i = σ i) → Q (-1) σ') : wX11_raiseOf (a : Int) (c : Int) (f : Int) (t : Int) x σ Q := by
  have hN := hI.1.1
  have lb := hI.1.2.1 (8 * a + c) (by omega)
  have wi : ∀ {d : Int}, 0 ≤ d → (Wde X.1 f t x a c d ↔ (x - v ≤ d ∧ Wde X.1 f t x a c (x - v))) := fun hd => wde_iff h0 hf0 ht0 hv hmin hxv hd
  unfold wX11_raiseOf
  refine m_limit hM.1 (by omega) (by omega) ?_
  unfold wLX11_raiseOf_17
  refine lp_in (I := fun y τ => ∃ lo hi m : Int, y = ((a : Int), (c : Int), (f : Int), (t : Int), x, lim X.1 (8 * a + c), lo, hi) ∧ (lim X.1 (8 * a + c) ≤ lo ∧ lo < hi ∧ hi ≤ 1000) ∧ ¬ Wde X.1 f t x a c (lo - lim X.1 (8 * a + c)) ∧ (hi ≤ 999 → Wde X.1 f t x a c (hi - lim X.1 (8 * a + c))) ∧ MSt (wB X (RB1 X.1 a c m)) τ ∧ ∀ i, i ≠ 300 → i ≠ 301 → i ≠ 304 → i ≠ 312 → i ≠ 313 → i ≠ 316 → τ i = σ i) (μ := fun y _ => (y.2.2.2.2.2.2.2 - y.2.2.2.2.2.2.1).toNat) ?_ _ _ ⟨lim X.1 (8 * a + c), 1000, lim X.1 (8 * a + c), rfl, by omega, fun q => ?_, fun q => by omega, ?_, fun _ _ _ _ _ _ _ => rfl⟩
  · rintro y τ ⟨lo, hi, m, rfl, hlh, nlo, whi, Mt, Ft⟩ K hK
    dsimp only [wX11_raiseOf_17]
    have nlo' : ¬ (x - v ≤ lo - lim X.1 (8 * a + c) ∧ Wde X.1 f t x a c (x - v)) := fun q => nlo ((wi (by omega)).mpr q)
    rw [w32_id (a := lo + 1) (by omega) (by omega)]
    refine ⟨fun z => ?_, fun z => ?_⟩
    · refine m_pair (by omega) (by omega) ?_
      rw [w32n (1 + (8 * a + c)) (by omega) (by omega), tn]
      refine ⟨by omega, ?_⟩
      rintro m3 e3
      have M3 : MSt X m3 := by
        have q := MN_lim (i := 8 * a + c) (v := lim X.1 (8 * a + c)) (by omega) Mt.1
        rw [show lim (wB X (RB1 X.1 a c m)).1 = up1 (lim X.1) (8 * a + c) m from rfl, up1_up1, up1_id, ← e3] at q
        exact Mt.now (B := X.1) q (fun i hi => by rw [e3, up2_ne hi])
      have F3 : ∀ i, i ≠ 300 → i ≠ 301 → i ≠ 304 → i ≠ 312 → i ≠ 313 → i ≠ 316 → m3 i = σ i := fun i b1 b2 b3 b4 b5 b6 => by rw [e3, up2_ne b2]; exact Ft i b1 b2 b3 b4 b5 b6
      refine ⟨fun z2 => ?_, fun z2 => ?_⟩
      · have w := (wi (by omega)).mp (whi z2)
        have : ¬ x - v ≤ lo - lim X.1 (8 * a + c) := fun q => nlo' ⟨q, w.2⟩
        rw [w32_id (by omega) (by omega), show hi - lim X.1 (8 * a + c) = x - v by omega]
        exact h1 ⟨w.2, by omega⟩ m3 M3 F3
      · refine h2 (fun q => ?_) m3 M3 F3
        exact nlo' ⟨by have := q.2; omega, q.1⟩
    · rintro _ rfl
      rw [w32_id (a := lo + hi) (by omega) (by omega), bdiv2 (by omega) (by omega)]
      refine m_pair (by omega) (by omega) ?_
      rw [w32n (1 + (8 * a + c)) (by omega) (by omega), tn]
      refine ⟨by omega, ?_⟩
      rintro m7 e7
      have b1 : lim X.1 (8 * a + c) ≤ (lo + hi) / 2 := by omega
      have b2 : (lo + hi) / 2 ≤ 999 := by omega
      have M7 : MSt (wB X (RB1 X.1 a c ((lo + hi) / 2))) m7 := by
        have q := MN_lim (i := 8 * a + c) (v := (lo + hi) / 2) (by omega) Mt.1
        rw [show lim (wB X (RB1 X.1 a c m)).1 = up1 (lim X.1) (8 * a + c) m from rfl, up1_up1, ← e7] at q
        exact Mt.now (B := RB1 X.1 a c ((lo + hi) / 2)) q (fun i hi => by rw [e7, up2_ne hi])
      have iW := inv_wide hI ha hc hne b1 b2
      obtain ⟨r, s', y, _, hr2, hn, _, _, _, _⟩ := snd_most iW.1 hf ht hft (si_sp (B := RB1 X.1 a c ((lo + hi) / 2)))
      have wg := wide_ge (x := x) hI hf ht hft ha hc hne b1 b2 hr2 hn
      refine mo_mostOf (X := wB X (RB1 X.1 a c ((lo + hi) / 2))) iW.1 iW.2.1 M7 hf ht hft hr2 (fun σ8 _ _ M8 _ _ _ f8 _ _ => ?_)
      have F8 : ∀ i, i ≠ 300 → i ≠ 301 → i ≠ 304 → i ≠ 312 → i ≠ 313 → i ≠ 316 → σ8 i = σ i := fun i b1 b2 b3 b4 b5 b6 => by rw [f8 i b1 b2 b3 b4 b5 b6, e7, up2_ne b2]; exact Ft i b1 b2 b3 b4 b5 b6
      refine ⟨fun z2 => ?_, fun z2 => ?_⟩
      · exact hK _ _ ⟨(lo + hi) / 2, hi, (lo + hi) / 2, rfl, by omega, fun q => by have := wg.mpr q; omega, whi, M8, F8⟩ (by (try dsimp only); omega)
      · exact hK _ _ ⟨lo, (lo + hi) / 2, (lo + hi) / 2, rfl, by omega, nlo, fun _ => wg.mp (by omega), M8, F8⟩ (by (try dsimp only); omega)
  · have := ((wi (by omega)).mp q).1
    omega
  · show MSt (wB X (wLim X.1 (up1 (lim X.1) (8 * a + c) (lim X.1 (8 * a + c))))) σ
    rw [up1_id]
    exact hM
theorem s_goesIf {B : Bk} {Q : Int → Mem → Prop} (hI : Inv B) (hC : CB 40 B σ) (hf : f < nN B) (ht : t < nN B) (hft : f ≠ t) (ha : a < nN B) (hc : c < nN B) (hne : a ≠ c) (hx : 1 ≤ x ∧ x ≤ 9999) (hxv : v < x) (hv0 : 0 ≤ v) (hl : lim B (8 * a + c) + (x - v) ≤ 999) (h1 : Wde B f t x a c (x - v) → ∀ σ', (∀ i, ¬ (14 ≤ i ∧ i ≤ 22) → σ' i = σ i) → Q 1 σ') (h2 : ¬ Wde B f t x a c (x - v) → ∀ σ', (∀ i, ¬ (14 ≤ i ∧ i ≤ 22) → σ' i = σ i) → Q 0 σ') : wX10_goesIfWider (f : Int) (t : Int) x (c : Int) (a : Int) (x - v) σ Q := by
  have hN := hI.1.1
  have lb := hI.1.2.1 (8 * a + c) (by omega)
  have sb := sp_b hI.1 (i := 8 * c + a) (by omega)
  have hsp := wl_sp (v := lim B (8 * a + c) + (x - v)) ha hc hN.2 hne
  have iW := inv_wide (m := lim B (8 * a + c) + (x - v)) hI ha hc hne (by omega) hl
  obtain ⟨r, s', y, hr, hr2, hn, _, _, _, _⟩ := snd_most iW.1 hf ht hft (si_sp (B := RB1 B a c (lim B (8 * a + c) + (x - v))))
  obtain ⟨r1, s1, l1, hs, _⟩ := snd_ex iW.1 hf ht hft (si_sp (B := RB1 B a c (lim B (8 * a + c) + (x - v)))) (l := x) (by omega)
  have q1 := Prun.si iW.1 hf ht hft hs.1 si_sp (by omega)
  have cx := snd_x iW.1 hf ht hft si_sp hr (by omega) hs
  have wg := wide_ge (x := x) hI hf ht hft ha hc hne (by omega) hl hr2 hn
  rw [show lim B (8 * a + c) + (x - v) - lim B (8 * a + c) = x - v by omega] at wg
  unfold wX10_goesIfWider
  refine s_load (by omega) hC hI.1 hI.2.1 (fun σ1 g0 g15 g16 gf => ?_)
  unfold wX4_widen
  refine s_at (by omega) (by omega) ⟨rg64 (by omega) (by omega), rg64 (by omega) (by omega), ?_⟩
  rintro m3 e3
  rw [tn, g15 _ (lt64 (by omega) (by omega)), w32_id (by omega) (by omega)] at e3
  refine s_send (m := 8) iW.1 hf ht hft (by rw [e3, up2_ne (by omega)]; exact g0) (fun i hi => ?_) si_sp (by omega) (by omega) hs (fun σ4 _ _ _ _ f4 => ?_)
  · rw [hsp i hi, e3, up2_app]
    unfold up1
    by_cases q : i = 8 * c + a
    · rw [if_pos ⟨rfl, q⟩, if_pos q]; omega
    · rw [if_neg (fun z => q z.2), if_neg q]; exact g15 i hi
  · have F4 : ∀ i, ¬ (14 ≤ i ∧ i ≤ 22) → σ4 i = σ i := fun i hi => by rw [f4 i (by omega), e3, up2_ne (by omega)]; exact gf i (by omega) (by omega) (by omega)
    exact ⟨fun z => h2 (fun q => by have := wg.mpr q; omega) σ4 F4, fun z => h1 (wg.mp (by omega)) σ4 F4⟩
end MRAISE
theorem op_raise (p q x : Int) : OpOK (wX10_raise p q x) (wX11_raise p q x) := by
  classical
  refine OpOK.of (fun X hI => ?_)
  have hN := hI.1.1.1
  by_cases hp : two (nN X.1) p q ∧ 1 ≤ x ∧ x ≤ 9999
  · obtain ⟨f, rfl⟩ : ∃ f : Nat, p = f := ⟨p.toNat, by omega⟩
    obtain ⟨t, rfl⟩ : ∃ t : Nat, q = t := ⟨q.toNat, by omega⟩
    have hf : f < nN X.1 := by omega
    have ht : t < nN X.1 := by omega
    have hft : f ≠ t := by omega
    have hA := hI.1.1
    have hZ := hI.1.2.1
    obtain ⟨r, s', v, hr, hr2, hn, v0, v1, hlen, hS'⟩ := snd_most hA hf ht hft (si_sp (B := X.1))
    obtain ⟨r1, s1, l1, hs, hlen1⟩ := snd_ex hA hf ht hft (si_sp (B := X.1)) (l := x) (by omega)
    have q1 := Prun.si hA hf ht hft hs.1 si_sp (by omega)
    have cx := snd_x hA hf ht hft si_sp hr (by omega) hs
    by_cases hxv : v < x
    · obtain ⟨es, el⟩ : s1 = s' ∧ x - l1 = v := by
        rcases cx with w | w
        · exact absurd w.2 (by omega)
        · exact ⟨w.2.2.2.2, w.2.1⟩
      subst es
      obtain ⟨b0, hb0⟩ := ex_R (nN X.1) s1 1 hN.2 hf
      have fl := flow_ge (x := v) hI.1 hf ht hft hr2 hn
      have hmin := fl.1.mp (Int.le_refl _)
      obtain ⟨ht0, hv⟩ := fl.2 b0 hb0
      have h0 := hb0.1.1
      have hf0 := hb0.1.2.1
      -- the first line that helps
      obtain ⟨G, hG⟩ : ∃ G : Nat → Prop, ∀ k, G k ↔ (k / 8 < nN X.1 ∧ k % 8 < nN X.1 ∧ k / 8 ≠ k % 8 ∧ Hlp X.1 f t x v (k / 8) (k % 8)) := ⟨fun k => _, fun k => Iff.rfl⟩
      have Gi : ∀ {a c : Nat}, a < nN X.1 → c < nN X.1 → a ≠ c → (G (8 * a + c) ↔ Hlp X.1 f t x v a c) := fun {a c} ha hc hne => by
        rw [hG, (dm8 (by omega)).1, (dm8 (by omega)).2]
        exact ⟨fun w => w.2.2.2, fun w => ⟨ha, hc, hne, w⟩⟩
      -- the class at one line
      have at1 : ∀ (a c : Nat) (K64 : (Int × Int × Int × Int × Int × Int) → Mem → Prop) (K79 : (Int × Int × Int × Int × Int × Int × Int) → Mem → Prop) (Q : Int → Mem → Prop) (σ τ : Mem), a < nN X.1 → c < nN X.1 → CB 40 X.1 σ → (∀ i, ¬ (14 ≤ i ∧ i ≤ 22) → τ i = σ i) → (¬ G (8 * a + c) → ∀ τ', (∀ i, ¬ (14 ≤ i ∧ i ≤ 22) → τ' i = σ i) → K79 ((f : Int), (t : Int), x, x - v, (b0 : Int), (a : Int), ((c + 1 : Nat) : Int)) τ') → (G (8 * a + c) → ∀ τ', (∀ i, ¬ (14 ≤ i ∧ i ≤ 22) → τ' i = σ i) → wX5_tellOne (x - v) τ' (fun m8 => Q (10 * (a : Int) + (c : Int)) m8)) → wX10_raise_79 K64 K79 Q (f : Int) (t : Int) x (x - v) (b0 : Int) (a : Int) (c : Int) τ := by
        intro a c K64 K79 Q σ τ ha hc hC hF hno hyes
        have Ct : CB 40 X.1 τ := hC.fr (fun i a1 a2 => hF i (by omega))
        have wc : w32 ((c : Int) + 1) = ((c + 1 : Nat) : Int) := by rw [w32_id (by omega) (by omega)]; rfl
        have tc := tb1 (x := b0) (o := c) h0 (by omega)
        have ta := tb1 (x := b0) (o := a) h0 (by omega)
        have skip : ¬ G (8 * a + c) → ∀ x1 : Int, x1 = w32 ((c : Int) + 1) → K79 ((f : Int), (t : Int), x, x - v, (b0 : Int), (a : Int), x1) τ := by
          rintro w _ rfl
          rw [wc]
          exact hno w τ hF
        have nc : ¬ (b0.testBit c = true ∧ b0.testBit a = false) → ¬ G (8 * a + c) := fun w g => by
          have g' := (hG _).mp g
          rw [(dm8 (by omega)).1, (dm8 (by omega)).2] at g'
          exact w (wde_cross h0 hf0 ht0 hv hxv g'.2.2.2.1)
        unfold wX10_raise_79 wX10_raise_116 wX10_raise_117
        rw [Ct.1]
        refine ⟨fun z => absurd z (by omega), fun _ => ⟨fun z => ⟨fun _ => skip (nc (fun w => z (tc.1.mpr w.1))), fun w => absurd rfl w⟩, fun z => ⟨fun z2 => ⟨fun _ => skip (nc (fun w => z2 (ta.2.mpr w.2))), fun w => absurd rfl w⟩, fun z2 => ⟨fun w => absurd w (by decide), fun _ => ?_⟩⟩⟩⟩
        have bc : b0.testBit c = true := tc.1.mp z
        have ba : b0.testBit a = false := ta.2.mp z2
        have hac : a ≠ c := fun e => by rw [e, bc] at ba; cases ba
        have lb := hA.2.1 (8 * a + c) (by omega)
        refine s_at (by omega) (by omega) ⟨rg64 (by omega) (by omega), ?_⟩
        rw [tn, Ct.2.1 _ (lt64 (by omega) (by omega)), w32_id (a := lim X.1 (8 * a + c) + (x - v)) (by omega) (by omega)]
        refine ⟨fun z3 => skip (fun g => by have := ((Gi ha hc hac).mp g).2; omega), fun z3 => ?_⟩
        refine s_goesIf hI.1 Ct hf ht hft ha hc hac hp.2 hxv v0 (by omega) (fun w τ' F' => ⟨fun e => absurd e (by decide), fun _ => ?_⟩) (fun w τ' F' => ⟨fun _ => ?_, fun e => absurd rfl e⟩)
        · have e := hyes ((Gi ha hc hac).mpr ⟨w, by omega⟩) τ' (fun i hi => by rw [F' i hi]; exact hF i hi)
          rw [w32_id (a := 10 * (a : Int)) (by omega) (by omega), w32_id (by omega) (by omega)]
          exact e
        · rintro _ rfl
          rw [wc]
          exact hno (fun g => w ((Gi ha hc hac).mp g).1) τ' (fun i hi => by rw [F' i hi]; exact hF i hi)
      -- the class ahead of its lines
      have ahead : ∀ (σ : Mem) (Q : Int → Mem → Prop), CSt X σ → (∀ τ, (∀ i, ¬ (14 ≤ i ∧ i ≤ 22) → τ i = σ i) → wLX10_raise_64 Q (f : Int) (t : Int) x (x - v) (b0 : Int) 0 τ) → wX10_raise (f : Int) (t : Int) x σ Q := by
        intro σ Q hC hgo
        unfold wX10_raise
        refine s_isPayment hC.1 (fun _ _ _ _ _ _ _ _ _ => ⟨fun _ => ?_, fun z => absurd z (by decide)⟩) (fun z => absurd hp z)
        refine s_loadSend (by omega) hC.1 hA hZ hf ht hft (by omega) (by omega) hs (fun σ1 k0 k15 _ f1 => ⟨fun _ => ?_, fun z => absurd (by omega) z⟩)
        rintro _ rfl
        refine s_reached (s := s1) hN.2 hf k0 k15 (fun σ2 b2 hb2 f2 => ?_)
        obtain rfl := hb2.eq hb0
        rw [el, w32_id (by omega) (by omega)]
        exact hgo σ2 (fun i hi => by rw [f2 i (by omega)]; exact f1 i hi)
      -- the reference at one line
      have mat1 : ∀ (a c : Nat) (l4 l5 : Int) (K39 : (Int × Int × Int × Int × Int × Int) → Mem → Prop) (K53 : (Int × Int × Int × Int × Int × Int × Int) → Mem → Prop) (Q : Int → Mem → Prop) (σ τ : Mem), a < nN X.1 → c < nN X.1 → MSt X τ → (∀ i, i < 300 ∨ i = 340 → τ i = σ i) → (l4 ≠ -1 → l5 = x - v) → (∀ l4' l5' : Int, (¬ G (8 * a + c) → l4' = l4 ∧ l5' = l5) → (G (8 * a + c) → l5' = x - v ∧ l4' = if l4 = -1 then 10 * (a : Int) + (c : Int) else l4) → ∀ τ', MSt X τ' → (∀ i, i < 300 ∨ i = 340 → τ' i = σ i) → K53 ((f : Int), (t : Int), x, l4', l5', (a : Int), ((c + 1 : Nat) : Int)) τ') → wX11_raise_53 K39 K53 Q (f : Int) (t : Int) x l4 l5 (a : Int) (c : Int) τ := by
        intro a c l4 l5 K39 K53 Q σ τ ha hc hM hF hl hK
        have wc : w32 ((c : Int) + 1) = ((c + 1 : Nat) : Int) := by rw [w32_id (by omega) (by omega)]; rfl
        unfold wX11_raise_53 wX11_raise_86 wX11_raise_110
        rw [hM.1.1, wc]
        refine ⟨fun z => absurd z (by omega), fun _ => ⟨fun z => ?_, fun z => ?_⟩⟩
        · have hac : a ≠ c := by omega
          refine m_raiseOf hI.1 hM hf ht hft ha hc hac hp.2 hxv v0 h0 hf0 ht0 hv hmin (fun w σ' M' F' => ⟨fun e => absurd e (by omega), fun _ => ⟨fun e => ?_, fun e => ⟨fun e2 => ?_, fun e2 => ?_⟩⟩⟩) (fun w σ' M' F' => ⟨fun _ => ?_, fun e => absurd rfl e⟩)
          · rintro _ rfl _ rfl
            rw [w32_id (a := 10 * (a : Int)) (by omega) (by omega), w32_id (by omega) (by omega)]
            exact hK _ _ (fun g => absurd ((Gi ha hc hac).mpr w) g) (fun _ => ⟨rfl, by rw [if_pos e]⟩) σ' M' (fun i hi => by rw [F' i (by omega) (by omega) (by omega) (by omega) (by omega) (by omega)]; exact hF i hi)
          · have := hl e
            omega
          · rintro _ rfl
            exact hK _ _ (fun g => absurd ((Gi ha hc hac).mpr w) g) (fun _ => ⟨hl e, by rw [if_neg e]⟩) σ' M' (fun i hi => by rw [F' i (by omega) (by omega) (by omega) (by omega) (by omega) (by omega)]; exact hF i hi)
          · rintro _ rfl
            exact hK _ _ (fun _ => ⟨rfl, rfl⟩) (fun g => absurd ((Gi ha hc hac).mp g) w) σ' M' (fun i hi => by rw [F' i (by omega) (by omega) (by omega) (by omega) (by omega) (by omega)]; exact hF i hi)
        · have ng : ¬ G (8 * a + c) := fun g => by
            have g' := (hG _).mp g
            rw [(dm8 (by omega)).1, (dm8 (by omega)).2] at g'
            exact g'.2.2.1 (by omega)
          refine ⟨fun _ => ?_, fun e => absurd rfl e⟩
          rintro _ rfl
          exact hK _ _ (fun _ => ⟨rfl, rfl⟩) (fun g => absurd g ng) τ hM hF
      -- what the reference has as far as k
      by_cases hex : ∃ k, G k
      · obtain ⟨k1, hk1⟩ := hex
        obtain ⟨k, _, hk, hkm⟩ := least_ex (p := G) k1 k1 (Nat.le_refl _) hk1
        have hk' := (hG k).mp hk
        obtain ⟨a0, ea0⟩ : ∃ a0, a0 = k / 8 := ⟨_, rfl⟩
        obtain ⟨c0, ec0⟩ : ∃ c0, c0 = k % 8 := ⟨_, rfl⟩
        have ek : k = 8 * a0 + c0 := by omega
        have ha0 : a0 < nN X.1 := by rw [ea0]; exact hk'.1
        have hc0 : c0 < nN X.1 := by rw [ec0]; exact hk'.2.1
        refine ⟨10 * (a0 : Int) + (c0 : Int), wL X [x - v], fun σ Q hC h => ?_, fun σ Q hM h => ?_, xi_row hI ⟨fun y hy => ?_, by simp⟩⟩
        · refine ahead σ Q hC (fun τ0 F0 => ?_)
          unfold wLX10_raise_64
          refine lp_for (fun a y τ => y = ((f : Int), (t : Int), x, x - v, (b0 : Int), (a : Int)) ∧ ∀ i, ¬ (14 ≤ i ∧ i ≤ 22) → τ i = σ i) a0 ?_ ?_ _ _ ⟨rfl, F0⟩
          · rintro a ha _ τ ⟨rfl, hF⟩ K hK
            dsimp only [wX10_raise_64]
            refine ⟨fun z => absurd z (by rw [hF 40 (by omega), hC.1.1]; omega), fun _ => ?_⟩
            unfold wLX10_raise_79
            refine lp_for (fun c y τ => y = ((f : Int), (t : Int), x, x - v, (b0 : Int), (a : Int), (c : Int)) ∧ ∀ i, ¬ (14 ≤ i ∧ i ≤ 22) → τ i = σ i) (nN X.1) ?_ ?_ _ _ ⟨rfl, hF⟩
            · rintro c hc _ τ2 ⟨rfl, hF2⟩ K2 hK2
              exact at1 a c _ _ Q σ τ2 (by omega) hc hC.1 hF2 (fun _ τ' F' => hK2 _ _ ⟨rfl, F'⟩) (fun g => absurd g (hkm _ (by omega)))
            · rintro _ τ2 ⟨rfl, hF2⟩ K2
              dsimp only [wX10_raise_79]
              refine ⟨fun _ => ?_, fun z => absurd (by rw [hF2 40 (by omega), hC.1.1]; omega) z⟩
              rintro _ rfl
              exact hK _ _ ⟨by rw [w32_id (by omega) (by omega)]; rfl, hF2⟩
          · rintro _ τ ⟨rfl, hF⟩ K
            dsimp only [wX10_raise_64]
            refine ⟨fun z => absurd z (by rw [hF 40 (by omega), hC.1.1]; omega), fun _ => ?_⟩
            unfold wLX10_raise_79
            refine lp_for (fun c y τ => y = ((f : Int), (t : Int), x, x - v, (b0 : Int), (a0 : Int), (c : Int)) ∧ ∀ i, ¬ (14 ≤ i ∧ i ≤ 22) → τ i = σ i) c0 ?_ ?_ _ _ ⟨rfl, hF⟩
            · rintro c hc _ τ2 ⟨rfl, hF2⟩ K2 hK2
              exact at1 a0 c _ _ Q σ τ2 ha0 (by omega) hC.1 hF2 (fun _ τ' F' => hK2 _ _ ⟨rfl, F'⟩) (fun g => absurd g (hkm _ (by omega)))
            · rintro _ τ2 ⟨rfl, hF2⟩ K2
              refine at1 a0 c0 _ _ Q σ τ2 ha0 hc0 hC.1 hF2 (fun g => absurd (by rw [← ek]; exact hk) g) (fun _ τ' F' => c_tell1 (fun σ3 r3 f3 => ?_))
              have S2 : CSt X τ' := hC.fr (fun i a1 a2 a3 a4 => F' i (by omega))
              exact h σ3 (S2.row r3 (fun i a1 a2 _ => f3 i a1 a2)) (fun i hi => by rw [f3 i (by omega) (by omega)]; exact F' i (by omega))
        · unfold wX11_raise
          rintro m1 rfl
          have hM1 := hM.thr (v := 0)
          refine m_isPayment hM1.1 hA (fun _ _ _ _ _ _ _ _ _ => ⟨fun _ => ?_, fun z => absurd z (by decide)⟩) (fun z => absurd hp z)
          refine mo_mostOf hA hZ hM1 hf ht hft hr2 (fun σ2 _ _ M2 _ _ _ f2 _ _ => ⟨fun _ => ?_, fun z => absurd hxv z⟩)
          have F2 : ∀ i, i < 300 ∨ i = 340 → σ2 i = σ i := fun i hi => by rw [f2 i (by omega) (by omega) (by omega) (by omega) (by omega) (by omega), fr2 hi]
          -- best and least as far as j
          let bst : Nat → Int := fun j => if k < j then 10 * (a0 : Int) + (c0 : Int) else -1
          let lst : Nat → Int := fun j => if k < j then x - v else 0
          have bn : ∀ j, bst j ≠ -1 → lst j = x - v := fun j w => by
            show (if k < j then x - v else 0) = x - v
            by_cases e : k < j
            · rw [if_pos e]
            · exact absurd (if_neg e) w
          have step : ∀ (j : Nat) (l4' l5' : Int) (a c : Nat), j = 8 * a + c → c < 8 → (¬ G j → l4' = bst j ∧ l5' = lst j) → (G j → l5' = x - v ∧ l4' = if bst j = -1 then 10 * (a : Int) + (c : Int) else bst j) → l4' = bst (j + 1) ∧ l5' = lst (j + 1) := by
            intro j l4' l5' a c ej hc8 w1 w2
            show l4' = (if k < j + 1 then 10 * (a0 : Int) + (c0 : Int) else -1) ∧ l5' = (if k < j + 1 then x - v else 0)
            rcases Nat.lt_trichotomy j k with e | e | e
            · have w := w1 (hkm j e)
              rw [if_neg (by omega), if_neg (by omega), w.1, w.2]
              exact ⟨if_neg (by omega), if_neg (by omega)⟩
            · have w := w2 (by rw [e]; exact hk)
              have b1 : bst j = -1 := if_neg (by omega)
              rw [if_pos (by omega), if_pos (by omega), w.1, w.2, if_pos b1]
              exact ⟨by omega, rfl⟩
            · have b1 : bst j = 10 * (a0 : Int) + (c0 : Int) := if_pos e
              have b2 : lst j = x - v := if_pos e
              rw [if_pos (by omega), if_pos (by omega)]
              by_cases g : G j
              · have w := w2 g
                rw [w.1, w.2, if_neg (by rw [b1]; omega), b1]
                exact ⟨rfl, rfl⟩
              · have w := w1 g
                rw [w.1, w.2, b1, b2]
                exact ⟨rfl, rfl⟩
          have skp : ∀ (j j2 : Nat), j ≤ j2 → (∀ i, j ≤ i → i < j2 → ¬ G i) → bst j = bst j2 ∧ lst j = lst j2 := fun j j2 hj w => by
            show (if k < j then 10 * (a0 : Int) + (c0 : Int) else -1) = (if k < j2 then 10 * (a0 : Int) + (c0 : Int) else -1) ∧ (if k < j then x - v else 0) = (if k < j2 then x - v else 0)
            by_cases e : k < j
            · rw [if_pos e, if_pos (by omega), if_pos e, if_pos (by omega)]; exact ⟨rfl, rfl⟩
            · have : ¬ k < j2 := fun e2 => w k (by omega) e2 hk
              rw [if_neg e, if_neg this, if_neg e, if_neg this]; exact ⟨rfl, rfl⟩
          have b0' : bst 0 = -1 := if_neg (by omega)
          have l0' : lst 0 = 0 := if_neg (by omega)
          unfold wLX11_raise_39
          refine lp_for (fun a y τ => y = ((f : Int), (t : Int), x, bst (8 * a), lst (8 * a), (a : Int)) ∧ MSt X τ ∧ ∀ i, i < 300 ∨ i = 340 → τ i = σ i) (nN X.1) ?_ ?_ _ _ ⟨by rw [Nat.mul_zero, b0', l0']; rfl, M2, F2⟩
          · rintro a ha _ τ ⟨rfl, hMt, hF⟩ K hK
            dsimp only [wX11_raise_39]
            refine ⟨fun z => absurd z (by rw [hMt.1.1]; omega), fun _ => ?_⟩
            unfold wLX11_raise_53
            refine lp_for (fun c y τ => y = ((f : Int), (t : Int), x, bst (8 * a + c), lst (8 * a + c), (a : Int), (c : Int)) ∧ MSt X τ ∧ ∀ i, i < 300 ∨ i = 340 → τ i = σ i) (nN X.1) ?_ ?_ _ _ ⟨rfl, hMt, hF⟩
            · rintro c hc _ τ2 ⟨rfl, hM3, hF3⟩ K2 hK2
              refine mat1 a c _ _ _ _ Q σ τ2 ha hc hM3 hF3 (bn _) (fun l4' l5' w1 w2 τ' M' F' => ?_)
              have w := step (8 * a + c) l4' l5' a c rfl (by omega) w1 w2
              rw [w.1, w.2]
              exact hK2 _ _ ⟨rfl, M', F'⟩
            · rintro _ τ2 ⟨rfl, hM3, hF3⟩ K2
              dsimp only [wX11_raise_53]
              refine ⟨fun _ => ?_, fun z => absurd (by rw [hM3.1.1]; omega) z⟩
              rintro _ rfl
              have w := skp (8 * a + nN X.1) (8 * (a + 1)) (by omega) (fun i h1 h2 g => by have := ((hG i).mp g).2.1; omega)
              exact hK _ _ ⟨by rw [w.1, w.2, w32_id (by omega) (by omega)]; rfl, hM3, hF3⟩
          · rintro _ τ ⟨rfl, hMt, hF⟩ K
            dsimp only [wX11_raise_39]
            refine ⟨fun _ => ?_, fun z => absurd (by rw [hMt.1.1]; omega) z⟩
            have bN : bst (8 * nN X.1) = 10 * (a0 : Int) + (c0 : Int) := if_pos (by omega)
            have lN : lst (8 * nN X.1) = x - v := if_pos (by omega)
            rw [bN, lN]
            refine ⟨fun _ => ?_, fun z => absurd z (by omega)⟩
            rintro m3 e3
            have M3 : MSt (wL X []) m3 := by rw [e3]; exact mo_row0 hMt
            refine mo_tell M3 (by simp) (fun σ4 M4 f4 j4 => ?_)
            exact h σ4 M4 (fun i hi => by rw [f4 i (by omega) (by omega), e3, up2_ne (by omega)]; exact hF i hi)
        · simp at hy
          omega
      · have hno : ∀ k, ¬ G k := fun k g => hex ⟨k, g⟩
        refine ⟨-3, X, fun σ Q hC h => ?_, fun σ Q hM h => ?_, hI⟩
        · refine ahead σ Q hC (fun τ0 F0 => ?_)
          unfold wLX10_raise_64
          refine lp_for (fun a y τ => y = ((f : Int), (t : Int), x, x - v, (b0 : Int), (a : Int)) ∧ ∀ i, ¬ (14 ≤ i ∧ i ≤ 22) → τ i = σ i) (nN X.1) ?_ ?_ _ _ ⟨rfl, F0⟩
          · rintro a ha _ τ ⟨rfl, hF⟩ K hK
            dsimp only [wX10_raise_64]
            refine ⟨fun z => absurd z (by rw [hF 40 (by omega), hC.1.1]; omega), fun _ => ?_⟩
            unfold wLX10_raise_79
            refine lp_for (fun c y τ => y = ((f : Int), (t : Int), x, x - v, (b0 : Int), (a : Int), (c : Int)) ∧ ∀ i, ¬ (14 ≤ i ∧ i ≤ 22) → τ i = σ i) (nN X.1) ?_ ?_ _ _ ⟨rfl, hF⟩
            · rintro c hc _ τ2 ⟨rfl, hF2⟩ K2 hK2
              exact at1 a c _ _ Q σ τ2 (by omega) hc hC.1 hF2 (fun _ τ' F' => hK2 _ _ ⟨rfl, F'⟩) (fun g => absurd g (hno _))
            · rintro _ τ2 ⟨rfl, hF2⟩ K2
              dsimp only [wX10_raise_79]
              refine ⟨fun _ => ?_, fun z => absurd (by rw [hF2 40 (by omega), hC.1.1]; omega) z⟩
              rintro _ rfl
              exact hK _ _ ⟨by rw [w32_id (by omega) (by omega)]; rfl, hF2⟩
          · rintro _ τ ⟨rfl, hF⟩ K
            dsimp only [wX10_raise_64]
            refine ⟨fun _ => h τ (hC.fr (fun i a1 a2 a3 a4 => hF i (by omega))) (fun i hi => hF i (by omega)), fun z => absurd (by rw [hF 40 (by omega), hC.1.1]; omega) z⟩
        · unfold wX11_raise
          rintro m1 rfl
          have hM1 := hM.thr (v := 0)
          refine m_isPayment hM1.1 hA (fun _ _ _ _ _ _ _ _ _ => ⟨fun _ => ?_, fun z => absurd z (by decide)⟩) (fun z => absurd hp z)
          refine mo_mostOf hA hZ hM1 hf ht hft hr2 (fun σ2 _ _ M2 _ _ _ f2 _ _ => ⟨fun _ => ?_, fun z => absurd hxv z⟩)
          have F2 : ∀ i, i < 300 ∨ i = 340 → σ2 i = σ i := fun i hi => by rw [f2 i (by omega) (by omega) (by omega) (by omega) (by omega) (by omega), fr2 hi]
          unfold wLX11_raise_39
          refine lp_for (fun a y τ => y = ((f : Int), (t : Int), x, -1, 0, (a : Int)) ∧ MSt X τ ∧ ∀ i, i < 300 ∨ i = 340 → τ i = σ i) (nN X.1) ?_ ?_ _ _ ⟨rfl, M2, F2⟩
          · rintro a ha _ τ ⟨rfl, hMt, hF⟩ K hK
            dsimp only [wX11_raise_39]
            refine ⟨fun z => absurd z (by rw [hMt.1.1]; omega), fun _ => ?_⟩
            unfold wLX11_raise_53
            refine lp_for (fun c y τ => y = ((f : Int), (t : Int), x, -1, 0, (a : Int), (c : Int)) ∧ MSt X τ ∧ ∀ i, i < 300 ∨ i = 340 → τ i = σ i) (nN X.1) ?_ ?_ _ _ ⟨rfl, hMt, hF⟩
            · rintro c hc _ τ2 ⟨rfl, hM3, hF3⟩ K2 hK2
              refine mat1 a c _ _ _ _ Q σ τ2 ha hc hM3 hF3 (fun w => absurd rfl w) (fun l4' l5' w1 w2 τ' M' F' => ?_)
              have w := w1 (hno _)
              rw [w.1, w.2]
              exact hK2 _ _ ⟨rfl, M', F'⟩
            · rintro _ τ2 ⟨rfl, hM3, hF3⟩ K2
              dsimp only [wX11_raise_53]
              refine ⟨fun _ => ?_, fun z => absurd (by rw [hM3.1.1]; omega) z⟩
              rintro _ rfl
              exact hK _ _ ⟨by rw [w32_id (by omega) (by omega)]; rfl, hM3, hF3⟩
          · rintro _ τ ⟨rfl, hMt, hF⟩ K
            dsimp only [wX11_raise_39]
            exact ⟨fun _ => ⟨fun z => absurd rfl z, fun _ => h τ hMt hF⟩, fun z => absurd (by rw [hMt.1.1]; omega) z⟩
    · refine ⟨-2, X, fun σ Q hC h => ?_, fun σ Q hM h => ?_, hI⟩
      · unfold wX10_raise
        refine s_isPayment hC.1 (fun _ _ _ _ _ _ _ _ _ => ⟨fun _ => ?_, fun z => absurd z (by decide)⟩) (fun z => absurd hp z)
        refine s_loadSend (by omega) hC.1 hA hZ hf ht hft (by omega) (by omega) hs (fun σ1 _ _ _ f1 => ⟨fun z => absurd z (by omega), fun _ => ?_⟩)
        exact h σ1 (hC.fr (fun i a1 a2 a3 a4 => f1 i (by omega))) (fun i hi => f1 i (by omega))
      · unfold wX11_raise
        rintro m1 rfl
        have hM1 := hM.thr (v := 0)
        refine m_isPayment hM1.1 hA (fun _ _ _ _ _ _ _ _ _ => ⟨fun _ => ?_, fun z => absurd z (by decide)⟩) (fun z => absurd hp z)
        refine mo_mostOf hA hZ hM1 hf ht hft hr2 (fun σ2 _ _ M2 _ _ _ f2 _ _ => ⟨fun z => absurd z hxv, fun _ => ?_⟩)
        exact h σ2 M2 (fun i hi => by rw [f2 i (by omega) (by omega) (by omega) (by omega) (by omega) (by omega), fr2 hi])
  · refine ⟨-1, X, fun σ Q hC h => ?_, fun σ Q hM h => ?_, hI⟩
    · unfold wX10_raise
      exact s_isPayment hC.1 (not_pay hp) (fun z => ⟨fun q => absurd rfl q, fun _ => h σ hC (fun _ _ => rfl)⟩)
    · unfold wX11_raise
      rintro m1 rfl
      have hM1 := hM.thr (v := 0)
      exact m_isPayment hM1.1 hI.1.1 (not_pay hp) (fun z => ⟨fun q => absurd rfl q, fun _ => h _ hM1 (fun i hi => fr2 hi)⟩)
