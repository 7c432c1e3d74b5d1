/-! payments all of which are made, or none -/
def BR (N : Nat) : List Py → (Nat → Int) → Nat → (Nat → Int) → Option Int → Prop
  | [], s, k, s', o => k = 0 ∧ s' = s ∧ o = none
  | z :: Y, s, k, s', o => ∃ r s1 l1, Snd N z.1 z.2.1 r s z.2.2 s1 l1 ∧ ((l1 = 0 ∧ ∃ k', k = k' + 1 ∧ BR N Y s1 k' s' o) ∨ (l1 ≠ 0 ∧ k = 0 ∧ s' = s ∧ o = some (z.2.2 - l1)))
section BATCH
variable {B : Bk} {s : Nat → Int}
theorem ex_BR (hI : IvA B) : ∀ (Y : List Py) (s : Nat → Int), SI 8 B s → (∀ z ∈ Y, z.1 < nN B ∧ z.2.1 < nN B ∧ z.1 ≠ z.2.1 ∧ 1 ≤ z.2.2 ∧ z.2.2 ≤ 9999) → ∃ k s' o, BR (nN B) Y s k s' o ∧ SI 8 B s' ∧ k ≤ Y.length ∧ (o = none → k = Y.length) ∧ (∀ v, o = some v → 0 ≤ v ∧ v ≤ 9999)
  | [], s, hS, _ => ⟨0, s, none, ⟨rfl, rfl, rfl⟩, hS, Nat.le_refl _, fun _ => rfl, fun v hv => by cases hv⟩
  | z :: Y, s, hS, hY => by
    have hz := hY z List.mem_cons_self
    obtain ⟨r, s1, l1, h1, _⟩ := snd_ex hI hz.1 hz.2.1 hz.2.2.1 hS (l := z.2.2) (by omega)
    have q := Prun.si hI hz.1 hz.2.1 hz.2.2.1 h1.1 hS (by omega)
    by_cases c : l1 = 0
    · obtain ⟨k, s', o, a1, a2, a3, a4, a5⟩ := ex_BR hI Y s1 q.1 (fun y hy => hY y (List.mem_cons_of_mem _ hy))
      exact ⟨k + 1, s', o, ⟨r, s1, l1, h1, Or.inl ⟨c, k, rfl, a1⟩⟩, a2, by rw [List.length_cons]; omega, fun e => by rw [List.length_cons, a4 e], a5⟩
    · exact ⟨0, s, some (z.2.2 - l1), ⟨r, s1, l1, h1, Or.inr ⟨c, rfl, rfl, rfl⟩⟩, hS, by omega, fun e => (by cases e), fun v hv => by cases hv; omega⟩
theorem s_batch47 {Q : Int → Mem → Prop} (hI : IvA B) : ∀ (Y : List Py) (j : Nat) (s : Nat → Int) (σ : Mem) (k : Nat) (s' : Nat → Int) (o : Option Int), j + Y.length ≤ 8 → (∀ z ∈ Y, z.1 < nN B ∧ z.2.1 < nN B ∧ z.1 ≠ z.2.1 ∧ 1 ≤ z.2.2 ∧ z.2.2 ≤ 9999) → (∀ (i : Nat) (z : Py), Y[i]? = some z → σ 9 (j + i) = ((z.1 : Nat) : Int) ∧ σ 10 (j + i) = ((z.2.1 : Nat) : Int) ∧ σ 11 (j + i) = z.2.2) → σ 14 0 = (nN B : Int) → (∀ i, i < 64 → σ 15 i = s i) → SI 8 B s → BR (nN B) Y s k s' o → (o = none → ∀ σ', σ' 14 0 = (nN B : Int) → (∀ i, i < 64 → σ' 15 i = s' i) → (∀ i, ¬ (14 ≤ i ∧ i ≤ 22 ∧ i ≠ 16 ∧ i ≠ 17) → σ' i = σ i) → (((j + Y.length : Nat) : Int) ≤ 0 → Q ((j + Y.length : Nat) : Int) σ') ∧ (¬ ((j + Y.length : Nat) : Int) ≤ 0 → wX6_add 40 σ' (fun m1 => wX4_bookIn 40 m1 (fun m2 => Q ((j + Y.length : Nat) : Int) m2)))) → (∀ v, o = some v → ∀ σ', (∀ i, ¬ (14 ≤ i ∧ i ≤ 22) → σ' i = σ i) → wX5_tellOne v σ' (fun m6 => Q (-100 - ((j + k : Nat) : Int)) m6)) → lp (fun (K47 : (Int × Int) → Mem → Prop) (x : Int × Int) (σ : Mem) => wX10_batch_47 K47 Q x.1 x.2 σ) (Y.length + 1) (((j + Y.length : Nat) : Int), (j : Int)) σ := by
  intro Y
  induction Y with
  | nil =>
    intro j s σ k s' o hj hY hA e0 eS hS hB hn hs
    obtain ⟨rfl, rfl, rfl⟩ := hB
    show wX10_batch_47 _ Q _ (j : Int) σ
    unfold wX10_batch_47
    refine ⟨fun _ => hn rfl σ e0 eS (fun _ _ => rfl), fun z => absurd (by simp) z⟩
  | cons z Y ih =>
    intro j s σ k s' o hj hY hA e0 eS hS hB hn hs
    have hz := hY z List.mem_cons_self
    obtain ⟨r, s1, l1, h1, hc⟩ := hB
    have q := Prun.si hI hz.1 hz.2.1 hz.2.2.1 h1.1 hS (by omega)
    have a0 := hA 0 z rfl
    rw [Nat.add_zero] at a0
    rw [List.length_cons] at hj
    show wX10_batch_47 (lp _ (Y.length + 1)) Q _ (j : Int) σ
    unfold wX10_batch_47
    rw [tn, a0.1, a0.2.1, a0.2.2]
    refine ⟨fun q => absurd q (by rw [List.length_cons]; omega), fun _ => ⟨⟨by omega, by omega⟩, ⟨by omega, by omega⟩, ⟨by omega, by omega⟩, ?_⟩⟩
    refine s_send (m := 8) (s := s) hI hz.1 hz.2.1 hz.2.2.1 e0 eS hS (by omega) (by omega) h1 (fun σ2 k0 k15 k10 kR kf => ⟨⟨by omega, by omega⟩, ?_⟩)
    rw [kf 11 (by omega), a0.2.2]
    rcases hc with ⟨hl, k', rfl, hB'⟩ | ⟨hl, rfl, rfl, rfl⟩
    · refine ⟨fun _ => ?_, fun q => absurd (by omega) q⟩
      rintro _ rfl
      rw [show w32 ((j : Int) + 1) = ((j + 1 : Nat) : Int) by rw [w32_id (by omega) (by omega)]; rfl, List.length_cons, show j + (Y.length + 1) = j + 1 + Y.length by omega]
      rw [List.length_cons, show j + (Y.length + 1) = j + 1 + Y.length by omega] at hn
      refine ih (j + 1) s1 σ2 k' s' o (by omega) (fun y hy => hY y (List.mem_cons_of_mem _ hy)) (fun i y hy => ?_) k0 k15 q.1 hB' (fun e σ' b0 b15 bf => hn e σ' b0 b15 (fun i hi => by rw [bf i hi]; exact kf i hi)) (fun v e σ' bf => ?_)
      · rw [kf 9 (by omega), kf 10 (by omega), kf 11 (by omega), show j + 1 + i = j + (i + 1) by omega]
        exact hA (i + 1) y hy
      · rw [show j + 1 + k' = j + (k' + 1) by omega]
        exact hs v e σ' (fun i hi => by rw [bf i hi]; exact kf i (by omega))
    · refine ⟨fun q => absurd q (by omega), fun _ => ?_⟩
      rw [w32_id (by omega) (by omega)]
      exact hs _ rfl σ2 (fun i hi => kf i (by omega))
theorem m_batch30 {Q : Int → Mem → Prop} {R : List Int} (hI : IvA B) (hZ : IvB B) : ∀ (Y : List Py) (j : Nat) (s : Nat → Int) (σ : Mem) (k : Nat) (s' : Nat → Int) (o : Option Int), j + Y.length ≤ 8 → (∀ z ∈ Y, z.1 < nN B ∧ z.2.1 < nN B ∧ z.1 ≠ z.2.1 ∧ 1 ≤ z.2.2 ∧ z.2.2 ≤ 9999) → (∀ (i : Nat) (z : Py), Y[i]? = some z → σ 310 (3 * (j + i)) = ((z.1 : Nat) : Int) ∧ σ 310 (3 * (j + i) + 1) = ((z.2.1 : Nat) : Int) ∧ σ 310 (3 * (j + i) + 2) = z.2.2) → MN σ (GM 8 B s) → σ 300 14 = -1 → MR R σ → SI 8 B s → BR (nN B) Y s k s' o → (o = none → ∀ σ', MN σ' (GM 8 B s') → MR R σ' → (∀ i, i ≠ 300 → i ≠ 301 → i ≠ 304 → i ≠ 312 → i ≠ 313 → i ≠ 316 → σ' i = σ i) → (∀ j, j ≠ 4 → j ≠ 13 → j ≠ 16 → j ≠ 17 → j ≠ 18 → σ' 300 j = σ 300 j) → (((j + Y.length : Nat) : Int) ≤ 0 → Q ((j + Y.length : Nat) : Int) σ') ∧ (¬ ((j + Y.length : Nat) : Int) ≤ 0 → wX11_note σ' (fun m2 => Q ((j + Y.length : Nat) : Int) m2))) → (∀ v, o = some v → ∀ σ', MR R σ' → (∀ i, i ≠ 300 → i ≠ 301 → i ≠ 304 → i ≠ 312 → i ≠ 313 → i ≠ 316 → σ' i = σ i) → (∀ j, j ≠ 4 → j ≠ 13 → j ≠ 16 → j ≠ 17 → j ≠ 18 → σ' 300 j = σ 300 j) → wLX11_batch_80 Q ((j + k : Nat) : Int) v 0 σ') → lp (fun (K30 : (Int × Int) → Mem → Prop) (x : Int × Int) (σ : Mem) => wX11_batch_30 K30 Q x.1 x.2 σ) (Y.length + 1) (((j + Y.length : Nat) : Int), (j : Int)) σ := by
  intro Y
  induction Y with
  | nil =>
    intro j s σ k s' o hj hY hA hM hb hR hS hB hn hs
    obtain ⟨rfl, rfl, rfl⟩ := hB
    show wX11_batch_30 _ Q _ (j : Int) σ
    unfold wX11_batch_30 wX11_batch_49
    refine ⟨fun _ => ⟨fun _ => hn rfl σ hM hR (fun _ _ _ _ _ _ _ => rfl) (fun _ _ _ _ _ _ => rfl), fun z => absurd (by simp) z⟩, fun z => absurd (by simp) z⟩
  | cons z Y ih =>
    intro j s σ k s' o hj hY hA hM hb hR hS hB hn hs
    have hz := hY z List.mem_cons_self
    obtain ⟨r, s1, l1, h1, hc⟩ := hB
    have q := Prun.si hI hz.1 hz.2.1 hz.2.2.1 h1.1 hS (by omega)
    have a0 := hA 0 z rfl
    rw [Nat.add_zero] at a0
    rw [List.length_cons] at hj
    show wX11_batch_30 (lp _ (Y.length + 1)) Q _ (j : Int) σ
    unfold wX11_batch_30
    refine ⟨fun q => absurd q (by rw [List.length_cons]; omega), fun _ => ?_⟩
    unfold wX11_goRead
    rw [w32n (x := 3 * (j : Int)) (3 * j) (by omega) (by omega), w32n (x := ((3 * j : Nat) : Int) + 1) (3 * j + 1) (by omega) (by omega), w32n (x := ((3 * j : Nat) : Int) + 2) (3 * j + 2) (by omega) (by omega), tn, tn, tn, a0.1, a0.2.1, a0.2.2]
    refine ⟨by omega, by omega, by omega, ?_⟩
    refine m_goPay (m := 8) (s := s) hM hI hZ hS (nobar hb) hz.1 hz.2.1 hz.2.2.1 hz.2.2.2 hR h1 (fun σ2 M2 R2 f2 g2 j2 => ?_)
    have b2 : σ2 300 14 = -1 := by rw [j2 14 (by omega) (by omega) (by omega) (by omega)]; exact hb
    rcases hc with ⟨hl, k', rfl, hB'⟩ | ⟨hl, rfl, rfl, rfl⟩
    · rw [if_pos hl] at M2 ⊢
      refine ⟨Or.inr rfl, fun q => absurd q (by decide), fun _ => ?_⟩
      rintro _ rfl
      rw [show w32 ((j : Int) + 1) = ((j + 1 : Nat) : Int) by rw [w32_id (by omega) (by omega)]; rfl, List.length_cons, show j + (Y.length + 1) = j + 1 + Y.length by omega]
      rw [List.length_cons, show j + (Y.length + 1) = j + 1 + Y.length by omega] at hn
      refine ih (j + 1) s1 σ2 k' s' o (by omega) (fun y hy => hY y (List.mem_cons_of_mem _ hy)) (fun i y hy => ?_) M2 b2 R2 q.1 hB' (fun e σ' bM bR bf bj => hn e σ' bM bR (fun i c1 c2 c3 c4 c5 c6 => by rw [bf i c1 c2 c3 c4 c5 c6]; exact f2 i c1 c2 c3 c4 c5 c6) (fun j c1 c2 c3 c4 c5 => by rw [bj j c1 c2 c3 c4 c5]; exact j2 j c1 c2 c3 c4)) (fun v e σ' bR bf bj => ?_)
      · rw [f2 310 (by omega) (by omega) (by omega) (by omega) (by omega) (by omega), show j + 1 + i = j + (i + 1) by omega]
        exact hA (i + 1) y hy
      · rw [show j + 1 + k' = j + (k' + 1) by omega]
        exact hs v e σ' bR (fun i c1 c2 c3 c4 c5 c6 => by rw [bf i c1 c2 c3 c4 c5 c6]; exact f2 i c1 c2 c3 c4 c5 c6) (fun j c1 c2 c3 c4 c5 => by rw [bj j c1 c2 c3 c4 c5]; exact j2 j c1 c2 c3 c4)
    · rw [if_neg hl] at M2 ⊢
      refine ⟨Or.inl rfl, fun _ => ?_, fun q => absurd rfl q⟩
      obtain ⟨r3, s3, v3, h3, h3', _, _, _, _, _⟩ := snd_most hI hz.1 hz.2.1 hz.2.2.1 hS
      have cx := snd_x hI hz.1 hz.2.1 hz.2.2.1 hS h3 (by omega) h1
      have ev : z.2.2 - l1 = v3 := by omega
      unfold wX11_batch_49
      rw [w32n (x := 3 * (j : Int)) (3 * j) (by omega) (by omega), w32n (x := ((3 * j : Nat) : Int) + 1) (3 * j + 1) (by omega) (by omega), tn, tn, f2 310 (by omega) (by omega) (by omega) (by omega) (by omega) (by omega), a0.1, a0.2.1]
      refine ⟨fun q => absurd q (by rw [List.length_cons]; omega), fun _ => ⟨by omega, by omega, ?_⟩⟩
      refine m_mostOf (m := 8) (s := s') M2 hI hZ hS (nobar b2) hz.1 hz.2.1 hz.2.2.1 R2 h3' (fun σ3 b3 _ _ R3 _ _ _ f3 _ j3 => ?_)
      rw [← ev]
      exact hs _ rfl σ3 R3 (fun i c1 c2 c3 c4 c5 c6 => by rw [f3 i c1 c2 c3 c4 c5 c6]; exact f2 i c1 c2 c3 c4 c5 c6) (fun j c1 c2 c3 c4 c5 => by rw [j3 j c1 c2 c3 c4 c5]; exact j2 j c1 c2 c3 c4)
end BATCH
/-- both let the text go -/
abbrev wT (X : St) : St := (X.1, X.2.1, X.2.2.1, [], X.2.2.2.2)
theorem CSt.empt {X : St} {σ m : Mem} (hC : CSt X σ) (hF : ∀ i, ¬ (7 ≤ i ∧ i ≤ 11) → m i = σ i) : CSt (wT X) (up2 m 5 1 0) := by
  have h1 : CSt X m := hC.fr (fun i a _ _ _ => hF i a)
  exact ⟨h1.1.fr (fun i a1 a2 => up2_ne (by omega)), h1.2.1.fr (up2_ne (by omega)) (fun i a1 a2 => up2_ne (by omega)), h1.2.2.1.fr (by rw [up2_ne (by omega)]) (up2_ne (by omega)) (fun i a1 a2 => up2_ne (by omega)), ⟨by rw [up2_eq]; rfl, fun j v hj => by simp at hj⟩, h1.2.2.2.2.fr (up2_ne (by omega)) (up2_ne (by omega))⟩
theorem xi_empt {X : St} (hI : XInv X) : XInv (wT X) := ⟨hI.1, hI.2.1, hI.2.2.1, ⟨fun v hv => by simp at hv, by simp⟩, hI.2.2.2.2⟩
theorem op_batch : OpOK wX10_batch wX11_batch := by
  refine OpOK.of (fun X hI => ?_)
  have hN := hI.1.1.1
  have hT : TB X.2.2.2.1 := hI.2.2.2.1
  have hA := hI.1.1
  have hZ := hI.1.2.1
  cases hr : (payR X.2.2.2.1 (nN X.1) 8).1 with
  | some e =>
    refine ⟨-1 - (e : Int), wT X, fun σ Q hC h => ?_, fun σ Q hM h => ?_, xi_empt hI⟩
    · unfold wX10_batch
      rw [hC.1.1]
      refine s_readPay (lm := 8) hT hN.2 (by omega) hC.2.2.2.1 (fun e2 σ1 hr2 f1 => ?_) (fun σ1 hr2 _ _ => by rw [hr] at hr2; cases hr2)
      rw [hr] at hr2
      cases hr2
      unfold wX9_empty
      rintro m3 e3
      exact ⟨fun q => absurd q (by omega), fun _ => h m3 (by rw [e3]; exact hC.empt f1) (fun i hi => by rw [e3, up2_ne (by omega)]; exact f1 i (by omega))⟩
    · unfold wX11_batch
      rintro m1 rfl
      have hM1 := hM.thr (v := 0)
      unfold wX11_readPayments
      refine m_begin hM1 (fun σ2 M2 P2 f2 => ?_)
      refine m_readPay (X := wT X) (lm := 8) hT hN.2 (by omega) M2 rfl P2 (fun e2 σ3 hr2 e8 he M3 f3 => ?_) (fun σ3 hr2 _ _ _ => by rw [hr] at hr2; cases hr2)
      rw [hr] at hr2
      cases hr2
      refine ⟨fun q => absurd rfl q, fun _ => ?_⟩
      rw [e8, w32_id (by omega) (by omega)]
      exact h σ3 M3 (fun i hi => by rw [f3 i hi, f2 i (by omega), fr2 hi])
  | none =>
    have hY : YOK (nN X.1) 8 (payR X.2.2.2.1 (nN X.1) 8).2 := payF_ok 20 0 [] ⟨by simp, fun z hz => by simp at hz⟩
    obtain ⟨Y, eY⟩ : ∃ Y, Y = (payR X.2.2.2.1 (nN X.1) 8).2 := ⟨_, rfl⟩
    rw [← eY] at hY
    obtain ⟨k, s', o, hB, hS', hk, hkn, hov⟩ := ex_BR hA Y (sp X.1) si_sp hY.2
    have yl := hY.1
    -- what comes of it
    obtain ⟨X', eX⟩ : ∃ X' : St, X' = match o with
      | none => if Y.length = 0 then wT X else (GM 8 X.1 s', X.2.1, pushP X.2.2.1 X.1, [], X.2.2.2.2)
      | some v => wL (wT X) [v] := ⟨_, rfl⟩
    refine ⟨match o with | none => (Y.length : Int) | some _ => -100 - (k : Int), X', fun σ Q hC h => ?_, fun σ Q hM h => ?_, ?_⟩
    · unfold wX10_batch
      rw [hC.1.1]
      refine s_readPay (lm := 8) hT hN.2 (by omega) hC.2.2.2.1 (fun e2 σ1 hr2 f1 => by rw [hr] at hr2; cases hr2) (fun σ1 _ A1 f1 => ?_)
      rw [← eY] at A1 ⊢
      unfold wX9_empty
      rintro m3 e3
      have S3 := hC.empt f1
      rw [← e3] at S3
      have A3 : CA Y m3 := ⟨by rw [e3, up2_ne (by omega)]; exact A1.1, by rw [e3, up2_ne (by omega), up2_ne (by omega), up2_ne (by omega)]; exact A1.2⟩
      have F3 : ∀ i, 300 ≤ i → m3 i = σ i := fun i hi => by rw [e3, up2_ne (by omega)]; exact f1 i (by omega)
      refine ⟨fun _ => ?_, fun q => absurd (by omega) q⟩
      refine s_load (by omega) S3.1 hA hZ (fun σ4 g0 g15 g16 gf => ?_)
      unfold wLX10_batch_47
      have go := s_batch47 (Q := Q) hA Y 0 (sp X.1) σ4 k s' o (by omega) hY.2 (fun i z hz => by rw [Nat.zero_add, gf 9 (by omega) (by omega) (by omega), gf 10 (by omega) (by omega) (by omega), gf 11 (by omega) (by omega) (by omega)]; exact A3.2 i z hz) g0 g15 si_sp hB
      rw [Nat.zero_add] at go
      refine ⟨Y.length + 1, go (fun eo σ5 b0 b15 bf => ?_) (fun v eo σ5 bf => ?_)⟩
      · subst eo
        dsimp only at eX h
        have S5 : CSt (wT X) σ5 := S3.fr (fun i a1 a2 a3 a4 => by rw [bf i (by omega)]; exact gf i (by omega) (by omega) (by omega))
        have F5 : ∀ i, 300 ≤ i → σ5 i = σ i := fun i hi => by rw [bf i (by omega), gf i (by omega) (by omega) (by omega)]; exact F3 i hi
        refine ⟨fun q => ?_, fun q => ?_⟩
        · rw [if_pos (by omega)] at eX
          subst eX
          exact h σ5 S5 F5
        · rw [if_neg (by omega)] at eX
          subst eX
          refine c_add (b1 := 40) (B := X.1) (by omega) (by omega) S5.2.2.1 S5.1 (fun σ6 p6 f6 => ?_)
          refine s_bookIn (s := s') (by omega) (S5.1.fr (fun i a1 a2 => f6 i (by omega) (by omega) (by omega))) hA hS' (by rw [f6 14 (by omega) (by omega) (by omega)]; exact b0) (fun i hi => by rw [f6 16 (by omega) (by omega) (by omega), bf 16 (by omega)]; exact g16 i hi) (fun i hi => by rw [f6 15 (by omega) (by omega) (by omega)]; exact b15 i hi) (fun σ7 C7 f7 => ?_)
          have F7 : ∀ i, i ≠ 3 → i ≠ 4 → ¬ (120 ≤ i ∧ i < 248) → i ≠ 42 → σ7 i = σ5 i := fun i a1 a2 a3 a4 => by rw [f7 i a4, f6 i a1 a2 a3]
          exact h σ7 ⟨C7, S5.2.1.fr (F7 2 (by omega) (by omega) (by omega) (by omega)) (fun i a1 a2 => F7 i (by omega) (by omega) (by omega) (by omega)), p6.fr (by rw [f7 3 (by omega)]) (f7 4 (by omega)) (fun i a1 a2 => f7 i (by omega)), S5.2.2.2.1.fr (F7 5 (by omega) (by omega) (by omega) (by omega)) (F7 6 (by omega) (by omega) (by omega) (by omega)), S5.2.2.2.2.fr (F7 12 (by omega) (by omega) (by omega) (by omega)) (F7 13 (by omega) (by omega) (by omega) (by omega))⟩ (fun i hi => by rw [F7 i (by omega) (by omega) (by omega) (by omega)]; exact F5 i hi)
      · subst eo
        dsimp only at eX h
        subst eX
        have S5 : CSt (wT X) σ5 := S3.fr (fun i a1 a2 a3 a4 => by rw [bf i (by omega)]; exact gf i (by omega) (by omega) (by omega))
        rw [Nat.zero_add]
        exact c_tell1 (fun σ6 r6 f6 => h σ6 (S5.row r6 (fun i a1 a2 _ => f6 i a1 a2)) (fun i hi => by rw [f6 i (by omega) (by omega), bf i (by omega), gf i (by omega) (by omega) (by omega)]; exact F3 i hi))
    · unfold wX11_batch
      rintro m1 rfl
      have hM1 := hM.thr (v := 0)
      unfold wX11_readPayments
      refine m_begin hM1 (fun σ2 M2 P2 f2 => ?_)
      refine m_readPay (X := wT X) (lm := 8) hT hN.2 (by omega) M2 rfl P2 (fun e2 σ3 hr2 e8 he M3 f3 => by rw [show nN (wT X).1 = nN X.1 from rfl, hr] at hr2; cases hr2) (fun σ3 _ A3 M3 f3 => ?_)
      rw [show (payR X.2.2.2.1 (nN (wT X).1) 8).2 = Y from eY.symm] at A3 ⊢
      have F3 : ∀ i, i < 300 ∨ i = 340 → σ3 i = σ i := fun i hi => by rw [f3 i hi, f2 i (by omega), fr2 hi]
      refine ⟨fun _ => ?_, fun q => absurd q (by omega)⟩
      refine m_lay M3.1 (fun σ4 W4 f4 => ?_)
      have M4 : MSt (wT X) σ4 := M3.fr (fun j _ => by rw [f4 300 (by omega)]) (fun i hi => f4 i (by omega))
      have F4 : ∀ i, i < 300 ∨ i = 340 → σ4 i = σ i := fun i hi => by rw [f4 i (by omega)]; exact F3 i hi
      unfold wLX11_batch_30
      have go := m_batch30 (Q := Q) (R := X.2.2.2.2) hA hZ Y 0 (sp X.1) σ4 k s' o (by omega) hY.2 (fun i z hz => by rw [Nat.zero_add, f4 310 (by omega)]; exact A3 i z hz) (mn_gm M4.1) M4.2.2.2.2.2 M4.2.2.2.2.1 si_sp hB
      rw [Nat.zero_add] at go
      refine ⟨Y.length + 1, go (fun eo σ5 bM bR bf bj => ?_) (fun v eo σ5 bR bf bj => ?_)⟩
      · subst eo
        dsimp only at eX h
        have F5 : ∀ i, i < 300 ∨ i = 340 → σ5 i = σ i := fun i hi => by rw [bf i (by omega) (by omega) (by omega) (by omega) (by omega) (by omega)]; exact F4 i hi
        have M5 : MSt (wB (wT X) (GM 8 X.1 s')) σ5 := M4.bk bM bR (fun i hi => bf i (by omega) (by omega) (by omega) (by omega) (by omega) (by omega)) (fun j hj => bj j (by omega) (by omega) (by omega) (by omega) (by omega))
        refine ⟨fun q => ?_, fun q => ?_⟩
        · rw [if_pos (by omega)] at eX
          subst eX
          have hY0 : Y = [] := List.length_eq_zero_iff.mp (by omega)
          subst hY0
          obtain ⟨_, rfl, _⟩ := hB
          exact h σ5 (M4.back (mn_gm' bM) bR (fun i hi => bf i (by omega) (by omega) (by omega) (by omega) (by omega) (by omega)) (fun j hj => bj j (by omega) (by omega) (by omega) (by omega) (by omega))) F5
        · rw [if_neg (by omega)] at eX
          subst eX
          refine m_note (B := X.1) (P := X.2.2.1) (by rw [bf 328 (by omega) (by omega) (by omega) (by omega) (by omega) (by omega)]; exact W4) M5.2.2.1 hI.2.2.1.2 (fun σ6 P6 f6 j6 => ?_)
          exact h σ6 ⟨by unfold MN; rw [f6 301 (by omega) (by omega)]; exact bM, M5.2.1.fr (f6 332 (by omega) (by omega)) (f6 331 (by omega) (by omega)), P6, M5.2.2.2.1.fr (j6 2 (by omega)) (f6 302 (by omega) (by omega)), M5.2.2.2.2.1.fr (j6 4 (by omega)) (f6 304 (by omega) (by omega)), by rw [j6 14 (by omega)]; exact M5.2.2.2.2.2⟩ (fun i hi => by rw [f6 i (by omega) (by omega)]; exact F5 i hi)
      · subst eo
        dsimp only at eX h
        subst eX
        rw [Nat.zero_add]
        have F5 : ∀ i, i < 300 ∨ i = 340 → σ5 i = σ i := fun i hi => by rw [bf i (by omega) (by omega) (by omega) (by omega) (by omega) (by omega)]; exact F4 i hi
        unfold wLX11_batch_80
        refine lp_for (fun i y τ => y = ((k : Int), v, (i : Int)) ∧ (∀ c, c < i → τ 301 c = σ5 328 c) ∧ ∀ c, c ≠ 301 → τ c = σ5 c) 405 ?_ ?_ _ _ ⟨rfl, fun c hc => by omega, fun _ _ => rfl⟩
        · rintro i hi _ τ ⟨rfl, hz, hF⟩ K hK
          dsimp only [wX11_batch_80]
          refine ⟨(fun hno => absurd hno (by omega)), fun _ => ⟨⟨by omega, by omega⟩, ⟨by omega, by omega⟩, ?_⟩⟩
          rintro m3 e3 _ rfl
          rw [tn] at e3
          refine hK _ _ ⟨by rw [w32_id (by omega) (by omega)]; rfl, fun c hc => ?_, fun c hc => by rw [e3, up2_ne hc]; exact hF c hc⟩
          rw [e3, up2_app]
          by_cases q : c = i
          · rw [if_pos ⟨rfl, q⟩, hF 328 (by omega), q]
          · rw [if_neg (fun z => q z.2)]; exact hz c (by omega)
        · rintro _ τ ⟨rfl, hz, hF⟩ K
          dsimp only [wX11_batch_80]
          refine ⟨fun _ => ?_, (fun hno => absurd hno (by omega))⟩
          have Mt : MSt (wT X) τ := by
            refine M4.back ?_ (bR.fr (by rw [hF 300 (by omega)]) (hF 304 (by omega))) (fun i hi => by rw [hF i (by omega)]; exact bf i (by omega) (by omega) (by omega) (by omega) (by omega) (by omega)) (fun j hj => by rw [hF 300 (by omega)]; exact bj j (by omega) (by omega) (by omega) (by omega) (by omega))
            refine W4.cp (fun c hc => ?_)
            rw [Nat.zero_add, hz c hc, bf 328 (by omega) (by omega) (by omega) (by omega) (by omega) (by omega)]
          rintro m1 e1
          have M1 := mo_row0 Mt
          rw [← e1] at M1
          refine mo_tell M1 (by simp) (fun σ6 M6 f6 j6 => ?_)
          rw [w32_id (by omega) (by omega)]
          exact h σ6 M6 (fun i hi => by rw [f6 i (by omega) (by omega), e1, up2_ne (by omega), hF i (by omega)]; exact F5 i hi)
    · subst eX
      cases o with
      | none =>
        dsimp only
        split
        · exact xi_empt hI
        · exact ⟨inv_gm hI.1 hS', hI.2.1, xi_push hI, ⟨fun v hv => by simp at hv, by simp⟩, hI.2.2.2.2⟩
      | some v =>
        dsimp only
        have := hov v rfl
        refine xi_row (xi_empt hI) ⟨fun y hy => ?_, by simp⟩
        simp at hy
        omega
