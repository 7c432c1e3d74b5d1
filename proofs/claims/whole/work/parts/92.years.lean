/-! payments that are drawn -/
theorem nI_t {m : Nat} (h : m < 2147483648) : (nI m).toInt = (m : Int) := by
  rw [show nI m = Int32.ofInt (m : Int) from rfl]
  exact oi_t ⟨by omega, by omega⟩
theorem bushr16 (r : Int) : 0 ≤ bushr r 16 ∧ bushr r 16 ≤ 65535 := by
  unfold bushr
  have e : ((Int32.ofInt r).toUInt32 >>> ((Int32.ofInt 16).toUInt32 &&& Int32.toUInt32 31)).toInt32.toBitVec.toNat < 65536 := by
    show ((Int32.ofInt r).toUInt32 >>> ((nI 16).toUInt32 &&& Int32.toUInt32 31)).toBitVec.toNat < 65536
    rw [UInt32.toBitVec_shiftRight]
    show ((Int32.ofInt r).toUInt32.toBitVec >>> (((nI 16).toUInt32 &&& Int32.toUInt32 31).toBitVec % 32).toNat).toNat < 65536
    rw [s_u 16 (by omega), BitVec.toNat_ushiftRight, Nat.shiftRight_eq_div_pow]
    have := (Int32.ofInt r).toUInt32.toBitVec.isLt
    omega
  rw [nI_bv (((Int32.ofInt r).toUInt32 >>> ((Int32.ofInt 16).toUInt32 &&& Int32.toUInt32 31)).toInt32), nI_t (by omega)]
  omega
theorem brem_b {a b : Int} (ha : 0 ≤ a ∧ a < 2147483648) (hb : 1 ≤ b ∧ b < 2147483648) : 0 ≤ brem a b ∧ brem a b < b := by
  unfold brem
  have q1 : 0 ≤ a / b := Int.ediv_nonneg ha.1 (by omega)
  have q2 : a / b * b ≤ a := Int.ediv_mul_le a (by omega)
  have q3 : a / b ≤ a := Int.ediv_le_self b ha.1
  have q4 : 0 ≤ a / b * b := Int.mul_nonneg q1 (by omega)
  have q5 := Int.emod_nonneg a (show b ≠ 0 by omega)
  have q6 := Int.emod_lt_of_pos a (show 0 < b by omega)
  have q7 := Int.emod_def a b
  rw [Int.mul_comm] at q7
  rw [Int32.toInt_sub, Int32.toInt_mul, Int32.toInt_div, oi_t ⟨by omega, by omega⟩, oi_t ⟨by omega, by omega⟩, Int.tdiv_eq_ediv_of_nonneg ha.1, tc_bm (z := a / b) (by omega) (by omega), tc_bm (z := a / b * b) (by omega) (by omega), tc_bm (by omega) (by omega)]
  omega
def nd (r : Int) : Int := w32 ((w32 (r * 1103515245)) + 12345)
def drw (r n : Int) : Int := brem (bushr r 16) n
theorem drw_b {r n : Int} (h : 1 ≤ n ∧ n ≤ 1000) : 0 ≤ drw r n ∧ drw r n < n := by
  have := bushr16 r
  exact brem_b (by omega) (by omega)
def YR (N : Nat) : Nat → Int → (Nat → Int) → Nat × (Nat → Int) → Prop
  | 0, _, s, o => o = (0, s)
  | i + 1, r, s, o => (drw (nd r) N = drw (nd (nd r)) N ∧ YR N i (nd (nd (nd r))) s o) ∨ (drw (nd r) N ≠ drw (nd (nd r)) N ∧ ∃ rr s1 l1, Snd N (drw (nd r) N).toNat (drw (nd (nd r)) N).toNat rr s (1 + drw (nd (nd (nd r))) 60) s1 l1 ∧ ((l1 = 0 ∧ ∃ o' : Nat × (Nat → Int), o = (o'.1 + 1, o'.2) ∧ YR N i (nd (nd (nd r))) s1 o') ∨ (l1 ≠ 0 ∧ YR N i (nd (nd (nd r))) s o)))
section YEARS
variable {B : Bk} {σ : Mem}
theorem ex_YR (hI : IvA B) : ∀ (i : Nat) (r : Int) (s : Nat → Int), SI 8 B s → ∃ o, YR (nN B) i r s o ∧ SI 8 B o.2 ∧ o.1 ≤ i := by
  have hN := hI.1
  intro i
  induction i with
  | zero => intro r s hS; exact ⟨(0, s), rfl, hS, Nat.le_refl _⟩
  | succ i ih =>
    intro r s hS
    have d1 := drw_b (r := nd r) (n := (nN B : Int)) (by omega)
    have d2 := drw_b (r := nd (nd r)) (n := (nN B : Int)) (by omega)
    have d3 := drw_b (r := nd (nd (nd r))) (n := 60) (by omega)
    by_cases c : drw (nd r) (nN B) = drw (nd (nd r)) (nN B)
    · obtain ⟨o, h1, h2, h3⟩ := ih (nd (nd (nd r))) s hS
      exact ⟨o, Or.inl ⟨c, h1⟩, h2, by omega⟩
    · have hf : (drw (nd r) (nN B)).toNat < nN B := by omega
      have ht : (drw (nd (nd r)) (nN B)).toNat < nN B := by omega
      have hne : (drw (nd r) (nN B)).toNat ≠ (drw (nd (nd r)) (nN B)).toNat := by omega
      obtain ⟨rr, s1, l1, hs, _⟩ := snd_ex hI hf ht hne hS (l := 1 + drw (nd (nd (nd r))) 60) (by omega)
      have q := Prun.si hI hf ht hne hs.1 hS (by omega)
      by_cases c2 : l1 = 0
      · obtain ⟨o, h1, h2, h3⟩ := ih (nd (nd (nd r))) s1 q.1
        exact ⟨(o.1 + 1, o.2), Or.inr ⟨c, rr, s1, l1, hs, Or.inl ⟨c2, o, rfl, h1⟩⟩, h2, by (try dsimp only); omega⟩
      · obtain ⟨o, h1, h2, h3⟩ := ih (nd (nd (nd r))) s hS
        exact ⟨o, Or.inr ⟨c, rr, s1, l1, hs, Or.inr ⟨c2, h1⟩⟩, h2, by omega⟩
theorem s_payAll {f t : Nat} {x : Int} {r : List (Nat × Int)} {s s1 : Nat → Int} {l1 : Int} {Q : Int → Mem → Prop} (hI : IvA B) (hf : f < nN B) (ht : t < nN B) (hne : f ≠ t) (e0 : σ 14 0 = (nN B : Int)) (eS : ∀ i, i < 64 → σ 15 i = s i) (hS : SI 8 B s) (hx : 0 ≤ x ∧ x ≤ 9999) (hr : Snd (nN B) f t r s x s1 l1) (h : ∀ σ', σ' 14 0 = (nN B : Int) → (∀ i, i < 64 → σ' 15 i = (if l1 = 0 then s1 else s) i) → (∀ i, ¬ (14 ≤ i ∧ i ≤ 22 ∧ i ≠ 16) → σ' i = σ i) → Q (if l1 = 0 then 1 else 0) σ') : wX4_payAll (f : Int) (t : Int) x σ Q := by
  unfold wX4_payAll
  rintro m1 e1
  have g1 : ∀ i, i ≠ 17 → m1 i = σ i := fun i hi => by rw [e1, upA_ne hi]
  refine s_send (m := 8) (s := s) hI hf ht hne (by rw [g1 14 (by omega)]; exact e0) (fun i hi => by rw [g1 15 (by omega)]; exact eS i hi) hS hx.1 (by omega) hr (fun σ2 k0 k15 k10 kR kf => ⟨fun z => ?_, fun z => ?_⟩)
  · rw [if_neg (show ¬ l1 = 0 by omega), if_neg (show ¬ l1 = 0 by omega)] at h
    rintro m4 e4
    refine h m4 (by rw [e4, upA_ne (by omega)]; exact k0) (fun i hi => ?_) (fun i hi => by rw [e4, upA_ne (by omega), kf i (by omega)]; exact g1 i (by omega))
    rw [e4, upA_eq, acp_64 hi, kf 17 (by omega), e1, upA_eq, acp_64 hi]
    exact eS i hi
  · rw [if_pos (show l1 = 0 by omega), if_pos (show l1 = 0 by omega)] at h
    exact h σ2 k0 k15 (fun i hi => by rw [kf i (by omega)]; exact g1 i (by omega))
theorem s_drawOf {r n : Int} {Q : Int → Mem → Prop} (h : 1 ≤ n) (hq : Q (drw r n) σ) : wX10_drawOf r n σ Q := by
  unfold wX10_drawOf
  exact ⟨fun _ => ⟨by omega, hq⟩, fun z => absurd h z⟩
theorem s_nextDraw {r : Int} {Q : Int → Mem → Prop} (h : Q (nd r) σ) : wX10_nextDraw r σ Q := h
theorem s_years43 {Q : Int → Mem → Prop} {n : Nat} (hn : n ≤ 30) (hI : IvA B) : ∀ (i j k : Nat) (r : Int) (s : Nat → Int) (o : Nat × (Nat → Int)) (σ : Mem), j + i = n → k ≤ j → σ 72 0 = (nN B : Int) → σ 14 0 = (nN B : Int) → (∀ c, c < 64 → σ 15 c = s c) → SI 8 B s → YR (nN B) i r s o → (∀ σ', σ' 14 0 = (nN B : Int) → (∀ c, c < 64 → σ' 15 c = o.2 c) → (∀ c, ¬ (14 ≤ c ∧ c ≤ 22 ∧ c ≠ 16) → σ' c = σ c) → σ' 16 = σ 16 → wX4_bookIn 72 σ' (fun m1 => (wX1_owedInAll 72 m1 (fun y3 m2 => (wX7_settleAll 72 m2 (fun y5 m4 => (wX5_tellTwo y3 y5 m4 (fun m6 => Q ((k + o.1 : Nat) : Int) m6)))))))) → lp (fun (K43 : (Int × Int × Int × Int) → Mem → Prop) (x : Int × Int × Int × Int) (σ : Mem) => wX10_years_43 K43 Q x.1 x.2.1 x.2.2.1 x.2.2.2 σ) (i + 1) ((n : Int), (k : Int), r, (j : Int)) σ := by
  have hN := hI.1
  intro i
  induction i with
  | zero =>
    intro j k r s o σ hj hk e72 e0 eS hS hY h
    have eo : o = (0, s) := hY
    show wX10_years_43 _ Q (n : Int) (k : Int) r (j : Int) σ
    unfold wX10_years_43
    refine ⟨fun _ => ?_, fun z => absurd (by omega) z⟩
    have q := h σ e0 (by rw [eo]; exact eS) (fun _ _ => rfl) rfl
    rw [eo, Nat.add_zero] at q
    exact q
  | succ i ih =>
    intro j k r s o σ hj hk e72 e0 eS hS hY h
    have d1 := drw_b (r := nd r) (n := (nN B : Int)) (by omega)
    have d2 := drw_b (r := nd (nd r)) (n := (nN B : Int)) (by omega)
    have d3 := drw_b (r := nd (nd (nd r))) (n := 60) (by omega)
    show wX10_years_43 (lp _ (i + 1)) Q (n : Int) (k : Int) r (j : Int) σ
    unfold wX10_years_43
    have wj : w32 ((j : Int) + 1) = ((j + 1 : Nat) : Int) := by rw [w32_id (by omega) (by omega)]; rfl
    refine ⟨fun z => absurd z (by omega), fun _ => s_nextDraw ?_⟩
    rw [e72, wj]
    refine s_drawOf (by omega) (s_nextDraw ?_)
    rw [e72]
    refine s_drawOf (by omega) (s_nextDraw (s_drawOf (by omega) ?_))
    rintro _ rfl
    rw [w32_id (a := 1 + drw (nd (nd (nd r))) 60) (by omega) (by omega)]
    rcases hY with ⟨c, hY⟩ | ⟨c, rr, s1, l1, hs, hY⟩
    · refine ⟨fun _ => ?_, fun z => absurd c z⟩
      rintro _ rfl
      exact ih (j + 1) k (nd (nd (nd r))) s o σ (by omega) (by omega) e72 e0 eS hS hY h
    · refine ⟨fun z => absurd z c, fun _ => ?_⟩
      have hf : (drw (nd r) (nN B)).toNat < nN B := by omega
      have ht : (drw (nd (nd r)) (nN B)).toNat < nN B := by omega
      have hne : (drw (nd r) (nN B)).toNat ≠ (drw (nd (nd r)) (nN B)).toNat := by omega
      have q := Prun.si hI hf ht hne hs.1 hS (by omega)
      rw [show drw (nd r) (nN B) = (((drw (nd r) (nN B)).toNat : Nat) : Int) by omega, show drw (nd (nd r)) (nN B) = (((drw (nd (nd r)) (nN B)).toNat : Nat) : Int) by omega]
      refine s_payAll hI hf ht hne e0 eS hS (by omega) hs (fun σ2 k0 k15 kf => ?_)
      have k72 : σ2 72 0 = (nN B : Int) := by rw [kf 72 (by omega)]; exact e72
      rcases hY with ⟨hl, o', rfl, hY⟩ | ⟨hl, hY⟩
      · rw [if_pos hl] at k15
        rw [if_pos hl]
        refine ⟨fun z => absurd z (by decide), fun _ => ?_⟩
        rintro _ rfl _ rfl
        rw [show w32 ((k : Int) + 1) = ((k + 1 : Nat) : Int) by rw [w32_id (by omega) (by omega)]; rfl]
        refine ih (j + 1) (k + 1) (nd (nd (nd r))) s1 o' σ2 (by omega) (by omega) k72 k0 k15 q.1 hY (fun σ' b0 b15 bf b16 => ?_)
        have z := h σ' b0 b15 (fun c hc => by rw [bf c hc]; exact kf c hc) (by rw [b16]; exact kf 16 (by omega))
        rw [show k + 1 + o'.1 = k + (o'.1 + 1) by omega]
        exact z
      · rw [if_neg hl] at k15
        rw [if_neg hl]
        refine ⟨fun _ => ?_, fun z => absurd rfl z⟩
        rintro _ rfl
        exact ih (j + 1) k (nd (nd (nd r))) s o σ2 (by omega) (by omega) k72 k0 k15 hS hY (fun σ' b0 b15 bf b16 => h σ' b0 b15 (fun c hc => by rw [bf c hc]; exact kf c hc) (by rw [b16]; exact kf 16 (by omega)))
theorem m_draw {r : Int} {n : Int} {Q : Int → Mem → Prop} (hn : 1 ≤ n) (e : σ 300 29 = r) (h : ∀ σ', σ' 300 29 = nd r → (∀ i, i ≠ 300 → σ' i = σ i) → (∀ j, j ≠ 29 → σ' 300 j = σ 300 j) → Q (drw (nd r) n) σ') : wX11_draw n σ Q := by
  unfold wX11_draw
  rw [e]
  rintro m1 e1
  have e29 : m1 300 29 = nd r := by rw [e1, up2_eq]; rfl
  rw [e29]
  exact ⟨by omega, h m1 e29 (fun i hi => by rw [e1, up2_ne hi]) (fun j hj => by rw [e1, up2_nj hj])⟩
theorem m_years32 {Q : Int → Mem → Prop} {n : Nat} {R : List Int} (hn : n ≤ 30) (hI : IvA B) (hZ : IvB B) : ∀ (i j k : Nat) (r : Int) (s : Nat → Int) (o : Nat × (Nat → Int)) (σ : Mem), j + i = n → k ≤ j → σ 300 29 = r → MN σ (GM 8 B s) → σ 300 14 = -1 → MR R σ → SI 8 B s → YR (nN B) i r s o → (∀ σ', MN σ' (GM 8 B o.2) → MR R σ' → (∀ i, i ≠ 300 → i ≠ 301 → i ≠ 304 → i ≠ 312 → i ≠ 313 → i ≠ 316 → σ' i = σ i) → (∀ c, 810 ≤ c → σ' 316 c = σ 316 c) → (∀ j, j ≠ 4 → j ≠ 13 → j ≠ 16 → j ≠ 17 → j ≠ 29 → σ' 300 j = σ 300 j) → wX11_allDebts σ' (fun y2 m1 => (wX11_goSettle m1 (fun y4 m3 => (wX11_comesBack 3 m3 (fun m5 => (∀ m6 : Mem, m6 = up2 m5 300 4 0 → (wX11_tell y2 m6 (fun m7 => (wX11_tell y4 m7 (fun m8 => Q ((k + o.1 : Nat) : Int) m8))))))))))) → lp (fun (K32 : (Int × Int × Int) → Mem → Prop) (x : Int × Int × Int) (σ : Mem) => wX11_years_32 K32 Q x.1 x.2.1 x.2.2 σ) (i + 1) ((n : Int), (k : Int), (j : Int)) σ := by
  have hN := hI.1
  intro i
  induction i with
  | zero =>
    intro j k r s o σ hj hk e29 hM hb hR hS hY h
    have eo : o = (0, s) := hY
    show wX11_years_32 _ Q (n : Int) (k : Int) (j : Int) σ
    unfold wX11_years_32
    refine ⟨fun _ => ?_, fun z => absurd (by omega) z⟩
    have q := h σ (by rw [eo]; exact hM) hR (fun _ _ _ _ _ _ _ => rfl) (fun _ _ => rfl) (fun _ _ _ _ _ _ => rfl)
    rw [eo, Nat.add_zero] at q
    exact q
  | succ i ih =>
    intro j k r s o σ hj hk e29 hM hb hR hS hY h
    have d1 := drw_b (r := nd r) (n := (nN B : Int)) (by omega)
    have d2 := drw_b (r := nd (nd r)) (n := (nN B : Int)) (by omega)
    have d3 := drw_b (r := nd (nd (nd r))) (n := 60) (by omega)
    show wX11_years_32 (lp _ (i + 1)) Q (n : Int) (k : Int) (j : Int) σ
    unfold wX11_years_32 wX11_years_97 wX11_years_98
    have wj : w32 ((j : Int) + 1) = ((j + 1 : Nat) : Int) := by rw [w32_id (by omega) (by omega)]; rfl
    refine ⟨fun z => absurd z (by omega), fun _ => ?_⟩
    rw [hM.1, wj]
    refine m_draw (n := (nN B : Int)) (by omega) e29 (fun σ1 a29 f1 j1 => ?_)
    rw [f1 301 (by omega), hM.1]
    refine m_draw (n := (nN B : Int)) (by omega) a29 (fun σ2 b29 f2 j2 => m_draw (by omega) b29 (fun σ3 c29 f3 j3 => ?_))
    have F3 : ∀ i, i ≠ 300 → σ3 i = σ i := fun i hi => by rw [f3 i hi, f2 i hi, f1 i hi]
    have J3 : ∀ j, j ≠ 29 → σ3 300 j = σ 300 j := fun j hj => by rw [j3 j hj, j2 j hj, j1 j hj]
    have M3 : MN σ3 (GM 8 B s) := by unfold MN; rw [F3 301 (by omega)]; exact hM
    have R3 : MR R σ3 := hR.fr (J3 4 (by omega)) (F3 304 (by omega))
    have b3 : σ3 300 14 = -1 := by rw [J3 14 (by omega)]; exact hb
    rintro _ rfl
    rw [w32_id (a := drw (nd (nd (nd r))) 60 + 1) (by omega) (by omega), show drw (nd (nd (nd r))) 60 + 1 = 1 + drw (nd (nd (nd r))) 60 by omega]
    have skip : ∀ (o' : Nat × (Nat → Int)) (s' : Nat → Int) (k' : Nat) (τ : Mem), k' ≤ k + 1 → SI 8 B s' → YR (nN B) i (nd (nd (nd r))) s' o' → k' + o'.1 = k + o.1 → o'.2 = o.2 → τ 300 29 = nd (nd (nd r)) → MN τ (GM 8 B s') → MR R τ → (∀ i, i ≠ 300 → i ≠ 301 → i ≠ 304 → i ≠ 312 → i ≠ 313 → i ≠ 316 → τ i = σ i) → (∀ c, 810 ≤ c → τ 316 c = σ 316 c) → (∀ j, j ≠ 4 → j ≠ 13 → j ≠ 16 → j ≠ 17 → j ≠ 29 → τ 300 j = σ 300 j) → lp (fun (K32 : (Int × Int × Int) → Mem → Prop) (x : Int × Int × Int) (σ : Mem) => wX11_years_32 K32 Q x.1 x.2.1 x.2.2 σ) (i + 1) ((n : Int), (k' : Int), ((j + 1 : Nat) : Int)) τ := fun o' s' k' τ hk' hS' hY' e1 e2 t29 tM tR tf tg tj => by
      refine ih (j + 1) k' (nd (nd (nd r))) s' o' τ (by omega) (by omega) t29 tM (by rw [tj 14 (by omega) (by omega) (by omega) (by omega) (by omega)]; exact hb) tR hS' hY' (fun σ' x1 x2 x3 x4 x5 => ?_)
      rw [e1]
      rw [e2] at x1
      exact h σ' x1 x2 (fun i b1 b2 b3 b4 b5 b6 => by rw [x3 i b1 b2 b3 b4 b5 b6]; exact tf i b1 b2 b3 b4 b5 b6) (fun c hc => by rw [x4 c hc]; exact tg c hc) (fun j b1 b2 b3 b4 b5 => by rw [x5 j b1 b2 b3 b4 b5]; exact tj j b1 b2 b3 b4 b5)
    rcases hY with ⟨c, hY⟩ | ⟨c, rr, s1, l1, hs, hY⟩
    · refine ⟨fun _ => ?_, fun z => absurd c z⟩
      rintro _ rfl _ rfl
      rw [show w32 ((k : Int) + 0) = (k : Int) by rw [w32_id (by omega) (by omega)]; omega]
      exact skip o s k σ3 (by omega) hS hY rfl rfl c29 M3 R3 (fun i b1 _ _ _ _ _ => F3 i b1) (fun c _ => by rw [F3 316 (by omega)]) (fun j _ _ _ _ b => J3 j b)
    · refine ⟨fun z => absurd z c, fun _ => ?_⟩
      have hf : (drw (nd r) (nN B)).toNat < nN B := by omega
      have ht : (drw (nd (nd r)) (nN B)).toNat < nN B := by omega
      have hne : (drw (nd r) (nN B)).toNat ≠ (drw (nd (nd r)) (nN B)).toNat := by omega
      have q := Prun.si hI hf ht hne hs.1 hS (by omega)
      rw [show drw (nd r) (nN B) = (((drw (nd r) (nN B)).toNat : Nat) : Int) by omega, show drw (nd (nd r)) (nN B) = (((drw (nd (nd r)) (nN B)).toNat : Nat) : Int) by omega]
      refine m_goPay (m := 8) (s := s) M3 hI hZ hS (nobar b3) hf ht hne (by omega) R3 hs (fun σ4 M4 R4 f4 g4 j4 => ?_)
      have F4 : ∀ i, i ≠ 300 → i ≠ 301 → i ≠ 304 → i ≠ 312 → i ≠ 313 → i ≠ 316 → σ4 i = σ i := fun i b1 b2 b3 b4 b5 b6 => by rw [f4 i b1 b2 b3 b4 b5 b6]; exact F3 i b1
      have G4 : ∀ c, 810 ≤ c → σ4 316 c = σ 316 c := fun c hc => by rw [g4 c (by omega), F3 316 (by omega)]
      have J4 : ∀ j, j ≠ 4 → j ≠ 13 → j ≠ 16 → j ≠ 17 → j ≠ 29 → σ4 300 j = σ 300 j := fun j b1 b2 b3 b4 b5 => by rw [j4 j b1 b2 b3 b4]; exact J3 j b5
      have c4 : σ4 300 29 = nd (nd (nd r)) := by rw [j4 29 (by omega) (by omega) (by omega) (by omega)]; exact c29
      rcases hY with ⟨hl, o', eo, hY⟩ | ⟨hl, hY⟩
      · rw [if_pos hl] at M4 ⊢
        refine ⟨fun z => absurd z (by decide), fun _ => ?_⟩
        rintro _ rfl _ rfl
        rw [show w32 ((k : Int) + 1) = ((k + 1 : Nat) : Int) by rw [w32_id (by omega) (by omega)]; rfl]
        exact skip o' s1 (k + 1) σ4 (by omega) q.1 hY (by rw [eo]; (try dsimp only); omega) (by rw [eo]) c4 M4 R4 F4 G4 J4
      · rw [if_neg hl] at M4 ⊢
        refine ⟨fun _ => ?_, fun z => absurd rfl z⟩
        rintro _ rfl _ rfl
        rw [show w32 ((k : Int) + 0) = (k : Int) by rw [w32_id (by omega) (by omega)]; omega]
        exact skip o s k σ4 (by omega) hS hY rfl rfl c4 M4 R4 F4 G4 J4
end YEARS
theorem op_years (r n : Int) : OpOK (wX10_years r n) (wX11_years r n) := by
  refine OpOK.of (fun X hI => ?_)
  have hN := hI.1.1.1
  by_cases hp : 1 ≤ n ∧ n ≤ 30
  · obtain ⟨n, rfl⟩ : ∃ m : Nat, n = m := ⟨n.toNat, by omega⟩
    have hA := hI.1.1
    have hZ := hI.1.2.1
    obtain ⟨o, hY, hSo, ho⟩ := ex_YR hA n r (sp X.1) si_sp
    have hG := inv_gm hI.1 hSo
    obtain ⟨k, B', hS, hk⟩ := ex_Srun 56 (GM 8 X.1 o.2) hG.1 hG.2.1 (cnt_62 hG.1 hG.2.1)
    have kp := hS.keep hG.1 hG.2.1
    have ob := oweAll_b hG.1
    refine ⟨(o.1 : Int), wL X [oweAll (GM 8 X.1 o.2), (k : Int)], fun σ Q hC h => ?_, fun σ Q hM h => ?_, xi_row hI ⟨fun y hy => ?_, by simp⟩⟩
    · unfold wX10_years
      refine ⟨fun z => absurd z (by omega), fun _ => ⟨fun _ => ?_, fun z => absurd hp.2 z⟩⟩
      refine s_copyFrom (b := 72) (by omega) hC.1 (fun σ1 C1 f1 => s_load (by omega) C1 hA hZ (fun σ2 g0 g15 g16 gf => ?_))
      have C2 : CB 72 X.1 σ2 := C1.fr (fun i a1 a2 => gf i (by omega) (by omega) (by omega))
      unfold wLX10_years_43
      have go := s_years43 (Q := Q) (n := n) (by omega) hA n 0 0 r (sp X.1) o σ2 (by omega) (by omega) C2.1 g0 g15 si_sp hY
      refine ⟨n + 1, go (fun σ3 b0 b15 bf b16 => ?_)⟩
      rw [Nat.zero_add]
      refine s_bookIn (s := o.2) (by omega) (C2.fr (fun i a1 a2 => bf i (by omega))) hA hSo b0 (fun i hi => by rw [b16]; exact g16 i hi) b15 (fun σ4 C4 f4 => ?_)
      refine s_owedInAll C4 hG.1 (s_settleAll (by omega) (by omega) hG.1 hG.2.1 C4 hS (fun σ5 C5 f5 => c_tell2 (fun σ6 r6 f6 => ?_)))
      have F5 : ∀ i, ¬ (14 ≤ i ∧ i ≤ 35) → ¬ (72 ≤ i ∧ i < 85) → σ5 i = σ i := fun i a1 a2 => by rw [f5 i (by omega) (by omega), f4 i (by omega), bf i (by omega), gf i (by omega) (by omega) (by omega)]; exact f1 i (by omega)
      have S5 : CSt X σ5 := hC.fr (fun i a1 a2 a3 a4 => F5 i (by omega) (by omega))
      exact h σ6 (S5.row r6 (fun i a1 a2 _ => f6 i a1 a2)) (fun i hi => by rw [f6 i (by omega) (by omega)]; exact F5 i (by omega) (by omega))
    · unfold wX11_years
      rintro m1 e1
      have hM1 : MSt X m1 := by rw [e1]; exact hM.thr
      have F1 : ∀ i, i < 300 ∨ i = 340 → m1 i = σ i := fun i hi => by rw [e1, fr2 hi]
      clear e1
      refine m_in (fun _ _ => ⟨fun _ => ?_, fun z => absurd z (by decide)⟩) (fun z => absurd hp z)
      rintro m4 e4
      have M4 : MSt X m4 := hM1.fr (fun j hj => by rw [e4, up2_nj (by omega)]) (fun i hi => by rw [e4, up2_ne (by omega)])
      refine m_layAside (d := 3) M4.1 (by omega) (fun σ5 a5 k5 f5 => ?_)
      have M5 : MSt X σ5 := M4.fr (fun j _ => by rw [f5 300 (by omega)]) (fun i hi => f5 i (by omega))
      unfold wLX11_years_32
      have go := m_years32 (Q := Q) (n := n) (R := X.2.2.2.2) (by omega) hA hZ n 0 0 r (sp X.1) o σ5 (by omega) (by omega) (by rw [f5 300 (by omega), e4, up2_eq]) (mn_gm M5.1) M5.2.2.2.2.2 M5.2.2.2.2.1 si_sp hY
      refine ⟨n + 1, go (fun σ6 b1 b2 b3 b4 b5 => ?_)⟩
      rw [Nat.zero_add]
      refine m_allDebts b1 hG.1 hG.2.1 (m_goSettle (by omega) hG.1 hG.2.1 b1 hS (fun σ7 M7 f7 => ?_))
      refine m_comesBack (B := X.1) (d := 3) (a5.cp (fun c hc => by rw [f7 316 (by omega) (by omega), b4 _ (by omega)])) (by omega) (fun σ8 M8 f8 => ?_)
      have MS8 : MSt X σ8 := M5.back M8 (b2.fr (by rw [f8 300 (by omega), f7 300 (by omega) (by omega)]) (by rw [f8 304 (by omega), f7 304 (by omega) (by omega)])) (fun i hi => by rw [f8 i (by omega), f7 i (by omega) (by omega)]; exact b3 i (by omega) (by omega) (by omega) (by omega) (by omega) (by omega)) (fun j hj => by rw [f8 300 (by omega), f7 300 (by omega) (by omega)]; exact b5 j (by omega) (by omega) (by omega) (by omega) (by omega))
      rintro m9 e9
      have M9 : MSt (wL X []) m9 := by rw [e9]; exact mo_row0 MS8
      refine mo_tell M9 (by simp) (fun σ10 M10 f10 j10 => mo_tell M10 (by simp) (fun σ11 M11 f11 j11 => ?_))
      exact h σ11 M11 (fun i hi => by rw [f11 i (by omega) (by omega), f10 i (by omega) (by omega), e9, up2_ne (by omega), f8 i (by omega), f7 i (by omega) (by omega), b3 i (by omega) (by omega) (by omega) (by omega) (by omega) (by omega), f5 i (by omega), e4, up2_ne (by omega)]; exact F1 i hi)
    · simp at hy
      omega
  · refine ⟨-1, X, fun σ Q hC h => ?_, fun σ Q hM h => ?_, hI⟩
    · unfold wX10_years
      have hh := h σ hC (fun _ _ => rfl)
      exact ⟨fun _ => hh, fun z => ⟨fun z2 => absurd ⟨by omega, z2⟩ hp, fun _ => hh⟩⟩
    · unfold wX11_years
      rintro m1 rfl
      have hM1 := hM.thr (v := 0)
      exact m_in (fun z1 z2 => absurd ⟨z1, z2⟩ hp) (fun z => ⟨fun q => absurd rfl q, fun _ => h _ hM1 (fun i hi => fr2 hi)⟩)
