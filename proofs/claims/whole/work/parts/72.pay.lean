/-! what went is booked; payments -/
section BOOKIN
variable {B : Bk} {s : Nat → Int} {σ : Mem} {b : Nat}
/-- what went from u to v -/
def gn (B : Bk) (s : Nat → Int) (i : Nat) : Int := sp B i - s i
theorem gn_anti (hS : SI 8 B s) {u v : Nat} (hu : u < 8) (hv : v < 8) : gn B s (8 * v + u) = - gn B s (8 * u + v) := by
  unfold gn
  by_cases z : Zr (nN B) 8 u v
  · rw [hS.1 u hu v hv z, hS.1 v hv u hu z.sym, sp_0 hv (by unfold Zr at z; omega), sp_0 hu (by unfold Zr at z; omega)]; rfl
  · have := (hS.2 u hu v hv z).1
    omega
theorem gn_z (hS : SI 8 B s) {u v : Nat} (hu : u < 8) (hv : v < 8) (z : Zr (nN B) 8 u v) : gn B s (8 * u + v) = 0 := by
  unfold gn
  rw [hS.1 u hu v hv z, sp_0 hv (by unfold Zr at z; omega)]; rfl
theorem gn_b (hI : IvA B) (hS : SI 8 B s) {i : Nat} (hi : i < 64) : -60000 ≤ gn B s i ∧ gn B s i ≤ 60000 := by
  have h1 := sp_b hI hi
  have h2 := hS.b hI hi
  unfold gn
  omega
theorem gm8 : ∀ i, i < 64 → deb (GM 8 B s) i = deb B i + gn B s i := fun i hi => by
  show deb B i + (sp B i - mix 8 B s i) = _
  have : mix 8 B s i = s i := by unfold mix; rw [if_neg (by omega)]
  rw [this]; rfl
theorem s_gone {u v : Nat} {Q : Int → Mem → Prop} (hI : IvA B) (hS : SI 8 B s) (hu : u < 8) (hv : v < 8) (h16 : ∀ i, i < 64 → σ 16 i = sp B i) (h15 : ∀ i, i < 64 → σ 15 i = s i) (h : Q (gn B s (8 * u + v)) σ) : wX4_gone (u : Int) (v : Int) σ Q := by
  unfold wX4_gone
  have g := gn_b hI hS (lt64 hu hv)
  refine s_at hu hv ⟨rg64 hu hv, s_at hu hv ⟨rg64 hu hv, ?_⟩⟩
  rw [tn, h16 _ (lt64 hu hv), h15 _ (lt64 hu hv)]
  unfold gn at g h
  rw [w32_id (by omega) (by omega)]
  exact h
/-- pairs ahead of (u, v) are booked -/
def bkd (B : Bk) (s : Nat → Int) (u v i : Nat) : Int := deb B i + (if min (i / 8) (i % 8) < u ∨ (min (i / 8) (i % 8) = u ∧ max (i / 8) (i % 8) < v) then gn B s i else 0)
theorem bkd_b (hI : IvA B) (hS : SI 8 B s) {u v i : Nat} (hi : i < 64) : -100000 ≤ bkd B s u v i ∧ bkd B s u v i ≤ 100000 := by
  have h1 := hI.2.2.1 i hi
  have h2 := gn_b hI hS hi
  unfold bkd
  split <;> omega
theorem bkd_s (hS : SI 8 B s) {u v i : Nat} (hu : u < 8) (hv : v < 8) (huv : u < v) (hi : i < 64) : pay (bkd B s u v) u v (gn B s (8 * u + v)) i = bkd B s u (v + 1) i := by
  have an := gn_anti hS hu hv
  unfold pay
  by_cases c1 : i = 8 * u + v
  · rw [if_pos c1, if_neg (by omega)]
    unfold bkd
    rw [if_neg (by omega), if_pos (by omega), c1]; omega
  · rw [if_neg c1]
    by_cases c2 : i = 8 * v + u
    · rw [if_pos c2]
      unfold bkd
      rw [if_neg (by omega), if_pos (by omega), c2, an]; omega
    · rw [if_neg c2]
      unfold bkd
      by_cases c3 : min (i / 8) (i % 8) < u ∨ (min (i / 8) (i % 8) = u ∧ max (i / 8) (i % 8) < v)
      · rw [if_pos c3, if_pos (by omega)]; omega
      · rw [if_neg c3, if_neg (by omega)]; omega
theorem s_bookIn {Q : Mem → Prop} (hb : 40 ≤ b) (hC : CB b B σ) (hI : IvA B) (hS : SI 8 B s) (e0 : σ 14 0 = (nN B : Int)) (h16 : ∀ i, i < 64 → σ 16 i = sp B i) (h15 : ∀ i, i < 64 → σ 15 i = s i) (h : ∀ σ', CB b (GM 8 B s) σ' → (∀ i, i ≠ b + 2 → σ' i = σ i) → Q σ') : wX4_bookIn b σ Q := by
  have hN := hI.1
  unfold wX4_bookIn wLX4_bookIn_2
  refine lp_for (fun u x τ => x = (u : Int) ∧ CB b (wDeb B (bkd B s u 0)) τ ∧ ∀ i, i ≠ b + 2 → τ i = σ i) (nN B) ?_ ?_ _ _ ⟨rfl, ?_, fun _ _ => rfl⟩
  · rintro u hu _ τ ⟨rfl, hT, hF⟩ K hK
    dsimp only [wX4_bookIn_2]
    refine ⟨fun z => absurd z (by rw [hF 14 (by omega), e0]; omega), fun _ => ?_⟩
    rintro _ rfl
    unfold wLX4_bookIn_14
    refine lp_from (fun v x τ => x = ((u : Int), (v : Int)) ∧ CB b (wDeb B (bkd B s u v)) τ ∧ ∀ i, i ≠ b + 2 → τ i = σ i) (u + 1) (nN B) (by omega) ?_ ?_ _ _ ⟨by rw [w32_id (by omega) (by omega)]; rfl, ?_, hF⟩
    · rintro v hv1 hv _ τ ⟨rfl, hT, hF⟩ K2 hK2
      dsimp only [wX4_bookIn_14]
      refine ⟨fun z => absurd z (by rw [hF 14 (by omega), e0]; omega), fun _ => ?_⟩
      refine s_gone hI hS (by omega) (by omega) (fun i hi => by rw [hF 16 (by omega)]; exact h16 i hi) (fun i hi => by rw [hF 15 (by omega)]; exact h15 i hi) ?_
      have g := gn_b hI hS (i := 8 * u + v) (by omega)
      refine s_pay (by omega) (by omega) hT (bkd_b hI hS (by omega)) (bkd_b hI hS (by omega)) (by omega) (fun σ' hC' hF' => ?_)
      rintro _ rfl
      refine hK2 _ _ ⟨by rw [w32_id (by omega) (by omega)]; rfl, ?_, fun i hi => (hF' i hi).trans (hF i hi)⟩
      exact CB_deb (B := B) hC' (fun i hi => bkd_s hS (by omega) (by omega) (by omega) hi)
    · rintro _ τ ⟨rfl, hT, hF⟩ K2
      dsimp only [wX4_bookIn_14]
      refine ⟨fun _ => ?_, fun z => absurd z (by rw [hF 14 (by omega), e0]; omega)⟩
      rintro _ rfl
      refine hK _ _ ⟨by rw [w32_id (by omega) (by omega)]; rfl, ?_, hF⟩
      refine CB_deb (B := B) hT (fun i hi => ?_)
      unfold bkd
      by_cases c1 : min (i / 8) (i % 8) < u ∨ (min (i / 8) (i % 8) = u ∧ max (i / 8) (i % 8) < nN B)
      · rw [if_pos c1, if_pos (by omega)]
      · rw [if_neg c1]
        by_cases c2 : min (i / 8) (i % 8) < u + 1 ∨ (min (i / 8) (i % 8) = u + 1 ∧ max (i / 8) (i % 8) < 0)
        · rw [if_pos c2]
          have := gn_z hS (u := i / 8) (v := i % 8) (by omega) (by omega) (by unfold Zr; omega)
          rw [← i88 i] at this
          rw [this]
        · rw [if_neg c2]
    · refine CB_deb (B := B) hT (fun i hi => ?_)
      unfold bkd
      by_cases c1 : min (i / 8) (i % 8) < u ∨ (min (i / 8) (i % 8) = u ∧ max (i / 8) (i % 8) < 0)
      · rw [if_pos c1, if_pos (by omega)]
      · rw [if_neg c1]
        by_cases c2 : min (i / 8) (i % 8) < u ∨ (min (i / 8) (i % 8) = u ∧ max (i / 8) (i % 8) < u + 1)
        · rw [if_pos c2]
          have := gn_z hS (u := i / 8) (v := i % 8) (by omega) (by omega) (by unfold Zr; omega)
          rw [← i88 i] at this
          rw [this]
        · rw [if_neg c2]
  · rintro _ τ ⟨rfl, hT, hF⟩ K
    dsimp only [wX4_bookIn_2]
    refine ⟨fun _ => h τ ?_ hF, fun z => absurd z (by rw [hF 14 (by omega), e0]; omega)⟩
    refine CB_deb (B := B) hT (fun i hi => ?_)
    show _ = deb (GM 8 B s) i
    rw [gm8 i hi]
    unfold bkd
    by_cases c1 : min (i / 8) (i % 8) < nN B ∨ (min (i / 8) (i % 8) = nN B ∧ max (i / 8) (i % 8) < 0)
    · rw [if_pos c1]
    · rw [if_neg c1]
      have := gn_z hS (u := i / 8) (v := i % 8) (by omega) (by omega) (by unfold Zr; omega)
      rw [← i88 i] at this
      rw [this]
  · refine CB_deb (B := B) (d := deb B) hC (fun i hi => ?_)
    unfold bkd
    rw [if_neg (by omega)]; omega
theorem si_nn (hI : Inv B) (hS : SI 8 B s) {u v : Nat} (hu : u < 8) (hv : v < 8) : 0 ≤ s (8 * u + v) := by
  by_cases z : Zr (nN B) 8 u v
  · rw [hS.1 u hu v hv z]; omega
  · have h := (hS.2 u hu v hv z).2
    unfold Zr at z
    rw [sp_uv hv (by omega) (by omega) (by omega)] at h
    have := hI.2.2 u (by omega) v (by omega) (by omega)
    omega
theorem inv_gm (hI : Inv B) (hS : SI 8 B s) : Inv (GM 8 B s) := by
  have hN := hI.1.1
  refine inv_deb hI (fun u hu v hv => gm_anti hI.2.1 hS hu hv) (fun u hu v hv z => ?_) (fun u hu v hv hne => ?_)
  · have zz : Zr (nN B) 8 u v := by unfold Zr; omega
    exact ((gm_deb hI.2.1 hS hu hv).1 zz).trans (hI.2.1.2.2.1 u hu v hv z).2.1
  · have r := gm_rm hI.2.1 hS (u := u) (v := v) (by omega) (by omega) (by unfold Zr; omega)
    have n := si_nn hI hS (u := u) (v := v) (by omega) (by omega)
    unfold rm at r
    have r' : lim B (8 * v + u) - deb (GM 8 B s) (8 * u + v) - hld B u v = s (8 * u + v) := r
    show 0 ≤ lim B (8 * v + u) - deb (GM 8 B s) (8 * u + v) - hld B u v
    omega
theorem rowR_b (hI : IvA B) {f t : Nat} (hf : f < nN B) (ht : t < nN B) (hne : f ≠ t) {m : Nat} {r : List (Nat × Int)} {s' : Nat → Int} {l l' : Int} (hS : SI m B s) (hl : 0 ≤ l) (h : Snd (nN B) f t r s l s' l') : (∀ v ∈ rowR r, -2147483648 ≤ v ∧ v < 2147483648) ∧ (rowR r).length ≤ 512 := by
  have hlen := snd_len hI hf ht hne hS hl h
  have q := Prun.si hI hf ht hne h.1 hS hl
  refine ⟨fun v hv => ?_, by rw [rowR_len]; omega⟩
  obtain ⟨z, hz, e⟩ := rowR_mem hv
  have := q.2.2.2.2 z hz
  omega
end BOOKIN
/-! a payment, split -/
def aPay (x : Int) (B : Bk) (r : List (Nat × Int)) (s1 : Nat → Int) (l1 : Int) : Act := if l1 = 0 then ((r.length : Int), GM 8 B s1, rowR r) else (-4, B, [x - l1])
section CPAY
variable {B : Bk} {L : List Int}
theorem ca_nopay {a b x : Int} (hp : ¬ (two (nN B) a b ∧ 1 ≤ x ∧ x ≤ 9999)) : CAct B L (fun τ Q => wX10_paySplit a b x τ Q) (-1, B, L) := by
  intro τ Q hC hR h
  show wX10_paySplit a b x τ Q
  unfold wX10_paySplit
  exact s_isPayment hC (not_pay hp) (fun z => ⟨fun q => absurd rfl q, fun _ => h _ hC hR (fun _ _ _ => rfl)⟩)
theorem ca_pay (hI : Inv B) {f t : Nat} {x : Int} {r : List (Nat × Int)} {s1 : Nat → Int} {l1 : Int} (hf : f < nN B) (ht : t < nN B) (hne : f ≠ t) (hx : 1 ≤ x ∧ x ≤ 9999) (hr : Snd (nN B) f t r (sp B) x s1 l1) : CAct B L (fun τ Q => wX10_paySplit (f : Int) (t : Int) x τ Q) (aPay x B r s1 l1) := by
  intro τ Q hC hR h
  have hN := hI.1.1
  have q := Prun.si hI.1 hf ht hne hr.1 si_sp (by omega)
  have hlen := snd_len hI.1 hf ht hne si_sp (by omega) hr
  show wX10_paySplit (f : Int) (t : Int) x τ Q
  unfold wX10_paySplit
  refine s_isPayment hC (fun u v e1 e2 hu hv hne2 z1 z2 => ⟨fun _ => ?_, fun z => absurd z (by decide)⟩) (fun z => absurd ⟨two_n hf ht hne, hx⟩ z)
  refine s_load (by omega) hC hI.1 hI.2.1 (fun σ1 g0 g15 g16 gf => ?_)
  refine s_send (m := 8) (s := sp B) hI.1 hf ht hne g0 g15 si_sp (by omega) (by omega) hr (fun σ2 k0 k15 k10 kR kf => ?_)
  have f2 : ∀ i, ¬ (14 ≤ i ∧ i ≤ 22) → σ2 i = τ i := fun i hi => by rw [kf i (by omega)]; exact gf i (by omega) (by omega) (by omega)
  have C2 : CB 40 B σ2 := hC.fr (fun i a1 a2 => f2 i (by omega))
  refine ⟨fun z => ?_, fun z => ?_⟩
  · have ea : aPay x B r s1 l1 = ((r.length : Int), GM 8 B s1, rowR r) := by unfold aPay; rw [if_pos (by omega)]
    rw [ea] at h
    refine s_bookIn (s := s1) (by omega) C2 hI.1 q.1 k0 (fun i hi => by rw [kf 16 (by omega)]; exact g16 i hi) k15 (fun σ3 C3 f3 => ?_)
    refine c_begin (fun σ4 r4 f4 => ?_)
    have f4' : ∀ i, i ≠ 12 → i ≠ 13 → ¬ (40 ≤ i ∧ i < 53) → σ4 i = σ2 i := fun i a1 a2 a3 => by rw [f4 i a1]; exact f3 i (by omega)
    have C4 : CB 40 (GM 8 B s1) σ4 := C3.fr (fun i a1 a2 => f4 i (by omega))
    unfold wLX10_paySplit_75
    refine lp_for (fun k y ρ => y = (k : Int) ∧ CR (rowR (r.take k)) ρ ∧ ∀ i, i ≠ 12 → i ≠ 13 → ρ i = σ4 i) r.length ?_ ?_ _ _ ⟨rfl, r4, fun _ _ _ => rfl⟩
    · rintro k hk _ ρ ⟨rfl, hT, hF⟩ K hK
      dsimp only [wX10_paySplit_75]
      obtain ⟨z, hz⟩ := get_k hk
      have gz := kR k z hz
      have e10 : ρ 14 10 = (r.length : Int) := by rw [hF 14 (by omega) (by omega), f4' 14 (by omega) (by omega) (by omega)]; exact k10
      have e21 : ρ 21 k = (z.1 : Int) := by rw [hF 21 (by omega) (by omega), f4' 21 (by omega) (by omega) (by omega)]; exact gz.1
      have e22 : ρ 22 k = z.2 := by rw [hF 22 (by omega) (by omega), f4' 22 (by omega) (by omega) (by omega)]; exact gz.2
      rw [e10, tn, e21]
      refine ⟨fun q => absurd q (by omega), fun _ => ⟨⟨by omega, by omega⟩, c_addn hT (by rw [rowR_len, List.length_take]; omega) (fun σ5 r5 f5 => ⟨⟨by omega, by omega⟩, ?_⟩)⟩⟩
      rw [show σ5 22 k = z.2 by rw [f5 22 (by omega) (by omega)]; exact e22]
      refine c_addn r5 (by rw [List.length_append, rowR_len, List.length_take]; simp; omega) (fun σ6 r6 f6 => ?_)
      rintro _ rfl
      refine hK _ _ ⟨by rw [w32_id (by omega) (by omega)]; rfl, by rw [take_s hz, rowR_snoc]; exact r6, fun i a1 a2 => by rw [f6 i a1 a2, f5 i a1 a2]; exact hF i a1 a2⟩
    · rintro _ ρ ⟨rfl, hT, hF⟩ K
      dsimp only [wX10_paySplit_75]
      rw [List.take_length] at hT
      have e10 : ρ 14 10 = (r.length : Int) := by rw [hF 14 (by omega) (by omega), f4' 14 (by omega) (by omega) (by omega)]; exact k10
      rw [e10]
      refine ⟨fun _ => h ρ (C4.fr (fun i a1 a2 => hF i (by omega) (by omega))) hT (fun i a1 a2 => ?_), fun q => absurd q (by omega)⟩
      rw [hF i (by omega) (by omega), f4' i (by omega) (by omega) a1]; exact f2 i (by omega)
  · have ea : aPay x B r s1 l1 = (-4, B, [x - l1]) := by unfold aPay; rw [if_neg (by omega)]
    rw [ea] at h
    exact c_tell1 (fun σ3 r3 f3 => h σ3 (C2.fr (fun i a1 a2 => f3 i (by omega) (by omega))) r3 (fun i a1 a2 => by rw [f3 i (by omega) (by omega)]; exact f2 i (by omega)))
end CPAY
theorem MSt.bk {X : St} {σ σ' : Mem} {B : Bk} {L : List Int} (h : MSt X σ) (hM : MN σ' B) (hR : MR L σ') (hF : ∀ i, i = 302 ∨ i = 327 ∨ i = 331 ∨ i = 332 → σ' i = σ i) (hj : ∀ j, j = 2 ∨ j = 14 ∨ j = 28 → σ' 300 j = σ 300 j) : MSt (wL (wB X B) L) σ' := ⟨hM, h.2.1.fr (hF 332 (by omega)) (hF 331 (by omega)), h.2.2.1.fr (hj 28 (by omega)) (hF 327 (by omega)), h.2.2.2.1.fr (hj 2 (by omega)) (hF 302 (by omega)), hR, by rw [hj 14 (by omega)]; exact h.2.2.2.2.2⟩
theorem cto_rem {X : St} {w : Mem → (Int → Mem → Prop) → Prop} {a : Act} (hw : CAct X.1 X.2.2.2.2 w a) : CTo X (fun σ Q => wX1_copyFrom 56 40 σ (fun m1 => (w m1 (fun y3 m2 => (wX10_remembered y3 m2 (fun y5 m4 => Q y5 m4)))))) a.1 (remX X a) := fun _ _ hC h => c_rem hw hC h
theorem op_pays (a b x : Int) : OpOK (wX10_pays a b x) (wX11_pays a b x) := by
  refine OpOK.of (fun X hI => ?_)
  have hN := hI.1.1.1
  by_cases hp : two (nN X.1) a b ∧ 1 ≤ x ∧ x ≤ 9999
  · obtain ⟨f, rfl⟩ : ∃ f : Nat, a = f := ⟨a.toNat, by omega⟩
    obtain ⟨t, rfl⟩ : ∃ t : Nat, b = t := ⟨b.toNat, by omega⟩
    have hf : f < nN X.1 := by omega
    have ht : t < nN X.1 := by omega
    have hne : f ≠ t := by omega
    obtain ⟨r, s', v, hr, hr2, hn, v0, v1, hlen, hS'⟩ := snd_most hI.1.1 hf ht hne (si_sp (B := X.1))
    obtain ⟨r1, s1, l1, h1, hlen1⟩ := snd_ex hI.1.1 hf ht hne (si_sp (B := X.1)) (l := x) (by omega)
    have q1 := Prun.si hI.1.1 hf ht hne h1.1 si_sp (by omega)
    have hcase := snd_x hI.1.1 hf ht hne si_sp hr (by omega) h1
    have rb := rowR_b hI.1.1 hf ht hne si_sp (by omega) h1
    refine ⟨_, _, cto_rem (ca_pay hI.1 hf ht hne hp.2 h1), fun σ Q hM h => ?_, xi_rem hI ?_ ?_⟩
    · unfold wX11_pays
      rintro m1 rfl
      have hM1 := hM.thr (v := 0)
      refine m_isPayment hM1.1 hI.1.1 (fun u w e1 e2 hu hw hne2 z1 z2 => ⟨fun _ => ?_, fun z => absurd z (by decide)⟩) (fun z => absurd hp z)
      refine mo_mostOf hI.1.1 hI.1.2.1 hM1 hf ht hne hr2 (fun σ2 c2 hc2 M2 k16 k17 k18 f2 _ j2 => ?_)
      rintro m3 e3
      have M3 : MSt (wL X []) m3 := by rw [e3]; exact mo_row0 M2
      have f3 : ∀ i, i < 300 ∨ i = 340 → m3 i = σ i := fun i hi => by rw [e3, up2_ne (by omega), f2 i (by omega) (by omega) (by omega) (by omega) (by omega) (by omega), fr2 hi]
      refine ⟨fun z => ?_, fun z => ?_⟩
      · have hl : l1 = 0 := by omega
        have ea : aPay x X.1 r1 s1 l1 = ((r1.length : Int), GM 8 X.1 s1, rowR r1) := by unfold aPay; rw [if_pos hl]
        rw [ea, remX_pos rfl (by omega)] at h
        refine mo_change M3 hI.2.2.1.2 (fun σ4 M4 f4 => ?_)
        refine m_goParts (m := 8) (B := X.1) (s := sp X.1) (R := []) (mn_gm M4.1) hI.1.1 hI.1.2.1 si_sp (nobar M4.2.2.2.2.2) hf ht hne (by omega) (by omega) M4.2.2.2.2.1 (fun _ => by simp) h1 (fun σ5 E R5 => ?_)
        obtain ⟨E1, E2, E3, E4, E5⟩ := E
        rw [if_neg (by decide), List.nil_append] at R5
        refine ⟨fun z3 => absurd (by omega) z3, fun z3 => ?_⟩
        rw [E2, Nat.zero_add]
        exact h σ5 (M4.bk E1 R5 (fun i hi => E4 i (by omega) (by omega) (by omega) (by omega) (by omega)) (fun j hj => E5 j (by omega) (by omega) (by omega) (by omega))) (fun i hi => by rw [E4 i (by omega) (by omega) (by omega) (by omega) (by omega), f4 i (by omega) (by omega) (by omega)]; exact f3 i hi)
      · have hl : ¬ l1 = 0 := by omega
        have ev : x - l1 = v := by omega
        have ea : aPay x X.1 r1 s1 l1 = (-4, X.1, [x - l1]) := by unfold aPay; rw [if_neg hl]
        have er : remX X (aPay x X.1 r1 s1 l1) = wL X [v] := by rw [ea, ev]; rfl
        rw [er, ea] at h
        refine mo_tell M3 (by simp) (fun σ4 M4 f4 j4 => ?_)
        exact h σ4 M4 (fun i hi => by rw [f4 i (by omega) (by omega)]; exact f3 i hi)
    · unfold aPay
      split
      · exact inv_gm hI.1 q1.1
      · exact hI.1
    · unfold aPay
      split
      · exact rb
      · refine ⟨fun y hy => ?_, by simp⟩
        simp at hy
        omega
  · refine ⟨-1, X, ?_, fun σ Q hM h => ?_, hI⟩
    · have c := cto_rem (X := X) (ca_nopay (B := X.1) (L := X.2.2.2.2) hp)
      exact c
    · unfold wX11_pays
      rintro m1 rfl
      have hM1 := hM.thr (v := 0)
      exact m_isPayment hM1.1 hI.1.1 (not_pay hp) (fun z => ⟨fun q => absurd rfl q, fun _ => h _ hM1 (fun i hi => fr2 hi)⟩)
