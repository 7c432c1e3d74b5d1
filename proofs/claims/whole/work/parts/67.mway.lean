/-! the reference's ways -/
def mix (m : Nat) (B : Bk) (s : Nat → Int) (i : Nat) : Int := if i / 8 = m ∨ i % 8 = m then sp B i else s i
abbrev GM (m : Nat) (B : Bk) (s : Nat → Int) : Bk := gB B (mix m B s)
theorem mix_uv {m : Nat} {B : Bk} {s : Nat → Int} {u v : Nat} (hv : v < 8) (hu : u ≠ m) (hm : v ≠ m) : mix m B s (8 * u + v) = s (8 * u + v) := by
  unfold mix
  rw [(dm8 hv).1, (dm8 hv).2, if_neg (by omega)]
theorem mix_m {m : Nat} {B : Bk} {s : Nat → Int} {u v : Nat} (hv : v < 8) (h : u = m ∨ v = m) : mix m B s (8 * u + v) = sp B (8 * u + v) := by
  unfold mix
  rw [(dm8 hv).1, (dm8 hv).2, if_pos h]
theorem MB_deb {f : Nat → Int} {o : Nat} {B : Bk} {d d' : Nat → Int} (h : MB f o (wDeb B d)) (e : ∀ i, i < 64 → d i = d' i) : MB f o (wDeb B d') := ⟨h.1, h.2.1, fun i hi => (h.2.2.1 i hi).trans (e i hi), h.2.2.2.1, h.2.2.2.2⟩
section MWAY
variable {m : Nat} {B : Bk} {s : Nat → Int} {σ : Mem} {x : Int}
/-- what one owes behind what went -/
theorem gm_deb (hZ : IvB B) (hS : SI m B s) {u v : Nat} (hu : u < 8) (hv : v < 8) : (Zr (nN B) m u v → deb (GM m B s) (8 * u + v) = deb B (8 * u + v)) ∧ (¬ Zr (nN B) m u v → deb (GM m B s) (8 * u + v) = deb B (8 * u + v) + rm B u v - s (8 * u + v)) := by
  refine ⟨fun z => ?_, fun z => ?_⟩
  · show deb B (8 * u + v) + (sp B (8 * u + v) - mix m B s (8 * u + v)) = _
    by_cases c : u = m ∨ v = m
    · rw [mix_m hv c]; omega
    · rw [mix_uv hv (by omega) (by omega), hS.1 u hu v hv z, sp_0 hv (by unfold Zr at z; omega)]; omega
  · show deb B (8 * u + v) + (sp B (8 * u + v) - mix m B s (8 * u + v)) = _
    unfold Zr at z
    rw [mix_uv hv (by omega) (by omega), sp_uv hv (by omega) (by omega) (by omega)]; omega
theorem gm_anti (hZ : IvB B) (hS : SI m B s) {u v : Nat} (hu : u < 8) (hv : v < 8) : deb (GM m B s) (8 * u + v) = - deb (GM m B s) (8 * v + u) := by
  have a := hZ.1 u hu v hv
  have g1 := gm_deb hZ hS hu hv
  have g2 := gm_deb hZ hS hv hu
  by_cases z : Zr (nN B) m u v
  · rw [g1.1 z, g2.1 z.sym]; exact a
  · have z' : ¬ Zr (nN B) m v u := fun q => z q.sym
    have i1 := (hS.2 u hu v hv z).1
    unfold Zr at z
    rw [sp_uv hv (by omega) (by omega) (by omega), sp_uv hu (by omega) (by omega) (by omega)] at i1
    rw [g1.2 z, g2.2 z']
    omega
theorem gm_b (hI : IvA B) (hZ : IvB B) (hS : SI m B s) {u v : Nat} (hu : u < 8) (hv : v < 8) : deb (GM m B s) (8 * u + v) ≤ 999 := by
  have g1 := gm_deb hZ hS hu hv
  have b := hI.2.2.1 (8 * u + v) (lt64 hu hv)
  by_cases z : Zr (nN B) m u v
  · rw [g1.1 z]; omega
  · rw [g1.2 z]
    have i1 := (hS.2 u hu v hv z).2
    unfold Zr at z
    rw [sp_uv hv (by omega) (by omega) (by omega)] at i1
    rcases i1 with i1 | i1
    · omega
    · have l := hI.2.1 (8 * v + u) (lt64 hv hu)
      have hh := (hld_b hI hu hv).1
      unfold rm
      omega
theorem gm_A (hI : IvA B) (hZ : IvB B) (hS : SI m B s) : IvA (GM m B s) := by
  refine ⟨hI.1, hI.2.1, fun i hi => ?_, hI.2.2.2.1, hI.2.2.2.2.1, hI.2.2.2.2.2⟩
  have hu : i / 8 < 8 := by omega
  have hv : i % 8 < 8 := by omega
  have a1 := gm_b hI hZ hS hu hv
  have a2 := gm_b hI hZ hS hv hu
  have a3 := gm_anti hZ hS hu hv
  rw [i88 i]
  omega
theorem gm_rm (hZ : IvB B) (hS : SI m B s) {u v : Nat} (hu : u < 8) (hv : v < 8) (z : ¬ Zr (nN B) m u v) : rm (GM m B s) u v = s (8 * u + v) := by
  have := (gm_deb hZ hS hu hv).2 z
  show lim B (8 * v + u) - deb (GM m B s) (8 * u + v) - hld B u v = _
  rw [this]
  unfold rm
  omega
theorem m_canGo {u v : Nat} {Q : Int → Mem → Prop} (hM : MN σ (GM m B s)) (hI : IvA B) (hZ : IvB B) (hS : SI m B s) (hb : ∀ u : Nat, u < 8 → ((u : Int) = σ 300 14 ↔ u = m)) (hu : u < nN B) (hv : v < nN B) (hx : 1 ≤ x) (h1 : x ≤ s (8 * u + v) → Q 1 σ) (h0 : ¬ x ≤ s (8 * u + v) → Q 0 σ) : wX11_canGo (u : Int) (v : Int) x σ Q := by
  have hN := hI.1
  have hu8 : u < 8 := by omega
  have hv8 : v < 8 := by omega
  have z0 : Zr (nN B) m u v → Q 0 σ := fun z => h0 (by rw [hS.1 u hu8 v hv8 z]; omega)
  unfold wX11_canGo
  refine ⟨fun z => z0 (Or.inl (by omega)), fun c1 => ⟨fun z => z0 (Or.inr (Or.inl ((hb u hu8).mp z))), fun c2 => ⟨fun z => z0 (Or.inr (Or.inr (Or.inl ((hb v hv8).mp z)))), fun c3 => ?_⟩⟩⟩
  have z : ¬ Zr (nN B) m u v := fun q => by
    rcases q with q | q | q | q | q
    · exact c1 (by omega)
    · exact c2 ((hb u hu8).mpr q)
    · exact c3 ((hb v hv8).mpr q)
    · omega
    · omega
  refine m_room hM (gm_A hI hZ hS) hu8 hv8 ?_
  rw [gm_rm hZ hS hu8 hv8 z]
  exact ⟨fun q => h0 (by omega), fun q => h1 (by omega)⟩
theorem Cl.set {N : Nat} {d : Nat → Int} {k c : Int} {u : Nat} (h : Cl N s x d k) (hn : d u < 0) (hu : u < N) (hc : k ≤ c) : Cl N s x (up1 d u c) k := by
  intro w hw v hv h0 h1 he
  by_cases e : v = u
  · rw [e, up1_eq] at h1; omega
  · rw [up1_ne e] at h0 h1 ⊢
    have := h w hw v hv h0 h1 he
    by_cases e2 : w = u
    · rw [e2] at this; omega
    · rw [up1_ne e2]; exact this
theorem m_layFar {t : Nat} {Q : Mem → Prop} (hM : MN σ (GM m B s)) (hI : IvA B) (hZ : IvB B) (hS : SI m B s) (hb : ∀ u : Nat, u < 8 → ((u : Int) = σ 300 14 ↔ u = m)) (ht : t < nN B) (hx : 1 ≤ x) (h : ∀ σ', IsD (nN B) s x t (σ' 312) → (∀ i, i ≠ 312 → σ' i = σ i) → Q σ') : wX11_layFar (t : Int) x σ Q := by
  have hN := hI.1
  have fr : ∀ {τ : Mem}, (∀ i, i ≠ 312 → τ i = σ i) → MN τ (GM m B s) ∧ τ 301 0 = (nN B : Int) ∧ ∀ u : Nat, u < 8 → ((u : Int) = τ 300 14 ↔ u = m) := fun {τ} hF => by
    have e : τ 301 = σ 301 := hF 301 (by omega)
    have e2 : τ 300 = σ 300 := hF 300 (by omega)
    refine ⟨by unfold MN; rw [e]; exact hM, by rw [e]; exact hM.1, fun u hu => by rw [e2]; exact hb u hu⟩
  unfold wX11_layFar wLX11_layFar_2
  refine lp_for (fun k y τ => y = ((t : Int), x, (k : Int)) ∧ (∀ u, u < k → τ 312 u = if u = t then 0 else -1) ∧ ∀ i, i ≠ 312 → τ i = σ i) (nN B) ?_ ?_ _ _ ⟨rfl, fun u hu => by omega, fun i _ => rfl⟩
  · rintro k hk _ τ ⟨rfl, hD, hF⟩ K hK
    dsimp only [wX11_layFar_2, wX11_layFar_27]
    have e0 := (fr hF).2.1
    have st : ∀ v : Int, v = (if k = t then 0 else -1) → ∀ m1 : Mem, m1 = up2 τ 312 k v → ∀ x2 : Int, x2 = w32 ((k : Int) + 1) → K ((t : Int), x, x2) m1 := by
      rintro v ev m1 e1 _ rfl
      refine hK _ _ ⟨by rw [w32_id (by omega) (by omega)]; rfl, fun u hu => ?_, fun i hi => by rw [e1, up2_ne hi]; exact hF i hi⟩
      rw [e1, up2_app]
      by_cases c : u = k
      · rw [if_pos ⟨rfl, c⟩, ev, c]
      · rw [if_neg (fun z => c z.2)]; exact hD u (by omega)
    refine ⟨fun z => absurd z (by rw [e0]; omega), fun _ => ⟨fun z => ⟨⟨by omega, by omega⟩, ?_⟩, fun z => ⟨⟨by omega, by omega⟩, ?_⟩⟩⟩
    · rw [tn]; exact st _ (by rw [if_neg (by omega)])
    · rw [tn]; exact st _ (by rw [if_pos (by omega)])
  · rintro _ τ ⟨rfl, hD, hF⟩ K
    dsimp only [wX11_layFar_2]
    have e0 := (fr hF).2.1
    refine ⟨fun _ => ?_, fun z => absurd z (by rw [e0]; omega)⟩
    have eT : τ 312 t = 0 := by rw [hD t ht, if_pos rfl]
    unfold wLX11_layFar_36
    refine lp_for (fun k y ρ => y = (x, (k : Int)) ∧ PreD (nN B) s x t (ρ 312) ∧ (∀ u, u < nN B → ρ 312 u ≤ (k : Int)) ∧ Cl (nN B) s x (ρ 312) (k : Int) ∧ ∀ i, i ≠ 312 → ρ i = σ i) (nN B) ?_ ?_ _ _ ⟨rfl, ⟨eT, fun u hu => by rw [hD u hu]; split <;> omega, fun u hu hne h0 => by rw [hD u hu, if_neg hne] at h0; omega⟩, fun u hu => by rw [hD u hu]; split <;> omega, fun u _ v _ h0 h1 => by omega, hF⟩
    · rintro k hk _ ρ ⟨rfl, hP, hle, hC, hF1⟩ K1 hK1
      dsimp only [wX11_layFar_36]
      have e1 := (fr hF1).2.1
      refine ⟨fun z => absurd z (by rw [e1]; omega), fun _ => ?_⟩
      unfold wLX11_layFar_49
      refine lp_for (fun j y ρ => y = (x, (k : Int), (j : Int)) ∧ PreD (nN B) s x t (ρ 312) ∧ (∀ u, u < nN B → ρ 312 u ≤ (k : Int) + 1) ∧ Cl (nN B) s x (ρ 312) (k : Int) ∧ (∀ v, v < j → ρ 312 v = (k : Int) → ∀ u, u < nN B → x ≤ s (8 * u + v) → 0 ≤ ρ 312 u) ∧ ∀ i, i ≠ 312 → ρ i = σ i) (nN B) ?_ ?_ _ _ ⟨rfl, hP, fun u hu => by have := hle u hu; omega, hC, fun v hv => by omega, hF1⟩
      · rintro j hj _ τ2 ⟨rfl, hP2, hle2, hC2, hD2, hF2⟩ K2 hK2
        dsimp only [wX11_layFar_49]
        have e2 := (fr hF2).2.1
        refine ⟨fun z => absurd z (by rw [e2]; omega), fun _ => ⟨⟨by omega, by omega⟩, ?_⟩⟩
        rw [tn]
        refine ⟨fun z => ?_, fun z => ?_⟩
        · unfold wLX11_layFar_77
          refine lp_for (fun i y ρ => y = (x, (k : Int), (j : Int), (i : Int)) ∧ PreD (nN B) s x t (ρ 312) ∧ (∀ u, u < nN B → ρ 312 u ≤ (k : Int) + 1) ∧ Cl (nN B) s x (ρ 312) (k : Int) ∧ (∀ v, v < j → ρ 312 v = (k : Int) → ∀ u, u < nN B → x ≤ s (8 * u + v) → 0 ≤ ρ 312 u) ∧ (∀ u, u < i → x ≤ s (8 * u + j) → 0 ≤ ρ 312 u) ∧ ρ 312 j = (k : Int) ∧ ∀ i, i ≠ 312 → ρ i = σ i) (nN B) ?_ ?_ _ _ ⟨rfl, hP2, hle2, hC2, hD2, fun u hu => by omega, z, hF2⟩
          · rintro i hi _ τ3 ⟨rfl, hP3, hle3, hC3, hD3, hE3, hj3, hF3⟩ K3 hK3
            dsimp only [wX11_layFar_77]
            obtain ⟨M3, e3, b3⟩ := fr hF3
            refine ⟨fun z => absurd z (by rw [e3]; omega), fun _ => ⟨⟨by omega, by omega⟩, ?_⟩⟩
            rw [tn]
            have w1 : w32 ((i : Int) + 1) = ((i + 1 : Nat) : Int) := by rw [w32_id (by omega) (by omega)]; rfl
            have skip : (x ≤ s (8 * i + j) → 0 ≤ τ3 312 i) → ∀ x2 : Int, x2 = w32 ((i : Int) + 1) → K3 (x, (k : Int), (j : Int), x2) τ3 := fun q => by
              rintro _ rfl
              refine hK3 _ _ ⟨by rw [w1], hP3, hle3, hC3, hD3, fun u hu hxu => ?_, hj3, hF3⟩
              by_cases c : u = i
              · rw [c] at hxu ⊢; exact q hxu
              · exact hE3 u (by omega) hxu
            have b := hP3.2.1 i hi
            refine ⟨fun z3 => skip (fun _ => by omega), fun z3 => m_canGo M3 hI hZ hS b3 hi hj hx (fun c => ⟨fun q => absurd q (by decide), fun _ => ⟨⟨by omega, by omega⟩, ?_⟩⟩) (fun c => ⟨fun _ => skip (fun q => absurd q c), fun q => absurd rfl q⟩)⟩
            rw [w1, w32_id (a := (k : Int) + 1) (by omega) (by omega)]
            rintro m6 e6 _ rfl
            have r312 : m6 312 = up1 (τ3 312) i ((k : Int) + 1) := by rw [e6, up2_row]
            have hs := hP3.set (u := i) (v := j) (by omega) hj (by omega) c
            rw [hj3] at hs
            refine hK3 _ _ ⟨rfl, by rw [r312]; exact hs, fun u hu => ?_, by rw [r312]; exact hC3.set (by omega) hi (by omega), fun v hv ev u hu hxu => ?_, fun u hu hxu => ?_, ?_, fun a ha => by rw [e6, up2_ne ha]; exact hF3 a ha⟩
            · rw [r312]
              by_cases c : u = i
              · rw [c, up1_eq]; omega
              · rw [up1_ne c]; exact hle3 u hu
            · rw [r312] at ev ⊢
              by_cases c1 : v = i
              · rw [c1, up1_eq] at ev; omega
              · rw [up1_ne c1] at ev
                by_cases c2 : u = i
                · rw [c2, up1_eq]; omega
                · rw [up1_ne c2]; exact hD3 v hv ev u hu hxu
            · rw [r312]
              by_cases c2 : u = i
              · rw [c2, up1_eq]; omega
              · rw [up1_ne c2]; exact hE3 u (by omega) hxu
            · rw [r312, up1_ne (fun c => by rw [c] at hj3; omega)]; exact hj3
          · rintro _ τ3 ⟨rfl, hP3, hle3, hC3, hD3, hE3, hj3, hF3⟩ K3
            dsimp only [wX11_layFar_77]
            obtain ⟨M3, e3, b3⟩ := fr hF3
            refine ⟨fun _ => ?_, fun z => absurd z (by rw [e3]; omega)⟩
            rintro _ rfl
            refine hK2 _ _ ⟨by rw [w32_id (by omega) (by omega)]; rfl, hP3, hle3, hC3, fun v hv ev u hu hxu => ?_, hF3⟩
            by_cases c : v = j
            · rw [c] at hxu; exact hE3 u hu hxu
            · exact hD3 v (by omega) ev u hu hxu
        · rintro _ rfl
          refine hK2 _ _ ⟨by rw [w32_id (by omega) (by omega)]; rfl, hP2, hle2, hC2, fun v hv ev u hu hxu => ?_, hF2⟩
          by_cases c : v = j
          · rw [c] at ev; exact absurd ev z
          · exact hD2 v (by omega) ev u hu hxu
      · rintro _ τ2 ⟨rfl, hP2, hle2, hC2, hD2, hF2⟩ K2
        dsimp only [wX11_layFar_49]
        have e2 := (fr hF2).2.1
        refine ⟨fun _ => ?_, fun z => absurd z (by rw [e2]; omega)⟩
        rintro _ rfl
        refine hK1 _ _ ⟨by rw [w32_id (by omega) (by omega)]; rfl, hP2, fun u hu => by have := hle2 u hu; omega, fun u hu v hv h0 h1 he => ?_, hF2⟩
        by_cases c : τ2 312 v = (k : Int)
        · have a1 := hD2 v hv c u hu he
          have a2 := hle2 u hu
          omega
        · exact hC2 u hu v hv h0 (by omega) he
    · rintro _ ρ ⟨rfl, hP, hle, hC, hF1⟩ K1
      dsimp only [wX11_layFar_36]
      have e1 := (fr hF1).2.1
      exact ⟨fun _ => h ρ (hP.isD hC) hF1, fun z => absurd z (by rw [e1]; omega)⟩
end MWAY
