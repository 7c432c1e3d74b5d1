/-! as much as goes; a payment, split -/
section MOST
variable {m : Nat} {B : Bk} {s : Nat → Int} {σ : Mem}
theorem snd_most (hI : IvA B) {f t : Nat} (hf : f < nN B) (ht : t < nN B) (hne : f ≠ t) (hS : SI m B s) : ∃ r s' v, Snd (nN B) f t r s 1000000 s' (1000000 - v) ∧ Snd (nN B) f t r s 2147483647 s' (2147483647 - v) ∧ NoW (nN B) s' 1 f t ∧ 0 ≤ v ∧ v ≤ 787212 ∧ r.length ≤ 197 ∧ SI m B s' := by
  obtain ⟨r, s', l', hr, hlen⟩ := snd_ex hI hf ht hne hS (l := 1000000) (by omega)
  have q := Prun.si hI hf ht hne hr.1 hS (by omega)
  have hl : 0 < l' := by omega
  have hn : NoW (nN B) s' 1 f t := hr.2.resolve_left (by omega)
  have g := Snd.lift hI hf ht hne (l2 := 2147483647) hr.1 hS hl (by omega)
  refine ⟨r, s', 1000000 - l', ?_, ?_, hn, by omega, by omega, hlen, q.1⟩
  · rw [show (1000000 : Int) - (1000000 - l') = l' by omega]; exact hr
  · rw [show (2147483647 : Int) - (1000000 - l') = 2147483647 - 1000000 + l' by omega]; exact ⟨g, Or.inr hn⟩
theorem snd_x (hI : IvA B) {f t : Nat} (hf : f < nN B) (ht : t < nN B) (hne : f ≠ t) (hS : SI m B s) {r r1 : List (Nat × Int)} {s' s1 : Nat → Int} {v l1 x : Int} (h : Snd (nN B) f t r s 1000000 s' (1000000 - v)) (hx : 0 ≤ x ∧ x ≤ 900000) (h1 : Snd (nN B) f t r1 s x s1 l1) : (l1 = 0 ∧ x ≤ v) ∨ (0 < l1 ∧ x - l1 = v ∧ v < x ∧ r1 = r ∧ s1 = s') := by
  have q := Prun.si hI hf ht hne h1.1 hS hx.1
  by_cases c : l1 ≤ 0
  · have := snd_ge hI hf ht hne h1.1 h hS hx.1 (by omega)
    exact Or.inl ⟨by omega, by omega⟩
  · have hn : NoW (nN B) s1 1 f t := h1.2.resolve_left c
    have g := Snd.lift hI hf ht hne (l2 := 1000000) h1.1 hS (by omega) (by omega)
    obtain ⟨e1, e2, e3⟩ := Snd.eq hf ⟨g, Or.inr hn⟩ h
    exact Or.inr ⟨by omega, by omega, by omega, e1, e2⟩
theorem m_mostOf {f t : Nat} {r : List (Nat × Int)} {s' : Nat → Int} {v : Int} {R : List Int} {Q : Int → Mem → Prop} (hM : MN σ (GM m B s)) (hI : IvA B) (hZ : IvB B) (hS : SI m B s) (hb : ∀ u : Nat, u < 8 → ((u : Int) = σ 300 14 ↔ u = m)) (hf : f < nN B) (ht : t < nN B) (hne : f ≠ t) (hR : MR R σ) (hr : Snd (nN B) f t r s 2147483647 s' (2147483647 - v)) (h : ∀ σ' b, IsR (nN B) s' 1 f b → MN σ' (GM m B s) → MR R σ' → σ' 300 16 = (r.length : Int) → σ' 300 17 = lgst 0 r → σ' 300 18 = ((b : Nat) : Int) → (∀ i, i ≠ 300 → i ≠ 301 → i ≠ 304 → i ≠ 312 → i ≠ 313 → i ≠ 316 → σ' i = σ i) → (∀ k, 405 ≤ k → σ' 316 k = σ 316 k) → (∀ j, j ≠ 4 → j ≠ 13 → j ≠ 16 → j ≠ 17 → j ≠ 18 → σ' 300 j = σ 300 j) → Q v σ') : wX11_mostOf (f : Int) (t : Int) σ Q := by
  unfold wX11_mostOf
  refine m_layAside (d := 0) hM (by omega) (fun σ1 a1 k1 f1 => ?_)
  refine m_goParts (m := m) (B := B) (s := s) (R := R) (by unfold MN; rw [f1 301 (by omega)]; exact hM) hI hZ hS (fun u hu => by rw [f1 300 (by omega)]; exact hb u hu) hf ht hne (by omega) (by omega) (hR.fr (by rw [f1 300 (by omega)]) (f1 304 (by omega))) (fun z => absurd rfl z) hr (fun σ2 E R2 => ?_)
  obtain ⟨E1, E2, E3, E4, E5⟩ := E
  rw [if_pos rfl] at R2
  have q := Prun.si hI hf ht hne hr.1 hS (by omega)
  refine m_reached (m := m) (s := s') E1 hI hZ q.1 (fun u hu => by rw [E5 14 (by omega) (by omega) (by omega) (by omega), f1 300 (by omega)]; exact hb u hu) hf (by omega) (fun b hb2 => ?_)
  rintro m6 e6
  refine m_comesBack (B := GM m B s) (d := 0) (by rw [e6, up2_ne (by omega), E4 316 (by omega) (by omega) (by omega) (by omega) (by omega)]; exact a1) (by omega) (fun σ7 M7 f7 => ?_)
  rw [show (2147483647 : Int) - (2147483647 - v) = v by omega]
  have j7 : ∀ j, j ≠ 18 → σ7 300 j = σ2 300 j := fun j hj => by rw [f7 300 (by omega), e6, up2_nj hj]
  have g7 : ∀ i, i ≠ 300 → i ≠ 301 → σ7 i = σ2 i := fun i a1 a2 => by rw [f7 i a2, e6, up2_ne a1]
  refine h σ7 b hb2 M7 (R2.fr (j7 4 (by omega)) (g7 304 (by omega) (by omega))) ?_ (by rw [j7 17 (by omega)]; exact E3) (by rw [f7 300 (by omega), e6, up2_eq]) (fun i a1 a2 a3 a4 a5 a6 => ?_) (fun k hk => ?_) (fun j a1 a2 a3 a4 a5 => ?_)
  · rw [j7 16 (by omega), E2]; simp
  · rw [g7 i a1 a2, E4 i a1 a2 a3 a4 a5, f1 i a6]
  · rw [g7 316 (by omega) (by omega), E4 316 (by omega) (by omega) (by omega) (by omega) (by omega)]; exact k1 k (by omega)
  · rw [j7 j a5, E5 j a1 a2 a3 a4, f1 300 (by omega)]
theorem mo_mostOf {X : St} {f t : Nat} {r : List (Nat × Int)} {s' : Nat → Int} {v : Int} {Q : Int → Mem → Prop} (hA : IvA X.1) (hZ : IvB X.1) (hM : MSt X σ) (hf : f < nN X.1) (ht : t < nN X.1) (hne : f ≠ t) (hr : Snd (nN X.1) f t r (sp X.1) 2147483647 s' (2147483647 - v)) (h : ∀ σ' b, IsR (nN X.1) s' 1 f b → MSt X σ' → σ' 300 16 = (r.length : Int) → σ' 300 17 = lgst 0 r → σ' 300 18 = ((b : Nat) : Int) → (∀ i, i ≠ 300 → i ≠ 301 → i ≠ 304 → i ≠ 312 → i ≠ 313 → i ≠ 316 → σ' i = σ i) → (∀ k, 405 ≤ k → σ' 316 k = σ 316 k) → (∀ j, j ≠ 4 → j ≠ 13 → j ≠ 16 → j ≠ 17 → j ≠ 18 → σ' 300 j = σ 300 j) → Q v σ') : wX11_mostOf (f : Int) (t : Int) σ Q :=
  m_mostOf (m := 8) (mn_gm hM.1) hA hZ si_sp (nobar hM.2.2.2.2.2) hf ht hne hM.2.2.2.2.1 hr (fun σ' b b1 b2 b3 b4 b5 b6 b7 b8 b9 => h σ' b b1 ⟨mn_gm' b2, hM.2.1.fr (b7 332 (by omega) (by omega) (by omega) (by omega) (by omega) (by omega)) (b7 331 (by omega) (by omega) (by omega) (by omega) (by omega) (by omega)), hM.2.2.1.fr (b9 28 (by omega) (by omega) (by omega) (by omega) (by omega)) (b7 327 (by omega) (by omega) (by omega) (by omega) (by omega) (by omega)), hM.2.2.2.1.fr (b9 2 (by omega) (by omega) (by omega) (by omega) (by omega)) (b7 302 (by omega) (by omega) (by omega) (by omega) (by omega) (by omega)), b3, by rw [b9 14 (by omega) (by omega) (by omega) (by omega) (by omega)]; exact hM.2.2.2.2.2⟩ b4 b5 b6 b7 b8 b9)
theorem lgst_snoc (c : Int) (r : List (Nat × Int)) (z : Nat × Int) : lgst c (r ++ [z]) = max (lgst c r) (z.1 : Int) := by unfold lgst; rw [List.foldl_append]; rfl
theorem lgst_b {r : List (Nat × Int)} (h : ∀ z ∈ r, z.1 ≤ 8) : ∀ {c : Int}, 0 ≤ c → c ≤ 8 → 0 ≤ lgst c r ∧ lgst c r ≤ 8 := by
  induction r with
  | nil => intro c h1 h2; exact ⟨h1, h2⟩
  | cons z r ih =>
    intro c h1 h2
    have := h z List.mem_cons_self
    exact ih (fun y hy => h y (List.mem_cons_of_mem _ hy)) (c := max c (z.1 : Int)) (by omega) (by omega)
theorem rowR_snoc (r : List (Nat × Int)) (z : Nat × Int) : rowR (r ++ [z]) = rowR r ++ [(z.1 : Int)] ++ [z.2] := by unfold rowR; rw [List.flatMap_append]; simp
theorem rowR_len (r : List (Nat × Int)) : (rowR r).length = 2 * r.length := by
  induction r with
  | nil => rfl
  | cons z r ih => rw [show rowR (z :: r) = [(z.1 : Int), z.2] ++ rowR r from rfl, List.length_append, ih]; simp; omega
theorem rowR_mem {r : List (Nat × Int)} {v : Int} (h : v ∈ rowR r) : ∃ z ∈ r, v = (z.1 : Int) ∨ v = z.2 := by
  unfold rowR at h
  obtain ⟨z, hz, h2⟩ := List.mem_flatMap.mp h
  simp at h2
  exact ⟨z, hz, h2⟩
theorem take_s {α : Type} {r : List α} {k : Nat} {z : α} (h : r[k]? = some z) : r.take (k + 1) = r.take k ++ [z] := by rw [List.take_succ, h]; rfl
theorem get_k {α : Type} {r : List α} {k : Nat} (h : k < r.length) : ∃ z, r[k]? = some z := ⟨r[k], List.getElem?_eq_getElem h⟩
theorem s_longest {r : List (Nat × Int)} {Q : Int → Mem → Prop} (hl : r.length ≤ 256) (e10 : σ 14 10 = (r.length : Int)) (eR : ∀ (j : Nat) (z : Nat × Int), r[j]? = some z → σ 21 j = (z.1 : Int) ∧ σ 22 j = z.2) (h : Q (lgst 0 r) σ) : wX4_longestPart σ Q := by
  unfold wX4_longestPart wLX4_longestPart_4
  refine lp_for (fun k y τ => τ = σ ∧ y = (lgst 0 (r.take k), (k : Int))) r.length ?_ ?_ _ _ ⟨rfl, rfl⟩
  · rintro k hk _ _ ⟨rfl, rfl⟩ K hK
    dsimp only [wX4_longestPart_4]
    obtain ⟨z, hz⟩ := get_k hk
    rw [e10, tn, (eR k z hz).1]
    refine ⟨fun q => absurd q (by omega), fun _ => ⟨⟨by omega, by omega⟩, ?_⟩⟩
    rintro _ rfl _ rfl
    refine hK _ _ ⟨rfl, ?_⟩
    rw [take_s hz, lgst_snoc, w32_id (by omega) (by omega)]; rfl
  · rintro _ _ ⟨rfl, rfl⟩ K
    dsimp only [wX4_longestPart_4]
    rw [e10, List.take_length]
    exact ⟨fun _ => h, fun q => absurd q (by omega)⟩
end MOST
theorem op_most (a b : Int) : OpOK (wX10_most a b) (wX11_most a b) := by
  refine OpOK.of (fun X hI => ?_)
  have hN := hI.1.1.1
  by_cases hp : two (nN X.1) a b
  · obtain ⟨f, rfl⟩ : ∃ f : Nat, a = f := ⟨a.toNat, by omega⟩
    obtain ⟨t, rfl⟩ : ∃ t : Nat, b = t := ⟨b.toNat, by omega⟩
    have hf : f < nN X.1 := by omega
    have ht : t < nN X.1 := by omega
    have hne : f ≠ t := by omega
    obtain ⟨r, s', v, hr, hr2, hn, v0, v1, hlen, hS'⟩ := snd_most hI.1.1 hf ht hne (si_sp (B := X.1))
    have q := Prun.si hI.1.1 hf ht hne hr.1 si_sp (by omega)
    obtain ⟨c, hc⟩ := ex_R (nN X.1) s' 1 (by omega) hf
    have lb := lgst_b (r := r) (fun z hz => (q.2.2.2.2 z hz).2.1) (c := 0) (by omega) (by omega)
    have cb := hc.1.1
    refine ⟨v, wL X [(c : Int), (r.length : Int), lgst 0 r], fun σ Q hC h => ?_, fun σ Q hM h => ?_, xi_row hI ⟨fun y hy => ?_, by simp⟩⟩
    · unfold wX10_most
      have e := hC.1.1
      refine s_hasBoth (fun u w e1 e2 hu hw hne2 => ⟨fun _ => ?_, fun z => absurd z (by decide)⟩) (fun z => absurd (by rw [e]; exact hp) z)
      refine s_load (by omega) hC.1 hI.1.1 hI.1.2.1 (fun σ1 g0 g15 g16 gf => ?_)
      refine s_send (m := 8) (s := sp X.1) hI.1.1 hf ht hne g0 g15 si_sp (by omega) (by omega) hr (fun σ2 k0 k15 k10 kR kf => ?_)
      refine s_reached (s := s') (by omega) hf k0 k15 (fun σ3 c3 hc3 f3 => ?_)
      obtain rfl := hc3.eq hc
      refine s_longest (r := r) (by omega) (by rw [f3 14 (by omega)]; exact k10) (fun j z hz => by rw [f3 21 (by omega), f3 22 (by omega)]; exact kR j z hz) ?_
      rw [f3 14 (by omega), k10, show (1000000 : Int) - (1000000 - v) = v by omega]
      refine c_tell3 (fun σ4 r4 f4 => ?_)
      have h3 : CSt X σ3 := hC.fr (fun i a1 a2 a3 a4 => by rw [f3 i (by omega), kf i (by omega)]; exact gf i (by omega) (by omega) (by omega))
      exact h σ4 (h3.row r4 (fun i a1 a2 _ => f4 i a1 a2)) (fun i hi => by rw [f4 i (by omega) (by omega), f3 i (by omega), kf i (by omega)]; exact gf i (by omega) (by omega) (by omega))
    · unfold wX11_most
      rintro m1 rfl
      have hM1 := hM.thr (v := 0)
      refine m_areTwo hM1.1 hI.1.1 (fun u w e1 e2 hu hw hne2 => ⟨fun _ => ?_, fun z => absurd z (by decide)⟩) (fun z => absurd hp z)
      refine mo_mostOf hI.1.1 hI.1.2.1 hM1 hf ht hne hr2 (fun σ2 c2 hc2 M2 k16 k17 k18 f2 _ j2 => ?_)
      obtain rfl := hc2.eq hc
      rintro m3 e3
      have M3 : MSt (wL X []) m3 := by rw [e3]; exact mo_row0 M2
      rw [show m3 300 18 = (c2 : Int) by rw [e3, up2_nj (by omega)]; exact k18]
      refine mo_tell M3 (by simp) (fun σ4 M4 f4 j4 => ?_)
      rw [show σ4 300 16 = (r.length : Int) by rw [j4 16 (by omega), e3, up2_nj (by omega)]; exact k16]
      refine mo_tell M4 (by simp) (fun σ5 M5 f5 j5 => ?_)
      rw [show σ5 300 17 = lgst 0 r by rw [j5 17 (by omega), j4 17 (by omega), e3, up2_nj (by omega)]; exact k17]
      refine mo_tell M5 (by simp) (fun σ6 M6 f6 j6 => ?_)
      exact h σ6 M6 (fun i hi => by rw [f6 i (by omega) (by omega), f5 i (by omega) (by omega), f4 i (by omega) (by omega), e3, up2_ne (by omega), f2 i (by omega) (by omega) (by omega) (by omega) (by omega) (by omega), fr2 hi])
    · simp at hy
      omega
  · refine ⟨-1, X, fun σ Q hC h => ?_, fun σ Q hM h => ?_, hI⟩
    · unfold wX10_most
      have e := hC.1.1
      exact s_hasBoth (fun u w e1 e2 hu hw hne2 => absurd (by subst e1 e2; exact two_n (by omega) (by omega) hne2) hp) (fun z => ⟨fun q => absurd rfl q, fun _ => h σ hC (fun _ _ => rfl)⟩)
    · unfold wX11_most
      rintro m1 rfl
      have hM1 := hM.thr (v := 0)
      exact m_areTwo hM1.1 hI.1.1 (fun u w e1 e2 hu hw hne2 => absurd (by subst e1 e2; exact two_n hu hw hne2) hp) (fun z => ⟨fun q => absurd rfl q, fun _ => h _ hM1 (fun i hi => fr2 hi)⟩)
