/-! calls: both sides do the same to what is common -/
def COp (w : Mem → (Int → Mem → Prop) → Prop) (o : St → Int × St) : Prop := ∀ (X : St) (σ : Mem) (Q : Int → Mem → Prop), XInv X → CSt X σ → (∀ σ', CSt (o X).2 σ' → (∀ i, 300 ≤ i → σ' i = σ i) → Q (o X).1 σ') → w σ Q
def MOp (w : Mem → (Int → Mem → Prop) → Prop) (o : St → Int × St) : Prop := ∀ (X : St) (σ : Mem) (Q : Int → Mem → Prop), XInv X → MSt X σ → (∀ σ', MSt (o X).2 σ' → (∀ i, i < 300 ∨ i = 340 → σ' i = σ i) → Q (o X).1 σ') → w σ Q
def XOp (o : St → Int × St) : Prop := ∀ X, XInv X → XInv (o X).2
def OpOK (wc wm : Mem → (Int → Mem → Prop) → Prop) : Prop := ∃ o, COp wc o ∧ MOp wm o ∧ XOp o
theorem CSt.all {X : St} {σ σ' : Mem} (h : CSt X σ) (hf : ∀ i, i < 300 → σ' i = σ i) : CSt X σ' := h.fr (fun i _ _ _ hi => hf i hi)
theorem MSt.all {X : St} {σ σ' : Mem} (h : MSt X σ) (hf : ∀ i, 300 ≤ i → σ' i = σ i) : MSt X σ' := h.fr (fun j _ => by rw [hf 300 (by omega)]) (fun i hi => hf i (by omega))
theorem OpOK.use {wc wm : Mem → (Int → Mem → Prop) → Prop} (h : OpOK wc wm) {σ : Mem} (hR : Rel σ) (Qc : Int → Mem → Prop) (k : ∀ (r : Int) (m2 : Mem), (∀ Qm : Int → Mem → Prop, (∀ m4, Rel m4 → Qm r m4) → wm m2 Qm) → Qc r m2) : wc σ Qc := by
  obtain ⟨o, hc, hm, hx⟩ := h
  obtain ⟨X, hI, hC, hM⟩ := hR
  refine hc X σ Qc hI hC (fun σ1 c1 f1 => k _ σ1 (fun Qm hQ => ?_))
  exact hm X σ1 Qm hI (hM.all f1) (fun σ2 m2 f2 => hQ σ2 ⟨(o X).2, hx X hI, c1.all (fun i hi => f2 i (Or.inl hi)), m2⟩)
def rmo (a : Bk → List Int → Act) : St → Int × St := fun X => ((a X.1 X.2.2.2.2).1, remX X (a X.1 X.2.2.2.2))
theorem mem_pushP {P : List Bk} {B C : Bk} (h : C ∈ pushP P B) : C ∈ P ∨ C = B := by
  unfold pushP at h
  rw [List.mem_append] at h
  rcases h with h | h
  · split at h
    · exact Or.inl (List.mem_of_mem_tail h)
    · exact Or.inl h
  · simp at h; exact Or.inr h
theorem xi_push {X : St} (h : XInv X) : ((∀ B ∈ pushP X.2.2.1 X.1, Inv B) ∧ (pushP X.2.2.1 X.1).length ≤ 8) := ⟨fun B hB => (mem_pushP hB).elim (h.2.2.1.1 B) (fun e => e ▸ h.1), pushP_len h.2.2.1.2⟩
theorem xi_rem {X : St} {a : Act} (h : XInv X) (h1 : Inv a.2.1) (h2 : (∀ v ∈ a.2.2, -2147483648 ≤ v ∧ v < 2147483648) ∧ a.2.2.length ≤ 512) : XInv (remX X a) := by
  refine ⟨h1, h.2.1, ?_, h.2.2.2.1, h2⟩
  show ((∀ B ∈ (if a.1 < 0 then X.2.2.1 else pushP X.2.2.1 X.1), Inv B) ∧ (if a.1 < 0 then X.2.2.1 else pushP X.2.2.1 X.1).length ≤ 8)
  split
  · exact h.2.2.1
  · exact xi_push h
theorem cop_rem {w : Mem → (Int → Mem → Prop) → Prop} {a : Bk → List Int → Act} (hw : ∀ B L, Inv B → CAct B L w (a B L)) : COp (fun σ Q => wX1_copyFrom 56 40 σ (fun m1 => (w m1 (fun y3 m2 => (wX10_remembered y3 m2 (fun y5 m4 => Q y5 m4)))))) (rmo a) := fun X σ Q hI hC h => c_rem (hw X.1 X.2.2.2.2 hI.1) hC h
theorem fr2 {σ : Mem} {j : Nat} {v : Int} {i : Nat} (h : i < 300 ∨ i = 340) : up2 σ 300 j v i = σ i := up2_ne (by omega)
/-- x.stocks -/
theorem op_stocks (m v : Int) : OpOK (wX10_stocks m v) (wX11_stocks m v) := by
  refine ⟨rmo (aStock m v), cop_rem (fun B L hI => ca_stock hI.1), ?_, ?_⟩
  · intro X σ Q hI hM h
    unfold wX11_stocks
    rintro m1 rfl
    have hM1 := hM.thr (v := 0)
    refine m_refStock (B := X.1) (L := X.2.2.2.2) hM1.1 hI.1.1 (fun u e hu z1 z2 ea => ⟨fun _ => ?_, (fun hno => absurd hno (by omega))⟩) (fun r hr ea => ⟨(fun hno => absurd hno (by omega)), fun _ => ?_⟩)
    · subst e
      have hN := hI.1.1.1
      refine mo_change hM1 hI.2.2.1.2 (fun σ2 m2 f2 => ?_)
      rw [w32n (129 + u) (by omega) (by omega), tn]
      refine ⟨by omega, ?_⟩
      rintro _ rfl
      refine ⟨by omega, ?_⟩
      rintro _ rfl
      rw [mn_stk m2.1 (by omega)]
      have hb := hI.1.1.2.2.2.1 u (by omega)
      have er : rmo (aStock (u : Int) v) X = (stk X.1 u, (wStk X.1 (up1 (stk X.1) u v), X.2.1, pushP X.2.2.1 X.1, X.2.2.2.1, X.2.2.2.2)) := by
        unfold rmo
        rw [remX_pos ea (by omega), ea]
      rw [er] at h
      exact h _ (m2.now (MN_stk (by omega) m2.1) (fun i hi => up2_ne hi)) (fun i hi => by rw [up2_ne (by omega), f2 i (by omega) (by omega) (by omega), fr2 hi])
    · have er : rmo (aStock m v) X = (r, X) := by
        unfold rmo
        rw [remX_neg ea hr, ea]
      rw [er] at h
      exact h _ hM1 (fun i hi => fr2 hi)
  · intro X hI
    refine xi_rem hI ?_ ?_
    · unfold aStock
      split
      · exact hI.1
      · split
        · exact hI.1
        · rename_i z _
          exact inv_stk hI.1 (by omega) (by omega)
    · unfold aStock
      split
      · exact hI.2.2.2.2
      · split <;> exact hI.2.2.2.2
theorem op_limits (f t v : Int) : OpOK (wX10_limits f t v) (wX11_limits f t v) := by
  refine ⟨rmo (aLimit f t v), cop_rem (fun B L hI => ca_limit hI.1), ?_, ?_⟩
  · intro X σ Q hI hM h
    unfold wX11_limits
    rintro m1 rfl
    have hM1 := hM.thr (v := 0)
    refine m_refLimit (B := X.1) (L := X.2.2.2.2) hM1.1 hI.1.1 (fun u w e1 e2 hu hw hne z1 z2 hh ho ea => ⟨fun _ => ?_, (fun hno => absurd hno (by omega))⟩) (fun r hr ea => ⟨(fun hno => absurd hno (by omega)), fun _ => ?_⟩)
    · subst e1 e2
      have hN := hI.1.1.1
      refine mo_change hM1 hI.2.2.1.2 (fun σ2 m2 f2 => m_limit m2.1 (by omega) (by omega) (m_pair (by omega) (by omega) ?_))
      rw [w32n (1 + (8 * u + w)) (by omega) (by omega), tn]
      refine ⟨by omega, ?_⟩
      rintro _ rfl
      have hb := hI.1.1.2.1 (8 * u + w) (by omega)
      have er : rmo (aLimit (u : Int) (w : Int) v) X = (lim X.1 (8 * u + w), (wLim X.1 (up1 (lim X.1) (8 * u + w) v), X.2.1, pushP X.2.2.1 X.1, X.2.2.2.1, X.2.2.2.2)) := by
        unfold rmo
        rw [remX_pos ea (by omega), ea]
      rw [er] at h
      exact h _ (m2.now (MN_lim (by omega) m2.1) (fun i hi => up2_ne hi)) (fun i hi => by rw [up2_ne (by omega), f2 i (by omega) (by omega) (by omega), fr2 hi])
    · have er : rmo (aLimit f t v) X = (r, X) := by
        unfold rmo
        rw [remX_neg ea hr, ea]
      rw [er] at h
      exact h _ hM1 (fun i hi => fr2 hi)
  · intro X hI
    refine xi_rem hI ?_ ?_
    · unfold aLimit
      split
      · exact hI.1
      · rename_i z
        split
        · exact hI.1
        · split
          · exact hI.1
          · split
            · exact hI.1
            · exact inv_lim hI.1 (by omega) (by omega) (by omega) (by omega) (by omega) (by omega)
    · unfold aLimit
      split
      · exact hI.2.2.2.2
      · split
        · exact hI.2.2.2.2
        · split
          · exact hI.2.2.2.2
          · split <;> exact hI.2.2.2.2
theorem op_lets (a b x : Int) : OpOK (wX10_lets a b x) (wX11_lets a b x) := by
  refine ⟨rmo (aLet a b x), cop_rem (fun B L hI => ca_let hI.1), ?_, ?_⟩
  · intro X σ Q hI hM h
    unfold wX11_lets
    rintro m1 rfl
    have hM1 := hM.thr (v := 0)
    refine m_refLet (B := X.1) (L := X.2.2.2.2) hM1.1 hI.1.1 (fun u v e1 e2 hu hv hne z1 z2 hh ho ea => ⟨fun _ => ?_, (fun hno => absurd hno (by omega))⟩) (fun r hr ea => ⟨(fun hno => absurd hno (by omega)), fun _ => ?_⟩)
    · subst e1 e2
      have hN := hI.1.1.1
      have b1 := hI.1.1.2.2.1 (8 * u + v) (by omega)
      have b2 := hI.1.1.2.2.1 (8 * v + u) (by omega)
      refine mo_change hM1 hI.2.2.1.2 (fun σ2 m2 f2 => m_straight m2.1 (by omega) (by omega) (show -100000 ≤ deb X.1 _ ∧ deb X.1 _ ≤ 100000 by omega) (show -100000 ≤ deb X.1 _ ∧ deb X.1 _ ≤ 100000 by omega) (by omega) (fun σ3 m3 f3 => m_owes m3 (by omega) (by omega) ?_))
      have hb : 0 ≤ owe (wDeb X.1 (pay (deb X.1) v u x)) u v := by unfold owe; omega
      have er : rmo (aLet (u : Int) (v : Int) x) X = (owe (wDeb X.1 (pay (deb X.1) v u x)) u v, (wDeb X.1 (pay (deb X.1) v u x), X.2.1, pushP X.2.2.1 X.1, X.2.2.2.1, X.2.2.2.2)) := by
        unfold rmo
        rw [remX_pos ea (by omega), ea]
      rw [er] at h
      exact h _ (m2.now m3 f3) (fun i hi => by rw [f3 i (by omega), f2 i (by omega) (by omega) (by omega), fr2 hi])
    · have er : rmo (aLet a b x) X = (r, X) := by
        unfold rmo
        rw [remX_neg ea hr, ea]
      rw [er] at h
      exact h _ hM1 (fun i hi => fr2 hi)
  · intro X hI
    refine xi_rem hI ?_ ?_
    · unfold aLet
      split
      · exact hI.1
      · rename_i z
        split
        · exact hI.1
        · split
          · exact hI.1
          · rename_i z1 z2
            have hN := hI.1.1.1
            have hw : two (nN X.1) a b ∧ 1 ≤ x ∧ x ≤ 9999 := by
              by_cases c : two (nN X.1) a b ∧ 1 ≤ x ∧ x ≤ 9999
              · exact c
              · exact absurd c z
            refine inv_pay hI.1 (by omega) (by omega) (by omega) (by omega) ?_
            have l := hI.1.1.2.1 (8 * a.toNat + b.toNat) (by omega)
            have an := hI.1.2.1.1 a.toNat (by omega) b.toNat (by omega)
            unfold rm
            rw [hld_0 hI.1.1 hI.1.2.1 (by omega) (by omega) (by omega)]
            unfold owe at z2
            omega
    · unfold aLet
      split
      · exact hI.2.2.2.2
      · split
        · exact hI.2.2.2.2
        · split <;> exact hI.2.2.2.2
theorem m_frees {X : St} {σ : Mem} {Q : Int → Mem → Prop} {m x : Int} (hI : XInv X) (hM : MSt X σ) (h1 : ∀ (p : Nat) σ', m = p → p < 4 → 0 < hdr X.1 p 2 → MSt (wBP X (if x = 0 then dropB X.1 p else makeB X.1 p) (pushP X.2.2.1 X.1)) σ' → (∀ i, i < 300 ∨ i = 340 → σ' i = σ i) → Q (hdr X.1 p 2) σ') (h0 : ¬ (0 ≤ m ∧ m < 4 ∧ 0 < hdr X.1 m.toNat 2) → Q (-1) σ) : wX11_frees m x σ Q := by
  unfold wX11_frees
  refine m_isHeld hM.1 (fun p e hp hh => ⟨fun _ => ?_, fun z => absurd z (by decide)⟩) (fun z => ⟨fun z => absurd rfl z, fun _ => h0 z⟩)
  subst e
  refine mo_change hM hI.2.2.1.2 (fun σ2 m2 f2 => m_holdAt hp ?_)
  rw [w32n (137 + 67 * p + 2) (by omega) (by omega), tn, mn_hdr m2.1 hp (by omega)]
  refine ⟨by omega, ?_⟩
  rintro _ rfl
  refine m_free (B := X.1) m2.1 hI.1.1 hp (fun σ3 m3 f3 => ?_)
  exact h1 p σ3 rfl hp hh (m2.now m3 f3) (fun i hi => by rw [f3 i (by omega), f2 i (by omega) (by omega) (by omega)])
theorem op_makes (m : Int) : OpOK (wX10_makes m) (wX11_makes m) := by
  refine ⟨rmo (aMake m), cop_rem (fun B L hI => ca_make hI.1 hI.2.1), ?_, ?_⟩
  · intro X σ Q hI hM h
    unfold wX11_makes
    rintro m1 rfl
    have hM1 := hM.thr (v := 0)
    refine m_frees hI hM1 (fun p σ' e hp hh m2 f2 => ?_) (fun z => ?_)
    · subst e
      have er : rmo (aMake (p : Int)) X = (hdr X.1 p 2, (makeB X.1 p, X.2.1, pushP X.2.2.1 X.1, X.2.2.2.1, X.2.2.2.2)) := by
        unfold rmo
        have ea : aMake (p : Int) X.1 X.2.2.2.2 = (hdr X.1 p 2, makeB X.1 p, X.2.2.2.2) := by
          unfold aMake
          rw [if_pos ⟨by omega, by omega, by rw [tn]; exact hh⟩, tn]
        rw [remX_pos ea (by omega), ea]
      rw [er] at h
      rw [if_neg (by decide)] at m2
      exact h _ m2 (fun i hi => by rw [f2 i hi, fr2 hi])
    · have er : rmo (aMake m) X = (-1, X) := by
        unfold rmo
        have ea : aMake m X.1 X.2.2.2.2 = (-1, X.1, X.2.2.2.2) := by unfold aMake; rw [if_neg z]
        rw [remX_neg ea (by omega), ea]
      rw [er] at h
      exact h _ hM1 (fun i hi => fr2 hi)
  · intro X hI
    refine xi_rem hI ?_ ?_
    · unfold aMake
      split
      · exact inv_make hI.1 (by omega)
      · exact hI.1
    · unfold aMake
      split <;> exact hI.2.2.2.2
theorem op_letsGo (m : Int) : OpOK (wX10_letsGo m) (wX11_letsGo m) := by
  refine ⟨rmo (aDrop m), cop_rem (fun B L hI => ca_drop), ?_, ?_⟩
  · intro X σ Q hI hM h
    unfold wX11_letsGo
    rintro m1 rfl
    have hM1 := hM.thr (v := 0)
    refine m_frees hI hM1 (fun p σ' e hp hh m2 f2 => ?_) (fun z => ?_)
    · subst e
      have er : rmo (aDrop (p : Int)) X = (hdr X.1 p 2, (dropB X.1 p, X.2.1, pushP X.2.2.1 X.1, X.2.2.2.1, X.2.2.2.2)) := by
        unfold rmo
        have ea : aDrop (p : Int) X.1 X.2.2.2.2 = (hdr X.1 p 2, dropB X.1 p, X.2.2.2.2) := by
          unfold aDrop
          rw [if_pos ⟨by omega, by omega, by rw [tn]; exact hh⟩, tn]
        rw [remX_pos ea (by omega), ea]
      rw [er] at h
      rw [if_pos rfl] at m2
      exact h _ m2 (fun i hi => by rw [f2 i hi, fr2 hi])
    · have er : rmo (aDrop m) X = (-1, X) := by
        unfold rmo
        have ea : aDrop m X.1 X.2.2.2.2 = (-1, X.1, X.2.2.2.2) := by unfold aDrop; rw [if_neg z]
        rw [remX_neg ea (by omega), ea]
      rw [er] at h
      exact h _ hM1 (fun i hi => fr2 hi)
  · intro X hI
    refine xi_rem hI ?_ ?_
    · unfold aDrop
      split
      · exact inv_drop hI.1 (by omega)
      · exact hI.1
    · unfold aDrop
      split <;> exact hI.2.2.2.2
