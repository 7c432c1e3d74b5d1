def ent (kind f step : Int) (i : Nat) : Int := if kind = 0 then i8 (w32 (f + w32 ((i : Int) * step))) else if kind = 1 then i16 (w32 (f + w32 ((i : Int) * step))) else w32 (f + w32 ((i : Int) * step))
def mOf (u i : Nat) : Nat := if i < u then i else i + 1
def why (B : Bk) (u : Nat) (e : Nat → Int) (i : Nat) : Int := if ¬ mOf u i < nN B then 1 else if ¬ (0 ≤ e i ∧ e i ≤ 999) then 2 else if ¬ owe B (mOf u i) u ≤ e i then 3 else 0
/-- the first place at which g is not 0 -/
def ff (g : Nat → Int) : Nat → Nat → Nat
  | 0, k => k
  | d + 1, k => if g k ≠ 0 then k else ff g d (k + 1)
theorem ff_go {g : Nat → Int} : ∀ (d k j : Nat), k ≤ j → j < k + d → (∀ i, k ≤ i → i < j → g i = 0) → g j ≠ 0 → ff g d k = j
  | 0, k, j, h1, h2, _, _ => absurd h2 (by omega)
  | d + 1, k, j, h1, h2, h3, h4 => by
    unfold ff
    by_cases c : k = j
    · subst c; rw [if_pos h4]
    · rw [if_neg (fun z => z (h3 k (by omega) (by omega)))]
      exact ff_go d (k + 1) j (by omega) (by omega) (fun i a1 a2 => h3 i (by omega) a2) h4
theorem ff_none {g : Nat → Int} : ∀ (d k : Nat), (∀ i, k ≤ i → i < k + d → g i = 0) → ff g d k = k + d
  | 0, k, _ => rfl
  | d + 1, k, h => by
    unfold ff
    rw [if_neg (fun z => z (h k (by omega) (by omega))), ff_none d (k + 1) (fun i a1 a2 => h i (by omega) (by omega))]
    omega
def shl (lm : Nat → Int) (u : Nat) (e : Nat → Int) : Nat → (Nat → Int)
  | 0 => lm
  | k + 1 => up1 (shl lm u e k) (8 * u + mOf u k) (e k)
def shc (lm : Nat → Int) (u : Nat) (e : Nat → Int) : Nat → Int
  | 0 => 0
  | k + 1 => shc lm u e k + (if shl lm u e k (8 * u + mOf u k) = e k then 0 else 1)
theorem shc_b (lm : Nat → Int) (u : Nat) (e : Nat → Int) : ∀ k : Nat, 0 ≤ shc lm u e k ∧ shc lm u e k ≤ (k : Int)
  | 0 => by simp [shc]
  | k + 1 => by
    have := shc_b lm u e k
    unfold shc
    split <;> omega
def oSheet (fr kind n f step : Int) (X : St) : Int × St := if ¬ ((0 ≤ fr ∧ fr < (nN X.1 : Int)) ∧ (0 ≤ kind ∧ kind ≤ 3) ∧ n ≤ 20) then (-1, X) else if heldB X.1 ≠ 0 then (-5, X) else if kind = 3 then (-3, X) else if n < 0 then (-2, X) else if ff (why X.1 fr.toNat (ent kind f step)) n.toNat 0 < n.toNat then (-4, wL X [(ff (why X.1 fr.toNat (ent kind f step)) n.toNat 0 : Int), why X.1 fr.toNat (ent kind f step) (ff (why X.1 fr.toNat (ent kind f step)) n.toNat 0)]) else (shc (lim X.1) fr.toNat (ent kind f step) n.toNat, wB X (wLim X.1 (shl (lim X.1) fr.toNat (ent kind f step) n.toNat)))
theorem s_entry {kind f step : Int} {i : Nat} {σ : Mem} {Q : Int → Mem → Prop} (h : Q (ent kind f step i) σ) : wX10_entryOf kind (w32 (f + w32 ((i : Int) * step))) σ Q := by
  unfold wX10_entryOf
  unfold ent at h
  refine ⟨fun z => ⟨fun z2 => ?_, fun z2 => ?_⟩, fun z => ?_⟩
  · rw [if_neg z, if_neg z2] at h; exact h
  · rw [if_neg z, if_pos z2] at h; exact h
  · rw [if_pos z] at h; exact h
theorem m_entry {kind f step : Int} {i : Nat} {σ : Mem} {Q : Int → Mem → Prop} (h : Q (ent kind f step i) σ) : wX11_entryOf kind f step (i : Int) σ Q := by
  unfold wX11_entryOf
  unfold ent at h
  rintro _ rfl
  refine ⟨fun z => ⟨fun z2 => ?_, fun z2 => ?_⟩, fun z => ?_⟩
  · rw [if_neg z, if_neg z2] at h; exact h
  · rw [if_neg z, if_pos z2] at h; exact h
  · rw [if_pos z] at h; exact h
theorem s_memOf {u i : Nat} {σ : Mem} {Q : Int → Mem → Prop} (hi : i < 1000) (h : Q ((mOf u i : Nat) : Int) σ) : wX10_memberOfEntry (u : Int) (i : Int) σ Q := by
  unfold wX10_memberOfEntry
  unfold mOf at h
  refine ⟨fun z => ?_, fun z => ?_⟩
  · rw [if_neg (by omega)] at h; rw [w32n (i + 1) (by omega) (by omega)]; exact h
  · rw [if_pos (by omega)] at h; exact h
theorem s_fault {B : Bk} {u i : Nat} {e : Nat → Int} {σ : Mem} {Q : Int → Mem → Prop} (hC : CB 40 B σ) (hI : IvA B) (hu : u < nN B) (hi : i < 1000) (h : Q (why B u e i) σ) : wX10_entryFault (u : Int) (i : Int) (e i) σ Q := by
  have hN := hI.1
  have e0 := hC.1
  unfold wX10_entryFault
  unfold why at h
  refine s_memOf hi (s_has (fun v ev hv => ⟨fun _ => ?_, fun z => absurd z (by decide)⟩) (fun z => ⟨fun z => absurd rfl z, fun _ => ?_⟩))
  · rw [if_neg (fun t => t (by omega))] at h
    refine ⟨fun z => ?_, fun z => ⟨fun z2 => s_owed (by omega) (by omega) hC ⟨fun z3 => ?_, fun z3 => ?_⟩, fun z2 => ?_⟩⟩
    · rw [if_pos (fun t => by omega)] at h; exact h
    · rw [if_neg (fun t => t (by omega)), if_neg (fun t => t z3)] at h; exact h
    · rw [if_neg (fun t => t (by omega)), if_pos z3] at h; exact h
    · rw [if_pos (fun t => by omega)] at h; exact h
  · rw [if_pos (fun t => z (by omega))] at h; exact h
theorem m_why {B : Bk} {u i : Nat} {e : Nat → Int} {σ : Mem} {Q : Int → Mem → Prop} (hM : MN σ B) (hI : IvA B) (hu : u < nN B) (h : Q (why B u e i) σ) : wX11_whyNot (u : Int) ((mOf u i : Nat) : Int) (e i) σ Q := by
  have hN := hI.1
  unfold wX11_whyNot
  unfold why at h
  refine m_isMember hM hI (fun v ev hv => ⟨fun _ => m_in (fun z1 z2 => ⟨fun _ => m_owes hM (by omega) (by omega) ⟨fun z3 => ?_, fun z3 => ?_⟩, fun z => absurd z (by decide)⟩) (fun z => ⟨fun z => absurd rfl z, fun _ => ?_⟩), fun z => absurd z (by decide)⟩) (fun z => ⟨fun z => absurd rfl z, fun _ => ?_⟩)
  · rw [if_neg (fun t => t (by omega)), if_neg (fun t => t ⟨z1, z2⟩), if_neg (fun t => t z3)] at h; exact h
  · rw [if_neg (fun t => t (by omega)), if_neg (fun t => t ⟨z1, z2⟩), if_pos z3] at h; exact h
  · rw [if_neg (fun t => t (by omega)), if_pos z] at h; exact h
  · rw [if_pos (fun t => z (by omega))] at h; exact h
theorem why_0 {B : Bk} {u i : Nat} {e : Nat → Int} (h : why B u e i = 0) : mOf u i < nN B ∧ (0 ≤ e i ∧ e i ≤ 999) ∧ owe B (mOf u i) u ≤ e i := by
  unfold why at h
  by_cases c1 : mOf u i < nN B
  · rw [if_neg (fun t => t c1)] at h
    by_cases c2 : 0 ≤ e i ∧ e i ≤ 999
    · rw [if_neg (fun t => t c2)] at h
      by_cases c3 : owe B (mOf u i) u ≤ e i
      · exact ⟨c1, c2, c3⟩
      · rw [if_pos c3] at h; omega
    · rw [if_pos c2] at h; omega
  · rw [if_pos c1] at h; omega
theorem why_b (B : Bk) (u i : Nat) (e : Nat → Int) : 0 ≤ why B u e i ∧ why B u e i ≤ 3 := by
  unfold why
  split
  · omega
  · split
    · omega
    · split <;> omega
theorem mOf_ne (u i : Nat) : mOf u i ≠ u := by unfold mOf; split <;> omega
theorem inv_shl {B : Bk} {u : Nat} {e : Nat → Int} (h : Inv B) (hu : u < nN B) (hh : heldB B = 0) : ∀ k, (∀ i, i < k → why B u e i = 0) → Inv (wLim B (shl (lim B) u e k))
  | 0, _ => h
  | k + 1, hw => by
    have ih := inv_shl h hu hh k (fun i hi => hw i (by omega))
    have w := why_0 (hw k (by omega))
    exact inv_lim (B := wLim B (shl (lim B) u e k)) ih hu w.1 (fun z => mOf_ne u k z.symm) w.2.1 hh w.2.2
theorem op_sheet (fr kind n f step : Int) : OpOK (wX10_sheet fr kind n f step) (wX11_sheet fr kind n f step) := by
  refine ⟨oSheet fr kind n f step, ?_, ?_, ?_⟩
  · intro X σ Q hI hC h
    have hN := hI.1.1.1
    have e0 := hC.1.1
    have neg1 : ¬ ((0 ≤ fr ∧ fr < (nN X.1 : Int)) ∧ (0 ≤ kind ∧ kind ≤ 3) ∧ n ≤ 20) → Q (-1) σ := fun z => by
      have ea : oSheet fr kind n f step X = (-1, X) := by unfold oSheet; rw [if_pos z]
      rw [ea] at h
      exact h _ hC (fun _ _ => rfl)
    unfold wX10_sheet
    refine s_has (fun u e1 hu => ⟨fun z => absurd z (by decide), fun _ => ⟨fun z => neg1 (by omega), fun z => ⟨fun z2 => neg1 (by omega), fun z2 => ⟨fun z3 => s_holdsAny hC.1 (fun hh => ⟨fun z => absurd z (by decide), fun _ => ?_⟩) (fun hh => ⟨fun _ => ⟨fun z4 => ⟨fun z5 => ?_, fun z5 => ?_⟩, fun z4 => ?_⟩, fun z => absurd rfl z⟩), fun z3 => neg1 (by omega)⟩⟩⟩⟩) (fun z => ⟨fun _ => neg1 (by omega), fun z => absurd rfl z⟩)
    · have ea : oSheet fr kind n f step X = (-5, X) := by unfold oSheet; rw [if_neg (fun t => t (by omega)), if_pos hh]
      rw [ea] at h
      exact h _ hC (fun _ _ => rfl)
    · subst e1
      obtain ⟨nn, rfl⟩ : ∃ nn : Nat, n = (nn : Int) := ⟨n.toNat, by omega⟩
      have ea : oSheet (u : Int) kind (nn : Int) f step X = if ff (why X.1 u (ent kind f step)) nn 0 < nn then (-4, wL X [(ff (why X.1 u (ent kind f step)) nn 0 : Int), why X.1 u (ent kind f step) (ff (why X.1 u (ent kind f step)) nn 0)]) else (shc (lim X.1) u (ent kind f step) nn, wB X (wLim X.1 (shl (lim X.1) u (ent kind f step) nn))) := by
        unfold oSheet
        rw [if_neg (fun t => t (by omega)), if_neg (fun t => t hh), if_neg z4, if_neg (by omega), tn, tn]
      rw [ea] at h
      unfold wLX10_sheet_59
      refine lp_for (fun k x τ => τ = σ ∧ x = ((u : Int), kind, (nn : Int), f, step, (k : Int)) ∧ ∀ i, i < k → why X.1 u (ent kind f step) i = 0) nn ?_ ?_ _ _ ⟨rfl, rfl, fun i hi => absurd hi (by omega)⟩
      · rintro k hk _ τ ⟨rfl, rfl, hw⟩ K hK
        dsimp only [wX10_sheet_59]
        refine ⟨(fun hno => absurd hno (by omega)), fun _ => s_entry (s_fault hC.1 hI.1.1 (by omega) (by omega) ⟨fun y => ?_, fun y => c_tell2 (fun σ1 r1 f1 => ?_)⟩)⟩
        · rintro _ rfl
          refine hK _ _ ⟨rfl, by rw [w32_id (by omega) (by omega)]; rfl, fun i hi => ?_⟩
          by_cases c : i = k
          · rw [c]; exact y
          · exact hw i (by omega)
        · have ek : ff (why X.1 u (ent kind f step)) nn 0 = k := ff_go nn 0 k (by omega) (by omega) (fun i _ a2 => hw i a2) y
          rw [ek, if_pos hk] at h
          exact h _ (hC.row r1 (fun i a1 a2 _ => f1 i a1 a2)) (fun i hi => f1 i (by omega) (by omega))
      · rintro _ τ ⟨rfl, rfl, hw⟩ K
        dsimp only [wX10_sheet_59]
        refine ⟨fun _ => ?_, (fun hno => absurd hno (by omega))⟩
        have ek : ff (why X.1 u (ent kind f step)) nn 0 = nn := by
          rw [ff_none nn 0 (fun i _ a2 => hw i (by omega))]; omega
        rw [ek, if_neg (by omega)] at h
        unfold wLX10_sheet_119
        refine lp_for (fun k x ρ => x = ((u : Int), kind, (nn : Int), f, step, shc (lim X.1) u (ent kind f step) k, (k : Int)) ∧ CB 40 (wLim X.1 (shl (lim X.1) u (ent kind f step) k)) ρ ∧ ∀ i, ¬ (40 ≤ i ∧ i < 53) → ρ i = τ i) nn ?_ ?_ _ _ ⟨rfl, hC.1, fun _ _ => rfl⟩
        · rintro k hk _ ρ ⟨rfl, hT, hF⟩ K2 hK2
          dsimp only [wX10_sheet_119]
          have w := why_0 (hw k hk)
          have sb := shc_b (lim X.1) u (ent kind f step) k
          refine ⟨(fun hno => absurd hno (by omega)), fun _ => s_memOf (by omega) (s_at (by omega) (by omega) (s_entry ⟨rg64 (by omega) (by omega), ?_⟩))⟩
          have el : ρ (40 + 1) (8 * u + mOf u k) = shl (lim X.1) u (ent kind f step) k (8 * u + mOf u k) := hT.2.1 _ (by omega)
          rw [tn, el]
          refine ⟨fun y => ?_, fun y => ⟨rg64 (by omega) (by omega), ?_⟩⟩
          · rintro _ rfl
            refine hK2 _ _ ⟨?_, ?_, hF⟩
            · rw [w32_id (by omega) (by omega), shc, if_pos y, Int.add_zero]; rfl
            · refine CB_lim (B := X.1) hT (fun i hi => ?_)
              show _ = up1 (shl (lim X.1) u (ent kind f step) k) (8 * u + mOf u k) (ent kind f step k) i
              unfold up1
              by_cases c : i = 8 * u + mOf u k
              · rw [if_pos c, c]; exact y
              · rw [if_neg c]
          · rintro _ rfl _ rfl _ rfl
            refine hK2 _ _ ⟨?_, ?_, fun i hi => by rw [up2_ne (by omega)]; exact hF i hi⟩
            · rw [w32_id (by omega) (by omega), w32_id (by omega) (by omega), shc, if_neg y]; rfl
            · exact CB_lim1 (by omega) hT
        · rintro _ ρ ⟨rfl, hT, hF⟩ K2
          dsimp only [wX10_sheet_119]
          exact ⟨fun _ => h _ (hC.bk hT (fun i a1 _ => hF i a1)) (fun i hi => hF i (by omega)), (fun hno => absurd hno (by omega))⟩
    · have ea : oSheet fr kind n f step X = (-2, X) := by unfold oSheet; rw [if_neg (fun t => t (by omega)), if_neg (fun t => t hh), if_neg z4, if_pos (by omega)]
      rw [ea] at h
      exact h _ hC (fun _ _ => rfl)
    · have ea : oSheet fr kind n f step X = (-3, X) := by unfold oSheet; rw [if_neg (fun t => t (by omega)), if_neg (fun t => t hh), if_pos z4]
      rw [ea] at h
      exact h _ hC (fun _ _ => rfl)
  · intro X σ Q hI hM h
    have hN := hI.1.1.1
    unfold wX11_sheet
    rintro m1 rfl
    have hM1 := hM.thr (v := 0)
    have neg1 : ¬ ((0 ≤ fr ∧ fr < (nN X.1 : Int)) ∧ (0 ≤ kind ∧ kind ≤ 3) ∧ n ≤ 20) → Q (-1) (up2 σ 300 5 0) := fun z => by
      have ea : oSheet fr kind n f step X = (-1, X) := by unfold oSheet; rw [if_pos z]
      rw [ea] at h
      exact h _ hM1 (fun i hi => fr2 hi)
    refine m_isMember hM1.1 hI.1.1 (fun u e1 hu => ⟨fun z => absurd z (by decide), fun _ => m_in (fun z z2 => ⟨fun z => absurd z (by decide), fun _ => ⟨fun z3 => m_heldBits hM1.1 ⟨fun hh => ⟨fun z4 => ⟨fun z5 => ?_, fun z5 => ?_⟩, fun z4 => ?_⟩, fun hh => ?_⟩, fun z3 => neg1 (by omega)⟩⟩) (fun z => ⟨fun _ => neg1 (by omega), fun z => absurd rfl z⟩)⟩) (fun z => ⟨fun _ => neg1 (by omega), fun z => absurd rfl z⟩)
    · subst e1
      obtain ⟨nn, rfl⟩ : ∃ nn : Nat, n = (nn : Int) := ⟨n.toNat, by omega⟩
      have ea : oSheet (u : Int) kind (nn : Int) f step X = if ff (why X.1 u (ent kind f step)) nn 0 < nn then (-4, wL X [(ff (why X.1 u (ent kind f step)) nn 0 : Int), why X.1 u (ent kind f step) (ff (why X.1 u (ent kind f step)) nn 0)]) else (shc (lim X.1) u (ent kind f step) nn, wB X (wLim X.1 (shl (lim X.1) u (ent kind f step) nn))) := by
        unfold oSheet
        rw [if_neg (fun t => t (by omega)), if_neg (fun t => t hh), if_neg z4, if_neg (by omega), tn, tn]
      rw [ea] at h
      unfold wLX11_sheet_58
      refine lp_for (fun k x τ => τ = up2 σ 300 5 0 ∧ x = ((u : Int), kind, (nn : Int), f, step, (k : Int)) ∧ ∀ i, i < k → why X.1 u (ent kind f step) i = 0) nn ?_ ?_ _ _ ⟨rfl, rfl, fun i hi => absurd hi (by omega)⟩
      · rintro k hk _ _ ⟨rfl, rfl, hw⟩ K hK
        dsimp only [wX11_sheet_58, wX11_sheet_81]
        have body : ∀ s0 : Int, s0 = ((mOf u k : Nat) : Int) → (wX11_entryOf kind f step (k : Int) (up2 σ 300 5 0) (fun y2 m1 => (wX11_whyNot (u : Int) s0 y2 m1 (fun y4 m3 => ((¬ y4 = 0 → (∀ m5 : Mem, m5 = up2 m3 300 4 0 → (wX11_tell (k : Int) m5 (fun m6 => (wX11_tell y4 m6 (fun m7 => Q ((-4)) m7)))))) ∧ (y4 = 0 → (∀ x8 : Int, x8 = w32 ((k : Int) + 1) → K ((u : Int), kind, (nn : Int), f, step, x8) m3))))))) := by
          rintro s0 rfl
          refine m_entry (m_why hM1.1 hI.1.1 hu ⟨fun y => ?_, fun y => ?_⟩)
          · rintro m5 rfl
            refine mo_tell (mo_row0 hM1) (by show 0 < 2400; omega) (fun σ3 m3 f3 g3 => mo_tell m3 (by show 1 < 2400; omega) (fun σ4 m4 f4 g4 => ?_))
            have ek : ff (why X.1 u (ent kind f step)) nn 0 = k := ff_go nn 0 k (by omega) (by omega) (fun i _ a2 => hw i a2) y
            rw [ek, if_pos hk] at h
            exact h _ m4 (fun i hi => by rw [f4 i (by omega) (by omega), f3 i (by omega) (by omega), fr2 hi, fr2 hi])
          · rintro _ rfl
            refine hK _ _ ⟨rfl, by rw [w32_id (by omega) (by omega)]; rfl, fun i hi => ?_⟩
            by_cases c : i = k
            · rw [c]; exact y
            · exact hw i (by omega)
        refine ⟨(fun hno => absurd hno (by omega)), fun _ => ⟨fun y => body _ ?_, fun y => body _ ?_⟩⟩
        · unfold mOf; rw [if_neg (by omega), w32n (k + 1) (by omega) (by omega)]
        · unfold mOf; rw [if_pos (by omega)]
      · rintro _ _ ⟨rfl, rfl, hw⟩ K
        dsimp only [wX11_sheet_58]
        refine ⟨fun _ => ?_, (fun hno => absurd hno (by omega))⟩
        have ek : ff (why X.1 u (ent kind f step)) nn 0 = nn := by
          rw [ff_none nn 0 (fun i _ a2 => hw i (by omega))]; omega
        rw [ek, if_neg (by omega)] at h
        unfold wLX11_sheet_138
        refine lp_for (fun k x ρ => x = ((u : Int), kind, (nn : Int), f, step, shc (lim X.1) u (ent kind f step) k, (k : Int)) ∧ MN ρ (wLim X.1 (shl (lim X.1) u (ent kind f step) k)) ∧ ∀ i, i ≠ 301 → ρ i = up2 σ 300 5 0 i) nn ?_ ?_ _ _ ⟨rfl, hM1.1, fun _ _ => rfl⟩
        · rintro k hk _ ρ ⟨rfl, hT, hF⟩ K2 hK2
          dsimp only [wX11_sheet_138]
          have w := why_0 (hw k hk)
          have sb := shc_b (lim X.1) u (ent kind f step) k
          have el : ρ 301 (1 + (8 * u + mOf u k)) = shl (lim X.1) u (ent kind f step) k (8 * u + mOf u k) := mn_lim hT (by omega)
          have fin : ∀ s0 : Int, s0 = (if shl (lim X.1) u (ent kind f step) k (8 * u + mOf u k) = ent kind f step k then 0 else 1) → ∀ x1, x1 = w32 (shc (lim X.1) u (ent kind f step) k + s0) → ((0 ≤ ((1 + (8 * u + mOf u k) : Nat) : Int) ∧ ((1 + (8 * u + mOf u k) : Nat) : Int) < 405) ∧ (∀ m2 : Mem, m2 = up2 ρ 301 (((1 + (8 * u + mOf u k) : Nat) : Int)).toNat (ent kind f step k) → (∀ x3 : Int, x3 = w32 ((k : Int) + 1) → K2 ((u : Int), kind, (nn : Int), f, step, x1, x3) m2))) := by
            rintro s0 e1 x1 rfl
            refine ⟨by omega, ?_⟩
            rintro _ rfl _ rfl
            rw [tn]
            refine hK2 _ _ ⟨?_, MN_lim (by omega) hT, fun i hi => by rw [up2_ne hi]; exact hF i hi⟩
            have hs : 0 ≤ s0 ∧ s0 ≤ 1 := by rw [e1]; split <;> omega
            rw [w32_id (by omega) (by omega), w32_id (by omega) (by omega), shc, e1]; rfl
          have body : ∀ s0 : Int, s0 = ((mOf u k : Nat) : Int) → wX11_sheet_161 K2 Q (u : Int) kind (nn : Int) f step (shc (lim X.1) u (ent kind f step) k) (k : Int) s0 (u : Int) 1 ρ := by
            dsimp only [wX11_sheet_161, wX11_sheet_198]
            rintro s0 rfl
            refine m_pair (by omega) (by omega) ?_
            rintro x3 e3
            rw [w32n (1 + (8 * u + mOf u k)) (by omega) (by omega)] at e3
            subst e3
            refine m_entry ⟨by omega, ?_⟩
            rw [tn, el]
            refine ⟨fun y => ?_, fun y => ?_⟩
            · have := fin 0 (by rw [if_pos y])
              rw [tn] at this
              exact this
            · have := fin 1 (by rw [if_neg y])
              rw [tn] at this
              exact this
          refine ⟨(fun hno => absurd hno (by omega)), fun _ => ⟨fun y => body _ ?_, fun y => body _ ?_⟩⟩
          · unfold mOf; rw [if_neg (by omega), w32n (k + 1) (by omega) (by omega)]
          · unfold mOf; rw [if_pos (by omega)]
        · rintro _ ρ ⟨rfl, hT, hF⟩ K2
          dsimp only [wX11_sheet_138]
          exact ⟨fun _ => h _ (hM1.now hT hF) (fun i hi => by rw [hF i (by omega), fr2 hi]), (fun hno => absurd hno (by omega))⟩
    · have ea : oSheet fr kind n f step X = (-2, X) := by unfold oSheet; rw [if_neg (fun t => t (by omega)), if_neg (fun t => t hh), if_neg z4, if_pos (by omega)]
      rw [ea] at h
      exact h _ hM1 (fun i hi => fr2 hi)
    · have ea : oSheet fr kind n f step X = (-3, X) := by unfold oSheet; rw [if_neg (fun t => t (by omega)), if_neg (fun t => t hh), if_pos z4]
      rw [ea] at h
      exact h _ hM1 (fun i hi => fr2 hi)
    · have ea : oSheet fr kind n f step X = (-5, X) := by unfold oSheet; rw [if_neg (fun t => t (by omega)), if_pos hh]
      rw [ea] at h
      exact h _ hM1 (fun i hi => fr2 hi)
  · intro X hI
    unfold oSheet
    split
    · exact hI
    · split
      · exact hI
      · split
        · exact hI
        · split
          · exact hI
          · split
            · rename_i z1 z2 z3 z4 z5
              refine xi_row hI ⟨fun v hv => ?_, by simp⟩
              simp only [List.mem_cons, List.not_mem_nil, or_false] at hv
              rcases hv with rfl | rfl
              · omega
              · have := why_b X.1 fr.toNat (ff (why X.1 fr.toNat (ent kind f step)) n.toNat 0) (ent kind f step)
                omega
            · rename_i z1 z2 z3 z4 z5
              refine ⟨inv_shl hI.1 (by omega) (by omega) _ (fun i hi => ?_), hI.2.1, hI.2.2.1, hI.2.2.2⟩
              by_cases c : ∀ i, i < n.toNat → why X.1 fr.toNat (ent kind f step) i = 0
              · exact c i hi
              · exfalso
                have key : ∀ m, m ≤ n.toNat → ∀ i, i < m → why X.1 fr.toNat (ent kind f step) i = 0 := by
                  intro m
                  induction m with
                  | zero => intro _ i hi; omega
                  | succ m ih =>
                    intro hm i hi
                    by_cases c2 : i = m
                    · subst c2
                      by_cases c3 : why X.1 fr.toNat (ent kind f step) i = 0
                      · exact c3
                      · have := ff_go n.toNat 0 i (by omega) (by omega) (fun j _ a2 => ih (by omega) j a2) c3
                        omega
                    · exact ih (by omega) i (by omega)
                exact c (key n.toNat (by omega))
