section MFAIL
variable {B : Bk} {σ : Mem}
theorem m_lossOf {x m : Nat} {Q : Int → Mem → Prop} (hM : MN σ B) (hI : IvA B) (hx : x < 256) (hm : m < 8) (h : Q (lossB B x m) σ) : wX11_lossOf (m : Int) (x : Int) σ Q := by
  have hN := hI.1
  unfold wX11_lossOf wLX11_lossOf_5
  refine lp_for (fun k y τ => τ = σ ∧ y = ((m : Int), (x : Int), sumTo (fun o => if x.testBit o then owe B o m else 0) k, (k : Int))) (nN B) ?_ ?_ _ _ ⟨rfl, rfl⟩
  · rintro k hk _ _ ⟨rfl, rfl⟩ K hK
    dsimp only [wX11_lossOf_5, wX11_lossOf_38]
    have hb := sumTo_le (f := fun o => if x.testBit o then owe B o m else 0) (n := k) (a := 0) (b := 999) (fun o ho => by
      have := owe_b hI (u := o) (v := m) (by omega) hm
      split <;> omega)
    have ho := owe_b hI (u := k) (v := m) (by omega) hm
    have t := tb1 hx (show k < 8 by omega)
    refine ⟨fun z => absurd z (by rw [hM.1]; omega), fun _ => ⟨fun z => ?_, fun z => m_owes hM (by omega) hm ?_⟩⟩
    · rintro _ rfl _ rfl
      refine hK _ _ ⟨rfl, ?_⟩
      rw [w32_id (by omega) (by omega), w32_id (by omega) (by omega), sumTo_s, if_neg (fun y => z (t.1.mpr y))]
      rfl
    · rintro _ rfl _ rfl
      refine hK _ _ ⟨rfl, ?_⟩
      rw [w32_id (by omega) (by omega), w32_id (by omega) (by omega), sumTo_s, if_pos (t.1.mp z)]
      rfl
  · rintro _ _ ⟨rfl, rfl⟩ K
    dsimp only [wX11_lossOf_5]
    exact ⟨fun _ => h, fun z => absurd z (by rw [hM.1]; omega)⟩
theorem m_lossAll {x y : Nat} {Q : Int → Mem → Prop} (hM : MN σ B) (hI : IvA B) (hx : x < 256) (hy : y < 256) (h : Q (sumTo (fun m => if y.testBit m then lossB B x m else 0) (nN B)) σ) : wX11_lossAll (x : Int) (y : Int) σ Q := by
  have hN := hI.1
  unfold wX11_lossAll wLX11_lossAll_5
  refine lp_for (fun k z τ => τ = σ ∧ z = ((x : Int), (y : Int), sumTo (fun m => if y.testBit m then lossB B x m else 0) k, (k : Int))) (nN B) ?_ ?_ _ _ ⟨rfl, rfl⟩
  · rintro k hk _ _ ⟨rfl, rfl⟩ K hK
    dsimp only [wX11_lossAll_5, wX11_lossAll_38]
    have hb := sumTo_le (f := fun m => if y.testBit m then lossB B x m else 0) (n := k) (a := 0) (b := 7992) (fun o ho => by
      have := lossB_b hI (x := x) (m := o) (by omega)
      split <;> omega)
    have ho := lossB_b hI (x := x) (m := k) (by omega)
    have t := tb1 hy (show k < 8 by omega)
    refine ⟨fun z => absurd z (by rw [hM.1]; omega), fun _ => ⟨fun z => ?_, fun z => m_lossOf hM hI hx (by omega) ?_⟩⟩
    · rintro _ rfl _ rfl
      refine hK _ _ ⟨rfl, ?_⟩
      rw [w32_id (by omega) (by omega), w32_id (by omega) (by omega), sumTo_s, if_neg (fun y => z (t.1.mpr y))]
      rfl
    · rintro _ rfl _ rfl
      refine hK _ _ ⟨rfl, ?_⟩
      rw [w32_id (by omega) (by omega), w32_id (by omega) (by omega), sumTo_s, if_pos (t.1.mp z)]
      rfl
  · rintro _ _ ⟨rfl, rfl⟩ K
    dsimp only [wX11_lossAll_5]
    exact ⟨fun _ => h, fun z => absurd z (by rw [hM.1]; omega)⟩
theorem m_nextFailing {x : Nat} {Q : Int → Mem → Prop} (hM : MN σ B) (hI : IvA B) (hx : x < 256) (h : Q ((nf B x : Nat) : Int) σ) : wX11_nextFailing (x : Int) σ Q := by
  have hN := hI.1
  unfold wX11_nextFailing wLX11_nextFailing_4
  refine lp_for (fun k y τ => τ = σ ∧ y = ((x : Int), ((nfB B x k : Nat) : Int), (k : Int))) (nN B) ?_ ?_ _ _ ⟨rfl, rfl⟩
  · rintro k hk _ _ ⟨rfl, rfl⟩ K hK
    dsimp only [wX11_nextFailing_4, wX11_nextFailing_48, wX11_nextFailing_49]
    have t := tb1 hx (show k < 8 by omega)
    have nb := (nfB_b (B := B) x k (by omega)).1
    have nb2 : nfB B x k < 256 := Nat.lt_of_lt_of_le nb (show 2 ^ k ≤ 2 ^ 8 from Nat.pow_le_pow_right (by decide) (by omega))
    refine ⟨fun z => absurd z (by rw [hM.1]; omega), fun _ => ⟨fun z => ?_, fun z => m_lossOf hM hI hx (by omega) ?_⟩⟩
    · rintro _ rfl _ rfl
      refine hK _ _ ⟨rfl, ?_⟩
      rw [bor_z _ nb2, w32_id (by omega) (by omega), nfB, if_neg (fun y => z (t.2.mpr y.1))]
      rfl
    · rw [w32n (129 + k) (by omega) (by omega), tn, mn_stk hM (by omega)]
      refine ⟨by omega, fun z2 => ?_, fun z2 => ?_⟩
      · rintro _ rfl _ rfl
        refine hK _ _ ⟨rfl, ?_⟩
        rw [bor_z _ nb2, w32_id (by omega) (by omega), nfB, if_neg (fun y => y.2 z2)]
        rfl
      · rintro _ rfl _ rfl
        refine hK _ _ ⟨rfl, ?_⟩
        rw [w32_id (by omega) (by omega), nfB, if_pos ⟨t.2.mp z, z2⟩, bsl_all k (by omega), (bor_nat nb2 (pc_pow k (by omega)).2).1]
        rfl
  · rintro _ _ ⟨rfl, rfl⟩ K
    dsimp only [wX11_nextFailing_4]
    exact ⟨fun _ => h, fun z => absurd z (by rw [hM.1]; omega)⟩
theorem m_failing {m : Nat} {Q : Int → Mem → Prop} (hM : MN σ B) (hI : IvA B) (hm : m < 8) (h : ∀ σ', σ' 300 25 = ((flg B m).2 : Int) → (∀ i, i ≠ 300 → σ' i = σ i) → (∀ j, j ≠ 25 → σ' 300 j = σ 300 j) → Q ((flg B m).1 : Int) σ') : wX11_failing (m : Int) σ Q := by
  have hN := hI.1
  unfold wX11_failing
  rintro m1 e1 _ rfl
  rw [bsl_all m hm]
  have f1 : ∀ i, i ≠ 300 → m1 i = σ i := fun i hi => by rw [e1, up2_ne hi]
  have g1 : ∀ j, j ≠ 25 → m1 300 j = σ 300 j := fun j hj => by rw [e1, up2_nj hj]
  have e25 : m1 300 25 = ((0 : Nat) : Int) := by rw [e1, up2_eq]; rfl
  have hM1 : MN m1 B := by unfold MN; rw [f1 301 (by omega)]; exact hM
  refine m_nextFailing hM1 hI (pc_pow m hm).2 ?_
  clear e1
  unfold wLX11_failing_15
  refine lp_in (I := fun y τ => ∃ x r : Nat, x < 256 ∧ y = ((x : Int), ((nf B x : Nat) : Int)) ∧ τ 300 25 = (r : Int) ∧ r + 1 ≤ pc x ∧ flB B (8 - r) x r = flg B m ∧ (∀ i, i ≠ 300 → τ i = σ i) ∧ (∀ j, j ≠ 25 → τ 300 j = σ 300 j)) (μ := fun _ τ => (8 - τ 300 25).toNat) ?_ _ _ ⟨2 ^ m, 0, (pc_pow m hm).2, rfl, e25, by rw [(pc_pow m hm).1]; decide, rfl, f1, g1⟩
  rintro y τ ⟨x, r, hx, rfl, h1, hr, hf, hF, hG⟩ K hK
  dsimp only [wX11_failing_15]
  have nb := nf_b hI x
  have p8 := pc_8 x hx
  refine ⟨fun z => ?_, fun z => ?_⟩
  · have ef : flg B m = (x, r) := by
      rw [← hf, show 8 - r = (7 - r) + 1 by omega, flB, if_pos (by omega)]
    rw [ef] at h
    exact h τ h1 hF hG
  · rintro _ rfl m3 e3
    have pm := pc_mono hx nb.1 (fun o _ ho => (nb.2 o ho).1) (by omega)
    have pm8 := pc_8 (x ||| nf B x) (bor_nat hx nb.1).2
    have g25 : m3 300 25 = ((r + 1 : Nat) : Int) := by rw [e3, up2_eq, h1, w32_id (by omega) (by omega)]; omega
    have f3 : ∀ i, i ≠ 300 → m3 i = σ i := fun i hi => by rw [e3, up2_ne hi]; exact hF i hi
    have g3 : ∀ j, j ≠ 25 → m3 300 j = σ 300 j := fun j hj => by rw [e3, up2_nj hj]; exact hG j hj
    rw [(bor_nat hx nb.1).1]
    refine m_nextFailing (B := B) (by unfold MN; rw [f3 301 (by omega)]; exact hM) hI (bor_nat hx nb.1).2 ?_
    refine hK _ _ ⟨x ||| nf B x, r + 1, (bor_nat hx nb.1).2, rfl, g25, by omega, ?_, f3, g3⟩ ?_
    · rw [← hf, show 8 - r = (8 - (r + 1)) + 1 by omega, flB, if_neg (by omega)]
    · rw [g25, h1]; omega
end MFAIL
/-! how many bits -/
theorem cb_all : ∀ x, x < 256 → x ≠ 0 → band ((x : Nat) : Int) (w32 (((x : Nat) : Int) - 1)) = ((x &&& (x - 1) : Nat) : Int) ∧ x &&& (x - 1) < x ∧ pc (x &&& (x - 1)) + 1 = pc x := by decide +kernel
theorem m_countBits {x : Nat} {σ : Mem} {Q : Int → Mem → Prop} (hx : x < 256) (h : Q (pc x : Int) σ) : wX11_countBits (x : Int) σ Q := by
  unfold wX11_countBits wLX11_countBits_4
  refine lp_in (I := fun y τ => τ = σ ∧ ∃ z n : Nat, z < 256 ∧ y = ((n : Int), (z : Int)) ∧ n + pc z = pc x) (μ := fun y _ => y.2.toNat) ?_ _ _ ⟨rfl, x, 0, hx, rfl, by omega⟩
  rintro y τ ⟨rfl, z, n, hz, rfl, hn⟩ K hK
  dsimp only [wX11_countBits_4]
  have p8 := pc_8 x hx
  refine ⟨fun e => ?_, fun e => ?_⟩
  · have : z = 0 := by omega
    subst this
    have e0 : pc 0 = 0 := by decide
    rw [show (n : Int) = (pc x : Int) by omega]
    exact h
  · have c := cb_all z hz (by omega)
    rintro _ rfl _ rfl
    rw [c.1, w32n (n + 1) (by omega) (by omega)]
    refine hK _ _ ⟨rfl, z &&& (z - 1), n + 1, by omega, rfl, by omega⟩ ?_
    dsimp only
    omega
def bcF (l0 : Int) : Int :=
  let x1 := w32 (l0 - (band (bushr l0 1) 1431655765))
  let x2 := w32 ((band x1 858993459) + (band (bushr x1 2) 858993459))
  let x3 := band (w32 (x2 + (bushr x2 4))) 252645135
  let x4 := w32 (x3 + (bushr x3 8))
  let x5 := w32 (x4 + (bushr x4 16))
  band x5 63
theorem bcF_all : ∀ x, x < 256 → bcF ((x : Nat) : Int) = (pc x : Int) := by decide +kernel
theorem s_bitCount {x : Nat} {σ : Mem} {Q : Int → Mem → Prop} (hx : x < 256) (h : Q (pc x : Int) σ) : wJ6_bitCount_0f7a4 (x : Int) σ Q := by
  unfold wJ6_bitCount_0f7a4
  rintro _ rfl _ rfl _ rfl _ rfl _ rfl
  have := bcF_all x hx
  rw [← this] at h
  exact h
def ntF4 (l0 l1 : Int) : Int := w32 (l1 + bushr l0 1)
def ntF3 (l0 l1 : Int) : Int := if l0 ≤ 4 then ntF4 l0 l1 else ntF4 (bushr l0 2) (w32 (l1 + 2))
def ntF2 (l0 l1 : Int) : Int := if l0 ≤ 16 then ntF3 l0 l1 else ntF3 (bushr l0 4) (w32 (l1 + 4))
def ntF1 (l0 l1 : Int) : Int := if l0 ≤ 256 then ntF2 l0 l1 else ntF2 (bushr l0 8) (w32 (l1 + 8))
def ntF (l0 : Int) : Int := let x1 := band (bxor l0 (-1)) (w32 (l0 - 1)); if 0 < x1 then (if x1 ≤ 65536 then ntF1 x1 1 else ntF1 (bushr x1 16) (w32 (1 + 16))) else band x1 32
theorem ntF_all : ∀ o : Nat, o < 8 → ntF ((2 ^ o : Nat) : Int) = (o : Int) := by decide +kernel
theorem s_nt4 {l0 l1 : Int} {σ : Mem} {Q : Int → Mem → Prop} (h : Q (ntF4 l0 l1) σ) : wJ6_numberOfTrailingZeros_0f7a4_74 Q l0 l1 σ := h
theorem s_nt3 {l0 l1 : Int} {σ : Mem} {Q : Int → Mem → Prop} (h : Q (ntF3 l0 l1) σ) : wJ6_numberOfTrailingZeros_0f7a4_62 Q l0 l1 σ := by
  unfold wJ6_numberOfTrailingZeros_0f7a4_62
  unfold ntF3 at h
  refine ⟨fun z => s_nt4 (by rw [if_pos z] at h; exact h), fun z => ?_⟩
  rintro _ rfl _ rfl
  exact s_nt4 (by rw [if_neg z] at h; exact h)
theorem s_nt2 {l0 l1 : Int} {σ : Mem} {Q : Int → Mem → Prop} (h : Q (ntF2 l0 l1) σ) : wJ6_numberOfTrailingZeros_0f7a4_49 Q l0 l1 σ := by
  unfold wJ6_numberOfTrailingZeros_0f7a4_49
  unfold ntF2 at h
  refine ⟨fun z => s_nt3 (by rw [if_pos z] at h; exact h), fun z => ?_⟩
  rintro _ rfl _ rfl
  exact s_nt3 (by rw [if_neg z] at h; exact h)
theorem s_nt1 {l0 l1 : Int} {σ : Mem} {Q : Int → Mem → Prop} (h : Q (ntF1 l0 l1) σ) : wJ6_numberOfTrailingZeros_0f7a4_34 Q l0 l1 σ := by
  unfold wJ6_numberOfTrailingZeros_0f7a4_34
  unfold ntF1 at h
  refine ⟨fun z => s_nt2 (by rw [if_pos z] at h; exact h), fun z => ?_⟩
  rintro _ rfl _ rfl
  exact s_nt2 (by rw [if_neg z] at h; exact h)
theorem s_ntz {o : Nat} {σ : Mem} {Q : Int → Mem → Prop} (ho : o < 8) (h : Q (o : Int) σ) : wJ6_numberOfTrailingZeros_0f7a4 ((2 ^ o : Nat) : Int) σ Q := by
  rw [← ntF_all o ho] at h
  generalize ((2 ^ o : Nat) : Int) = l0 at h
  unfold wJ6_numberOfTrailingZeros_0f7a4
  unfold ntF at h
  rintro _ rfl
  refine ⟨fun z => ⟨fun z2 => s_nt1 ?_, fun z2 => ?_⟩, fun z => ?_⟩
  · dsimp only at h; rw [if_pos z, if_pos z2] at h; exact h
  · rintro _ rfl _ rfl
    refine s_nt1 ?_
    dsimp only at h; rw [if_pos z, if_neg z2] at h; exact h
  · dsimp only at h; rw [if_neg z] at h; exact h
/-! the calls -/
def oFails (m : Int) (X : St) : Int × St := if 0 ≤ m ∧ m < (nN X.1 : Int) then (((flg X.1 m.toNat).2 : Int), wL X [((flg X.1 m.toNat).1 : Int), lAll X.1 (flg X.1 m.toNat).1, lRest X.1 (flg X.1 m.toNat).1]) else (-1, X)
theorem tb255 : ∀ o, o < 8 → (255 : Nat).testBit o = true := by decide
theorem rest_all : ∀ x, x < 256 → band 255 (bxor ((x : Nat) : Int) (-1)) = ((255 - x : Nat) : Int) ∧ 255 - x < 256 ∧ ∀ o, o < 8 → (255 - x).testBit o = !x.testBit o := by decide +kernel
theorem op_fails (m : Int) : OpOK (wX10_fails m) (wX11_fails m) := by
  refine ⟨oFails m, ?_, ?_, ?_⟩
  · intro X σ Q hI hC h
    have hN := hI.1.1.1
    have e := hC.1.1
    unfold wX10_fails
    refine s_has (fun u e1 hu => ⟨fun _ => ?_, fun z => absurd z (by decide)⟩) (fun z => ⟨fun z => absurd rfl z, fun _ => ?_⟩)
    · subst e1
      have ea : oFails (u : Int) X = (((flg X.1 u).2 : Int), wL X [((flg X.1 u).1 : Int), lAll X.1 (flg X.1 u).1, lRest X.1 (flg X.1 u).1]) := by unfold oFails; rw [if_pos (by omega), tn]
      rw [ea] at h
      refine s_run (by omega) hC.1 hI.1.1 (by omega) (fun σ1 a0 a1 a2 a3 f1 => ?_)
      have hC1 : CSt X σ1 := hC.fr (fun i b1 b2 b3 b4 => f1 i (by omega))
      rw [a0, a2, a3]
      refine c_tell3 (fun σ2 r2 f2 => ?_)
      rw [f2 36 (by omega) (by omega), a1]
      exact h _ (hC1.row r2 (fun i b1 b2 _ => f2 i b1 b2)) (fun i hi => by rw [f2 i (by omega) (by omega), f1 i (by omega)])
    · have ea : oFails m X = (-1, X) := by unfold oFails; rw [if_neg (by omega)]
      rw [ea] at h
      exact h _ hC (fun _ _ => rfl)
  · intro X σ Q hI hM h
    have hN := hI.1.1.1
    unfold wX11_fails
    rintro m1 rfl
    have hM1 := hM.thr (v := 0)
    refine m_isMember hM1.1 hI.1.1 (fun u e1 hu => ⟨fun _ => ?_, fun z => absurd z (by decide)⟩) (fun z => ⟨fun z => absurd rfl z, fun _ => ?_⟩)
    · subst e1
      have ea : oFails (u : Int) X = (((flg X.1 u).2 : Int), wL X [((flg X.1 u).1 : Int), lAll X.1 (flg X.1 u).1, lRest X.1 (flg X.1 u).1]) := by unfold oFails; rw [if_pos (by omega), tn]
      rw [ea] at h
      have fb := flg_b hI.1.1 (m := u) (by omega)
      refine m_failing hM1.1 hI.1.1 (by omega) (fun σ2 a1 f2 g2 => ?_)
      have hM2 : MSt X σ2 := hM1.fr (fun j hj => g2 j (by omega)) (fun i hi => f2 i (by omega))
      rintro m3 rfl
      refine mo_tell (mo_row0 hM2) (by show 0 < 2400; omega) (fun σ4 m4 f4 g4 => ?_)
      have e1 : (255 : Int) = ((255 : Nat) : Int) := rfl
      rw [e1]
      refine m_lossAll m4.1 hI.1.1 fb.1 (by omega) ?_
      have el : sumTo (fun m => if (255 : Nat).testBit m then lossB X.1 (flg X.1 u).1 m else 0) (nN X.1) = lAll X.1 (flg X.1 u).1 := sumTo_congr (fun i hi => by rw [if_pos (tb255 i (by omega))])
      have el' : sumTo (fun m => if (255 : Nat).testBit m then lossB (wL (wL X []) ([] ++ [((flg X.1 u).1 : Int)])).1 (flg X.1 u).1 m else 0) (nN (wL (wL X []) ([] ++ [((flg X.1 u).1 : Int)])).1) = lAll X.1 (flg X.1 u).1 := el
      rw [el']
      refine mo_tell m4 (by show 1 < 2400; omega) (fun σ5 m5 f5 g5 => ?_)
      have ra := rest_all (flg X.1 u).1 fb.1
      rw [← e1, ra.1]
      refine m_lossAll m5.1 hI.1.1 fb.1 ra.2.1 ?_
      have er : sumTo (fun m => if (255 - (flg X.1 u).1).testBit m then lossB X.1 (flg X.1 u).1 m else 0) (nN X.1) = lRest X.1 (flg X.1 u).1 := sumTo_congr (fun i hi => by
        rw [ra.2.2 i (by omega)]
        cases (flg X.1 u).1.testBit i <;> simp)
      refine mo_tell m5 (by show 2 < 2400; omega) (fun σ6 m6 f6 g6 => ?_)
      have m6' : MSt (wL X [((flg X.1 u).1 : Int), lAll X.1 (flg X.1 u).1, lRest X.1 (flg X.1 u).1]) σ6 := by
        rw [← er]; exact m6
      rw [g6 25 (by omega), g5 25 (by omega), g4 25 (by omega), up2_nj (by omega), a1]
      exact h _ m6' (fun i hi => by rw [f6 i (by omega) (by omega), f5 i (by omega) (by omega), f4 i (by omega) (by omega), fr2 hi, f2 i (by omega), fr2 hi])
    · have ea : oFails m X = (-1, X) := by unfold oFails; rw [if_neg z]
      rw [ea] at h
      exact h _ hM1 (fun i hi => fr2 hi)
  · intro X hI
    have hN := hI.1.1.1
    unfold oFails
    split
    · refine xi_row hI ⟨fun v hv => ?_, by simp⟩
      simp only [List.mem_cons, List.not_mem_nil, or_false] at hv
      have fb := flg_b hI.1.1 (m := m.toNat) (by omega)
      have b1 := lAll_b hI.1.1 (flg X.1 m.toNat).1
      have b2 := lRest_b hI.1.1 (flg X.1 m.toNat).1
      rcases hv with rfl | rfl | rfl <;> omega
    · exact hI
