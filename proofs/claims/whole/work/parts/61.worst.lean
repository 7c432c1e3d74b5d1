def wst (B : Bk) : Nat → Int × Int × Int
  | 0 => (0, -1, 0)
  | m + 1 => if lAll B (flg B m).1 ≤ (wst B m).1 then wst B m else (lAll B (flg B m).1, (m : Int), (pc (flg B m).1 : Int) - 1)
theorem wst_b {B : Bk} (hI : IvA B) : ∀ n, n ≤ nN B → (0 ≤ (wst B n).1 ∧ (wst B n).1 ≤ 63936) ∧ ((wst B n).2.1 = -1 ∨ ∃ u : Nat, u < n ∧ (wst B n).2.1 = (u : Int) ∧ (wst B n).2.2 = (pc (flg B u).1 : Int) - 1)
  | 0, _ => by simp [wst]
  | n + 1, h => by
    have ih := wst_b hI n (by omega)
    have lb := lAll_b hI (flg B n).1
    unfold wst
    split
    · refine ⟨ih.1, ih.2.elim Or.inl (fun ⟨u, a, b⟩ => Or.inr ⟨u, by omega, b⟩)⟩
    · exact ⟨lb, Or.inr ⟨n, by omega, rfl, rfl⟩⟩
def oWorst (X : St) : Int × St := if (wst X.1 (nN X.1)).2.1 = -1 then (-2, X) else ((wst X.1 (nN X.1)).2.1, wL X [(wst X.1 (nN X.1)).1, (wst X.1 (nN X.1)).2.2])
theorem op_worst : OpOK (wX10_worst) (wX11_worst) := by
  refine ⟨oWorst, ?_, ?_, ?_⟩
  · intro X σ Q hI hC h
    have hN := hI.1.1.1
    unfold wX10_worst wLX10_worst_9
    refine lp_for (fun u x τ => (∀ i, i ≠ 36 → τ i = σ i) ∧ x = ((wst X.1 u).1, (wst X.1 u).2.1, (wst X.1 u).2.2, (u : Int))) (nN X.1) ?_ ?_ _ _ ⟨fun _ _ => rfl, rfl⟩
    · rintro u hu _ τ ⟨hF, rfl⟩ K hK
      dsimp only [wX10_worst_9]
      have hCt : CSt X τ := hC.fr (fun i b1 b2 b3 b4 => hF i (by omega))
      have fb := flg_b hI.1.1 (m := u) (by omega)
      refine ⟨fun z => absurd z (by rw [hCt.1.1]; omega), fun _ => s_run (by omega) hCt.1 hI.1.1 (by omega) (fun σ1 a0 a1 a2 a3 f1 => ?_)⟩
      rw [a0, a2]
      refine ⟨fun z => ?_, fun z => ?_⟩
      · rintro _ rfl
        refine hK _ _ ⟨fun i hi => by rw [f1 i hi]; exact hF i hi, ?_⟩
        rw [w32_id (by omega) (by omega), wst, if_pos z]
        rfl
      · rintro _ rfl
        refine s_bitCount fb.1 ?_
        rintro _ rfl _ rfl
        have p8 := pc_8 _ fb.1
        refine hK _ _ ⟨fun i hi => by rw [f1 i hi]; exact hF i hi, ?_⟩
        rw [w32_id (by omega) (by omega), w32_id (by omega) (by omega), wst, if_neg z]
        rfl
    · rintro _ τ ⟨hF, rfl⟩ K
      dsimp only [wX10_worst_9]
      have hCt : CSt X τ := hC.fr (fun i b1 b2 b3 b4 => hF i (by omega))
      refine ⟨fun _ => ⟨fun z => c_tell2 (fun σ1 r1 f1 => ?_), fun z => ?_⟩, fun z => absurd z (by rw [hCt.1.1]; omega)⟩
      · have ea : oWorst X = ((wst X.1 (nN X.1)).2.1, wL X [(wst X.1 (nN X.1)).1, (wst X.1 (nN X.1)).2.2]) := by unfold oWorst; rw [if_neg z]
        rw [ea] at h
        exact h _ (hCt.row r1 (fun i b1 b2 _ => f1 i b1 b2)) (fun i hi => by rw [f1 i (by omega) (by omega), hF i (by omega)])
      · have ea : oWorst X = (-2, X) := by unfold oWorst; rw [if_pos z]
        rw [ea] at h
        exact h _ hCt (fun i hi => hF i (by omega))
  · intro X σ Q hI hM h
    have hN := hI.1.1.1
    unfold wX11_worst
    rintro m1 rfl
    have hM1 := hM.thr (v := 0)
    unfold wLX11_worst_11
    refine lp_for (fun u x τ => (∀ i, i ≠ 300 → τ i = σ i) ∧ (∀ j, j ≠ 25 → τ 300 j = up2 σ 300 5 0 300 j) ∧ x = ((wst X.1 u).2.1, (wst X.1 u).1, (u : Int))) (nN X.1) ?_ ?_ _ _ ⟨fun i hi => up2_ne hi, fun _ _ => rfl, rfl⟩
    · rintro u hu _ τ ⟨hF, hG, rfl⟩ K hK
      dsimp only [wX11_worst_11]
      have hMt : MSt X τ := hM1.fr (fun j hj => hG j (by omega)) (fun i hi => by rw [hF i (by omega), up2_ne (by omega)])
      have fb := flg_b hI.1.1 (m := u) (by omega)
      refine ⟨fun z => absurd z (by rw [hMt.1.1]; omega), fun _ => m_failing hMt.1 hI.1.1 (by omega) (fun σ1 a1 f1 g1 => ?_)⟩
      have hM2 : MN σ1 X.1 := by unfold MN; rw [f1 301 (by omega)]; exact hMt.1
      have e1 : (255 : Int) = ((255 : Nat) : Int) := rfl
      rw [e1]
      refine m_lossAll hM2 hI.1.1 fb.1 (by omega) ?_
      have el : sumTo (fun m => if (255 : Nat).testBit m then lossB X.1 (flg X.1 u).1 m else 0) (nN X.1) = lAll X.1 (flg X.1 u).1 := sumTo_congr (fun i hi => by rw [if_pos (tb255 i (by omega))])
      rw [el]
      refine ⟨fun z => ?_, fun z => ?_⟩
      · rintro _ rfl
        refine hK _ _ ⟨fun i hi => by rw [f1 i hi]; exact hF i hi, fun j hj => by rw [g1 j hj]; exact hG j hj, ?_⟩
        rw [w32_id (by omega) (by omega), wst, if_neg (by omega)]
        rfl
      · rintro _ rfl
        refine hK _ _ ⟨fun i hi => by rw [f1 i hi]; exact hF i hi, fun j hj => by rw [g1 j hj]; exact hG j hj, ?_⟩
        rw [w32_id (by omega) (by omega), wst, if_pos (by omega)]
        rfl
    · rintro _ τ ⟨hF, hG, rfl⟩ K
      dsimp only [wX11_worst_11]
      have hMt : MSt X τ := hM1.fr (fun j hj => hG j (by omega)) (fun i hi => by rw [hF i (by omega), up2_ne (by omega)])
      have wb := wst_b hI.1.1 (nN X.1) (by omega)
      refine ⟨fun _ => ⟨fun z => ?_, fun z => ?_⟩, fun z => absurd z (by rw [hMt.1.1]; omega)⟩
      · have ea : oWorst X = ((wst X.1 (nN X.1)).2.1, wL X [(wst X.1 (nN X.1)).1, (wst X.1 (nN X.1)).2.2]) := by unfold oWorst; rw [if_neg z]
        rw [ea] at h
        rcases wb.2 with w | ⟨u, a1, a2, a3⟩
        · exact absurd w z
        · rintro m2 rfl
          have fb := flg_b hI.1.1 (m := u) (by omega)
          refine mo_tell (mo_row0 hMt) (by show 0 < 2400; omega) (fun σ3 m3 f3 g3 => ?_)
          rw [a2]
          refine m_failing m3.1 hI.1.1 (by omega) (fun σ4 b1 f4 g4 => m_countBits fb.1 ?_)
          have m4 : MSt (wL (wL X []) ([] ++ [(wst X.1 (nN X.1)).1])) σ4 := m3.fr (fun j hj => g4 j (by omega)) (fun i hi => f4 i (by omega))
          have p8 := pc_8 _ fb.1
          have e0 : w32 ((pc (flg X.1 u).1 : Int) - 1) = (wst X.1 (nN X.1)).2.2 := by rw [a3, w32_id (by omega) (by omega)]
          refine mo_tell m4 (by show 1 < 2400; omega) (fun σ5 m5 f5 g5 => ?_)
          have m5' : MSt (wL X [(wst X.1 (nN X.1)).1, (wst X.1 (nN X.1)).2.2]) σ5 := by rw [← e0]; exact m5
          rw [a2] at h
          exact h _ m5' (fun i hi => by rw [f5 i (by omega) (by omega), f4 i (by omega), f3 i (by omega) (by omega), fr2 hi, hF i (by omega)])
      · have ea : oWorst X = (-2, X) := by unfold oWorst; rw [if_pos z]
        rw [ea] at h
        exact h _ hMt (fun i hi => hF i (by omega))
  · intro X hI
    have hN := hI.1.1.1
    have wb := wst_b hI.1.1 (nN X.1) (by omega)
    unfold oWorst
    split
    · exact hI
    · rename_i z
      refine xi_row hI ⟨fun v hv => ?_, by simp⟩
      simp only [List.mem_cons, List.not_mem_nil, or_false] at hv
      rcases wb.2 with w | ⟨u, a1, a2, a3⟩
      · exact absurd w z
      · have fb := flg_b hI.1.1 (m := u) (by omega)
        have p8 := pc_8 _ fb.1
        rcases hv with rfl | rfl <;> omega
def lowb (x : Nat) : Nat := if x.testBit 0 then 0 else if x.testBit 1 then 1 else if x.testBit 2 then 2 else if x.testBit 3 then 3 else if x.testBit 4 then 4 else if x.testBit 5 then 5 else if x.testBit 6 then 6 else 7
theorem lowb_pow : ∀ o, o < 8 → lowb (2 ^ o) = o := by decide
def oEnough (m : Int) (X : St) : Int × St := if ¬ (0 ≤ m ∧ m < (nN X.1 : Int)) then (-1, X) else if nf X.1 (2 ^ m.toNat) = 0 then (-2, X) else if ¬ pc (nf X.1 (2 ^ m.toNat)) ≤ 1 then (-3, X) else ((lowb (nf X.1 (2 ^ m.toNat)) : Int), wL X [lossB X.1 (2 ^ m.toNat) (lowb (nf X.1 (2 ^ m.toNat))) - stk X.1 (lowb (nf X.1 (2 ^ m.toNat)))])
theorem op_enough (m : Int) : OpOK (wX10_enough m) (wX11_enough m) := by
  refine ⟨oEnough m, ?_, ?_, ?_⟩
  · intro X σ Q hI hC h
    have hN := hI.1.1.1
    have e := hC.1.1
    unfold wX10_enough
    refine s_has (fun u e1 hu => ⟨fun _ => ?_, fun z => absurd z (by decide)⟩) (fun z => ⟨fun z => absurd rfl z, fun _ => ?_⟩)
    · subst e1
      rintro _ rfl
      have hp := pc_pow u (by omega)
      rw [bsl_all u (by omega)]
      have nb := nf_b hI.1.1 (2 ^ u)
      refine s_nextToFail hC.1 hI.1.1 hp.2 ⟨fun z => s_bitCount nb.1 ⟨fun z2 => ?_, fun z2 => ?_⟩, fun z => ?_⟩
      · obtain ⟨o, ho, eo⟩ := pc_one _ nb.1 (by omega) (by omega)
        have hoN : o < nN X.1 := (nb.2 o (by rw [eo, tb_pow o ho o ho]; simp)).2
        have ea : oEnough (u : Int) X = ((o : Int), wL X [lossB X.1 (2 ^ u) o - stk X.1 o]) := by
          unfold oEnough
          rw [if_neg (fun t => t (by omega)), tn, if_neg (by omega), if_neg (fun t => t (by omega)), eo, lowb_pow o ho]
        rw [ea] at h
        rw [eo]
        refine s_ntz ho (s_has (fun v ev hv => ⟨fun _ => ?_, fun z => absurd z (by decide)⟩) (fun z => absurd (by omega) z))
        have lb := lossB_b hI.1.1 (x := 2 ^ u) (m := o) ho
        have sb := hI.1.1.2.2.2.1 o ho
        refine s_lossOf hC.1 hI.1.1 hp.2 ho ⟨by omega, ?_⟩
        rw [tn, hC.1.2.2.2.1 o ho, w32_id (by omega) (by omega)]
        exact c_tell1 (fun σ1 r1 f1 => h _ (hC.row r1 (fun i b1 b2 _ => f1 i b1 b2)) (fun i hi => f1 i (by omega) (by omega)))
      · have ea : oEnough (u : Int) X = (-3, X) := by
          unfold oEnough
          rw [if_neg (fun t => t (by omega)), tn, if_neg (by omega), if_pos (by omega)]
        rw [ea] at h
        exact h _ hC (fun _ _ => rfl)
      · have ea : oEnough (u : Int) X = (-2, X) := by
          unfold oEnough
          rw [if_neg (fun t => t (by omega)), tn, if_pos (by omega)]
        rw [ea] at h
        exact h _ hC (fun _ _ => rfl)
    · have ea : oEnough m X = (-1, X) := by unfold oEnough; rw [if_pos (by omega)]
      rw [ea] at h
      exact h _ hC (fun _ _ => rfl)
  · intro X σ Q hI hM h
    have hN := hI.1.1.1
    unfold wX11_enough
    rintro m1 rfl
    have hM1 := hM.thr (v := 0)
    refine m_isMember hM1.1 hI.1.1 (fun u e1 hu => ⟨fun _ => ?_, fun z => absurd z (by decide)⟩) (fun z => ⟨fun z => absurd rfl z, fun _ => ?_⟩)
    · subst e1
      have hp := pc_pow u (by omega)
      rw [bsl_all u (by omega)]
      have nb := nf_b hI.1.1 (2 ^ u)
      refine m_nextFailing hM1.1 hI.1.1 hp.2 ⟨fun z => m_countBits nb.1 ⟨fun z2 => ?_, fun z2 => ?_⟩, fun z => ?_⟩
      · obtain ⟨o, ho, eo⟩ := pc_one _ nb.1 (by omega) (by omega)
        have hoN : o < nN X.1 := (nb.2 o (by rw [eo, tb_pow o ho o ho]; simp)).2
        have ea : oEnough (u : Int) X = ((o : Int), wL X [lossB X.1 (2 ^ u) o - stk X.1 o]) := by
          unfold oEnough
          rw [if_neg (fun t => t (by omega)), tn, if_neg (by omega), if_neg (fun t => t (by omega)), eo, lowb_pow o ho]
        rw [ea] at h
        rw [eo]
        unfold wLX11_enough_43
        refine lp_for (fun k x τ => τ = up2 σ 300 5 0 ∧ x = ((u : Int), ((2 ^ o : Nat) : Int), (k : Int))) o ?_ ?_ _ _ ⟨rfl, rfl⟩
        · rintro k hk _ _ ⟨rfl, rfl⟩ K hK
          dsimp only [wX11_enough_43]
          have t := tb1 (pc_pow o ho).2 (show k < 8 by omega)
          have tf : (2 ^ o).testBit k = false := by rw [tb_pow o ho k (by omega), decide_eq_false (by omega)]
          refine ⟨fun z => absurd (t.2.mpr tf) z, fun _ => ?_⟩
          rintro _ rfl
          exact hK _ _ ⟨rfl, by rw [w32_id (by omega) (by omega)]; rfl⟩
        · rintro _ _ ⟨rfl, rfl⟩ K
          dsimp only [wX11_enough_43]
          have t := tb1 (pc_pow o ho).2 ho
          have tt : (2 ^ o).testBit o = true := by rw [tb_pow o ho o ho]; simp
          refine ⟨fun _ => ?_, fun z => absurd (t.1.mpr tt) (by rw [z]; decide)⟩
          rintro m2 rfl
          have hM2 := mo_row0 hM1
          rw [bsl_all u (by omega)]
          have lb := lossB_b hI.1.1 (x := 2 ^ u) (m := o) ho
          have sb := hI.1.1.2.2.2.1 o ho
          refine m_lossOf hM2.1 hI.1.1 hp.2 ho ?_
          rw [w32n (129 + o) (by omega) (by omega), tn, mn_stk hM2.1 ho]
          refine ⟨by omega, ?_⟩
          have e0 : w32 (lossB (wL X []).1 (2 ^ u) o - stk (wL X []).1 o) = lossB X.1 (2 ^ u) o - stk X.1 o := w32_id (show _ ≤ lossB X.1 (2 ^ u) o - stk X.1 o by omega) (show lossB X.1 (2 ^ u) o - stk X.1 o < _ by omega)
          rw [e0]
          exact mo_tell hM2 (by show 0 < 2400; omega) (fun σ3 m3 f3 g3 => h _ m3 (fun i hi => by rw [f3 i (by omega) (by omega), fr2 hi, fr2 hi]))
      · have ea : oEnough (u : Int) X = (-3, X) := by
          unfold oEnough
          rw [if_neg (fun t => t (by omega)), tn, if_neg (by omega), if_pos (by omega)]
        rw [ea] at h
        exact h _ hM1 (fun i hi => fr2 hi)
      · have ea : oEnough (u : Int) X = (-2, X) := by
          unfold oEnough
          rw [if_neg (fun t => t (by omega)), tn, if_pos (by omega)]
        rw [ea] at h
        exact h _ hM1 (fun i hi => fr2 hi)
    · have ea : oEnough m X = (-1, X) := by unfold oEnough; rw [if_pos (by omega)]
      rw [ea] at h
      exact h _ hM1 (fun i hi => fr2 hi)
  · intro X hI
    have hN := hI.1.1.1
    unfold oEnough
    split
    · exact hI
    · split
      · exact hI
      · split
        · exact hI
        · refine xi_row hI ⟨fun v hv => ?_, by simp⟩
          simp only [List.mem_cons, List.not_mem_nil, or_false] at hv
          have hl : lowb (nf X.1 (2 ^ m.toNat)) < 8 := by
            unfold lowb
            repeat' split
            all_goals omega
          have lb := lossB_b hI.1.1 (x := 2 ^ m.toNat) (m := lowb (nf X.1 (2 ^ m.toNat))) hl
          have sb := hI.1.1.2.2.2.1 _ hl
          rw [hv]
          omega
