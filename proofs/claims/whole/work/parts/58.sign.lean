theorem nI_bv (y : Int32) : y = nI y.toBitVec.toNat := Int32.toBitVec_inj.mp (by show _ = BitVec.ofNat 32 _; simp)
theorem nI_256 : ∀ m, m < 256 → (nI m).toInt = (m : Int) := by decide +kernel
theorem band255 (x : Int) : 0 ≤ band x 255 ∧ band x 255 ≤ 255 := by
  unfold band
  rw [nI_bv (Int32.ofInt x), show Int32.ofInt 255 = nI (2 ^ 8 - 1) from rfl, fa_mask, nI_256 _ (Nat.mod_lt _ (by decide))]
  have := Nat.mod_lt (Int32.ofInt x).toBitVec.toNat (show 2 ^ 8 > 0 by decide)
  omega
theorem i8_all : ∀ m, m < 256 → band (i8 ((m : Nat) : Int)) 255 = (m : Int) := by decide +kernel
theorem i8_small : ∀ m, m < 128 → i8 ((m : Nat) : Int) = (m : Int) := by decide +kernel
theorem i8_255 {v : Int} (h : 0 ≤ v ∧ v ≤ 255) : band (i8 v) 255 = v := by
  have := i8_all v.toNat (by omega)
  rw [show ((v.toNat : Nat) : Int) = v by omega] at this
  exact this
theorem i8_127 {v : Int} (h : 0 ≤ v ∧ v ≤ 127) : i8 v = v := by
  have := i8_small v.toNat (by omega)
  rw [show ((v.toNat : Nat) : Int) = v by omega] at this
  exact this
theorem toi8 (x : Int32) : x.toInt8.toInt32.toInt8 = x.toInt8 := by
  have h := bp_b x
  rw [← fa_byte_low x.toInt8.toInt32, h, fa_byte_low]
theorem sg_low (n : Nat) (hn : n ≤ 24) (x : Int32) : (x >>> (nI n &&& 31)) &&& 255 = (x.toUInt32 >>> ((nI n).toUInt32 &&& Int32.toUInt32 31)).toInt32 &&& 255 := by
  apply b_ext
  intro i hi
  rw [b_and, b_and, b_255]
  by_cases c : i < 8
  · rw [b_sshr n (by omega) x hi, b_ushr n (by omega) x i, if_pos (by omega)]
  · rw [decide_eq_false c, Bool.and_false, Bool.and_false]
theorem sg_i8 (v : Int) (n : Nat) (hn : n ≤ 24) (s : Int) (hs : Int32.ofInt s = nI n) : i8 (i8 (bshr v s)) = i8 (band (bushr v s) 255) := by
  unfold i8 bshr bushr band
  simp only [Int32.ofInt_toInt]
  rw [hs, toi8, show Int32.ofInt 255 = 255 from rfl]
  have e1 := sg_low n hn (Int32.ofInt v)
  rw [← fa_byte_low (Int32.ofInt v >>> (nI n &&& 31)), e1]
def chl (v : Int) : Nat → List Int
  | 0 => []
  | k + 1 => chl v k ++ [band (bushr v (24 - 8 * (k : Int))) 255]
theorem chl_len (v : Int) : ∀ k, (chl v k).length = k
  | 0 => rfl
  | k + 1 => by rw [chl, List.length_append, chl_len v k]; rfl
theorem chl_b (v : Int) : ∀ k, ∀ x ∈ chl v k, 0 ≤ x ∧ x ≤ 255
  | 0 => by intro x hx; simp [chl] at hx
  | k + 1 => by
    intro x hx
    rw [chl, List.mem_append] at hx
    rcases hx with hx | hx
    · exact chl_b v k x hx
    · simp at hx; rw [hx]; exact band255 _
def oSign (v : Int) (X : St) : Int × St := if X.2.2.2.1.length + 4 ≤ 80 then ((X.2.2.2.1.length : Int) + 4, (X.1, X.2.1, X.2.2.1, X.2.2.2.1 ++ chl v 4, X.2.2.2.2)) else (-1, X)
theorem op_sign (v : Int) : OpOK (wX10_sign v) (wX11_sign v) := by
  refine ⟨oSign v, ?_, ?_, ?_⟩
  · intro X σ Q hI hC h
    have hl := hI.2.2.2.1.2
    unfold wX10_sign wX9_append
    rw [hC.2.2.2.1.1, w32_id (by omega) (by omega)]
    refine ⟨fun z => ?_, fun z => ⟨fun _ => ?_, fun z => absurd rfl z⟩⟩
    · have ea : oSign v X = ((X.2.2.2.1.length : Int) + 4, (X.1, X.2.1, X.2.2.1, X.2.2.2.1 ++ chl v 4, X.2.2.2.2)) := by unfold oSign; rw [if_pos (by omega)]
      rw [ea] at h
      unfold wLX9_append_16
      refine lp_for (fun k x τ => x = (v, 24 - 8 * (k : Int)) ∧ CT (X.2.2.2.1 ++ chl v k) τ ∧ ∀ i, i ≠ 5 → i ≠ 6 → τ i = σ i) 4 ?_ ?_ _ _ ⟨rfl, by rw [chl, List.append_nil]; exact hC.2.2.2.1, fun _ _ _ => rfl⟩
      · rintro k hk _ τ ⟨rfl, hT, hF⟩ K hK
        dsimp only [wX9_append_16]
        have e5 : τ 5 1 = ((X.2.2.2.1.length + k : Nat) : Int) := by rw [hT.1, List.length_append, chl_len]
        rw [e5, tn]
        refine ⟨(fun hno => absurd hno (by omega)), fun _ => ⟨by omega, ?_⟩⟩
        rintro _ rfl _ rfl _ rfl
        refine hK _ _ ⟨by rw [w32_id (by omega) (by omega)]; congr 1; omega, ⟨?_, fun j x hj => ?_⟩, fun i a1 a2 => by rw [up2_ne a1, up2_ne a2]; exact hF i a1 a2⟩
        · rw [up2_eq, up2_ne (by omega), e5, w32_id (by omega) (by omega), List.length_append, chl_len]; omega
        · rw [up2_ne (by omega), up2_app]
          rw [chl, ← List.append_assoc] at hj
          rcases getE_app hj with h1 | ⟨h1, h2⟩
          · rw [if_neg (fun z => by
              have := (List.getElem?_eq_some_iff.mp h1).1
              rw [List.length_append, chl_len] at this
              omega)]
            exact hT.2 j x h1
          · rw [List.length_append, chl_len] at h1
            rw [if_pos ⟨rfl, h1⟩, h2]
      · rintro _ τ ⟨rfl, hT, hF⟩ K
        dsimp only [wX9_append_16]
        refine ⟨fun _ => ⟨fun z => absurd z (by decide), fun _ => ?_⟩, (fun hno => absurd hno (by omega))⟩
        have e5 : τ 5 1 = (X.2.2.2.1.length : Int) + 4 := by rw [hT.1, List.length_append, chl_len]; omega
        rw [e5]
        exact h _ ⟨hC.1.fr (fun i a1 a2 => hF i (by omega) (by omega)), hC.2.1.fr (hF 2 (by omega) (by omega)) (fun i a1 a2 => hF i (by omega) (by omega)), hC.2.2.1.fr (by rw [hF 3 (by omega) (by omega)]) (hF 4 (by omega) (by omega)) (fun i a1 a2 => hF i (by omega) (by omega)), hT, hC.2.2.2.2.fr (hF 12 (by omega) (by omega)) (hF 13 (by omega) (by omega))⟩ (fun i hi => hF i (by omega) (by omega))
    · have ea : oSign v X = (-1, X) := by unfold oSign; rw [if_neg (by omega)]
      rw [ea] at h
      exact h _ hC (fun _ _ => rfl)
  · intro X σ Q hI hM h
    have hl := hI.2.2.2.1.2
    unfold wX11_sign
    rintro m1 rfl
    have hM1 := hM.thr (v := 0)
    rw [hM1.2.2.2.1.1, w32_id (by omega) (by omega)]
    refine ⟨fun z => ?_, fun z => ?_⟩
    · have ea : oSign v X = ((X.2.2.2.1.length : Int) + 4, (X.1, X.2.1, X.2.2.1, X.2.2.2.1 ++ chl v 4, X.2.2.2.2)) := by unfold oSign; rw [if_pos (by omega)]
      rw [ea] at h
      unfold wLX11_sign_20
      refine lp_for (fun k x τ => x = (v, 3 - (k : Int)) ∧ MT (X.2.2.2.1 ++ chl v k) τ ∧ (∀ j, j ≠ 2 → τ 300 j = up2 σ 300 5 0 300 j) ∧ ∀ i, i ≠ 300 → i ≠ 302 → τ i = σ i) 4 ?_ ?_ _ _ ⟨rfl, by rw [chl, List.append_nil]; exact hM1.2.2.2.1, fun _ _ => rfl, fun i a1 _ => up2_ne a1⟩
      · rintro k hk _ τ ⟨rfl, hT, hG, hF⟩ K hK
        dsimp only [wX11_sign_20]
        have e5 : τ 300 2 = ((X.2.2.2.1.length + k : Nat) : Int) := by rw [hT.1, List.length_append, chl_len]
        refine ⟨(fun hno => absurd hno (by omega)), fun _ => ?_⟩
        rw [e5, tn]
        rintro _ rfl
        refine ⟨by omega, ?_⟩
        rintro _ rfl _ rfl
        refine hK _ _ ⟨by rw [w32_id (by omega) (by omega)]; congr 1; omega, ⟨?_, fun j x hj => ?_⟩, fun j hj => by rw [up2_ne (by omega), up2_nj hj]; exact hG j hj, fun i a1 a2 => by rw [up2_ne a2, up2_ne a1]; exact hF i a1 a2⟩
        · rw [up2_ne (by omega), up2_eq, w32_id (by omega) (by omega), List.length_append, chl_len]; omega
        · rw [up2_app]
          rw [chl, ← List.append_assoc] at hj
          rcases getE_app hj with h1 | ⟨h1, h2⟩
          · rw [if_neg (fun z => by
              have := (List.getElem?_eq_some_iff.mp h1).1
              rw [List.length_append, chl_len] at this
              omega), up2_ne (by omega)]
            exact hT.2 j x h1
          · rw [List.length_append, chl_len] at h1
            rw [if_pos ⟨rfl, h1⟩, h2, w32_id (by omega) (by omega)]
            have es : 8 * (3 - (k : Int)) = 24 - 8 * (k : Int) := by omega
            rw [es]
            match k, hk with
            | 0, _ => exact sg_i8 v 24 (by omega) _ rfl
            | 1, _ => exact sg_i8 v 16 (by omega) _ rfl
            | 2, _ => exact sg_i8 v 8 (by omega) _ rfl
            | 3, _ => exact sg_i8 v 0 (by omega) _ rfl
      · rintro _ τ ⟨rfl, hT, hG, hF⟩ K
        dsimp only [wX11_sign_20]
        refine ⟨fun _ => ?_, (fun hno => absurd hno (by omega))⟩
        have e5 : τ 300 2 = (X.2.2.2.1.length : Int) + 4 := by rw [hT.1, List.length_append, chl_len]; omega
        rw [e5]
        have g : ∀ i, i ≠ 300 → i ≠ 302 → τ i = up2 σ 300 5 0 i := fun i a1 a2 => by rw [hF i a1 a2, up2_ne a1]
        exact h _ ⟨by unfold MN; rw [g 301 (by omega) (by omega)]; exact hM1.1, hM1.2.1.fr (g 332 (by omega) (by omega)) (g 331 (by omega) (by omega)), hM1.2.2.1.fr (hG 28 (by omega)) (g 327 (by omega) (by omega)), hT, hM1.2.2.2.2.1.fr (hG 4 (by omega)) (g 304 (by omega) (by omega)), by rw [hG 14 (by omega)]; exact hM1.2.2.2.2.2⟩ (fun i hi => hF i (by omega) (by omega))
    · have ea : oSign v X = (-1, X) := by unfold oSign; rw [if_neg (by omega)]
      rw [ea] at h
      exact h _ hM1 (fun i hi => fr2 hi)
  · intro X hI
    unfold oSign
    split
    · refine ⟨hI.1, hI.2.1, hI.2.2.1, ⟨fun x hx => ?_, ?_⟩, hI.2.2.2.2⟩
      · have hx' : x ∈ X.2.2.2.1 ++ chl v 4 := hx
        rw [List.mem_append] at hx'
        exact hx'.elim (hI.2.2.2.1.1 x) (chl_b v 4 x)
      · show (X.2.2.2.1 ++ chl v 4).length ≤ 80
        rw [List.length_append, chl_len]; omega
    · exact hI
