def sxI (j : Nat) : Int := (sxB.getD j 0).toInt
section GROWS5
variable {E : TE} {cc : ByteArray} {nL : Nat} {own : String} {fr lo : Nat} {σ : Mem} {pc : Nat} {lv lv' : List (Nat × AV)} {st stk : List AV}
variable {y : MethodName} {cc2 : ByteArray} {nL2 : Nat} {ret : Option FieldType} {fr2 lo2 : Nat} {index : Nat}
theorem g_ldcS (hd : decode cc pc = .ok (.ldc_w 329, 3)) (ho : own = "TrustClubModel") (k : GW E cc nL own fr lo σ (pc + 3) lv (vR 400 :: st)) : GW E cc nL own fr lo σ pc lv st := by
  obtain ⟨p, l, e, R, s, m, args, below, meth, c, Q, D, cy, ad, A, k0, n0⟩ := E
  intro H locs ls F I
  have I0 := I
  obtain ⟨hm, hlv, hst, hP, hS, hl⟩ := I
  obtain ⟨hx, hb, hml, hown, hts, hK, hN, hap, hAi, hA, hfr, hlo⟩ := id F
  obtain ⟨a1, a2, a3, s1, s2, s3, s4, s5, s6, s7, s8⟩ := hN.2.1
  have s0 := s1.1 0 (by decide)
  intro T hT X
  obtain ⟨t, q1, q2⟩ := k H locs ls F ⟨hm, hlv, okv_c trivial hst, hP, hS, hl⟩ T hT X
  rw [ho] at hown
  exact ⟨t, X.ldcStringW hx hown (text := "pwlfshmgk") (a := ad 400) s2.1 s2.2 (g := F0 m pc ls (st.map (mkv ad))) rfl (by rw [hb]; exact hd) t q1, q2⟩
theorem g_strV (hw : Cond.fieldLink own 9 "java/lang/String" "value" "[B" ∈ gtw) (hd : decode cc pc = .ok (.getfield 9, 3)) (k : GW E cc nL own fr lo σ (pc + 3) lv (vR 401 :: st)) : GW E cc nL own fr lo σ pc lv (vR 400 :: st) := by
  obtain ⟨p, l, e, R, s, m, args, below, meth, c, Q, D, cy, ad, A, k0, n0⟩ := E
  intro H locs ls F I
  have I0 := I
  obtain ⟨hm, hlv, hst, hP, hS, hl⟩ := I
  obtain ⟨hx, hb, hml, hown, hts, hK, hN, hap, hAi, hA, hfr, hlo⟩ := id F
  obtain ⟨a1, a2, a3, s1, s2, s3, s4, s5, s6, s7, s8⟩ := hN.2.1
  have s0 := s1.1 0 (by decide)
  exact vk_getf hx hb s0.2.2.1 hS hown (hts _ hw) (fun _ h => h) hd (k H locs ls F ⟨hm, hlv, okv_c trivial (okv_t hst), hP, hS, hl⟩)
theorem g_strC (hw : Cond.fieldLink own 15 "java/lang/String" "coder" "B" ∈ gtw) (hd : decode cc pc = .ok (.getfield 15, 3)) (k : GW E cc nL own fr lo σ (pc + 3) lv (vI 0 :: st)) : GW E cc nL own fr lo σ pc lv (vR 400 :: st) := by
  obtain ⟨p, l, e, R, s, m, args, below, meth, c, Q, D, cy, ad, A, k0, n0⟩ := E
  intro H locs ls F I
  have I0 := I
  obtain ⟨hm, hlv, hst, hP, hS, hl⟩ := I
  obtain ⟨hx, hb, hml, hown, hts, hK, hN, hap, hAi, hA, hfr, hlo⟩ := id F
  obtain ⟨a1, a2, a3, s1, s2, s3, s4, s5, s6, s7, s8⟩ := hN.2.1
  have s0 := s1.1 0 (by decide)
  exact vk_getf hx hb s0.2.1 hS hown (hts _ hw) (fun _ h => h) hd (k H locs ls F ⟨hm, hlv, okv_c inI_0 (okv_t hst), hP, hS, hl⟩)
theorem g_strS (hw : Cond.fieldLink own 38 "java/lang/String" "COMPACT_STRINGS" "Z" ∈ gtw) (hd : decode cc pc = .ok (.getstatic 38, 3)) (k : GW E cc nL own fr lo σ (pc + 3) lv (vI 1 :: st)) : GW E cc nL own fr lo σ pc lv st := by
  obtain ⟨p, l, e, R, s, m, args, below, meth, c, Q, D, cy, ad, A, k0, n0⟩ := E
  intro H locs ls F I
  have I0 := I
  obtain ⟨hm, hlv, hst, hP, hS, hl⟩ := I
  obtain ⟨hx, hb, hml, hown, hts, hK, hN, hap, hAi, hA, hfr, hlo⟩ := id F
  obtain ⟨a1, a2, a3, s1, s2, s3, s4, s5, s6, s7, s8⟩ := hN.2.1
  have s0 := s1.1 0 (by decide)
  exact va_gets hx hb s6 hS hown (hts _ hw) (fun _ h => h) hd (k H locs ls F ⟨hm, hlv, okv_c (show inI 1 by decide) hst, hP, hS, hl⟩)
theorem g_strL (hd : decode cc pc = .ok (.arraylength, 1)) (k : GW E cc nL own fr lo σ (pc + 1) lv (vI 9 :: st)) : GW E cc nL own fr lo σ pc lv (vR 401 :: st) := by
  obtain ⟨p, l, e, R, s, m, args, below, meth, c, Q, D, cy, ad, A, k0, n0⟩ := E
  intro H locs ls F I
  have I0 := I
  obtain ⟨hm, hlv, hst, hP, hS, hl⟩ := I
  obtain ⟨hx, hb, hml, hown, hts, hK, hN, hap, hAi, hA, hfr, hlo⟩ := id F
  obtain ⟨a1, a2, a3, s1, s2, s3, s4, s5, s6, s7, s8⟩ := hN.2.1
  have s0 := s1.1 0 (by decide)
  exact va_tlen hx hb (ty := .byte) s0.2.2.2 hS (v := 9) rfl hd (k H locs ls F ⟨hm, hlv, okv_c (show inI 9 by decide) (okv_t hst), hP, hS, hl⟩)
theorem g_strB {a : Int} (hin : 0 ≤ a ∧ a < 9) (hd : decode cc pc = .ok (.baload, 1)) (k : GW E cc nL own fr lo σ (pc + 1) lv (vI (sxI a.toNat) :: st)) : GW E cc nL own fr lo σ pc lv (vI a :: vR 401 :: st) := by
  obtain ⟨p, l, e, R, s, m, args, below, meth, c, Q, D, cy, ad, A, k0, n0⟩ := E
  intro H locs ls F I
  have I0 := I
  obtain ⟨hm, hlv, hst, hP, hS, hl⟩ := I
  obtain ⟨hx, hb, hml, hown, hts, hK, hN, hap, hAi, hA, hfr, hlo⟩ := id F
  obtain ⟨a1, a2, a3, s1, s2, s3, s4, s5, s6, s7, s8⟩ := hN.2.1
  have s0 := s1.1 0 (by decide)
  have h := k H locs ls F ⟨hm, hlv, okv_c (inI_t _) (okv_t (okv_t hst)), hP, hS, hl⟩
  rw [List.map_cons, show mkv ad (vI (sxI a.toNat)) = .int (Int32.ofInt (sxI a.toNat)) from rfl, sxI, Int32.ofInt_toInt] at h
  exact va_tb hx hb s0.2.2.2 hS (oi_vin (okv_h hst) hin) (v := .int (sxB.getD a.toNat 0)) (by rw [oi_cl (okv_h hst)]; rfl) hd h
theorem g_bret {a : Int} {Qp : Int → Mem → Prop} (hR : RI E (some .byte) Qp) (hd : decode cc pc = .ok (.ireturn, 1)) (hz : a = 0 ∨ a = 1) (hq : Qp a σ) : GW E cc nL own fr lo σ pc lv [vI a] := by
  obtain ⟨p, l, e, R, s, m, args, below, meth, c, Q, D, cy, ad, A, k0, n0⟩ := E
  intro H locs ls F I
  have I0 := I
  obtain ⟨hm, hlv, hst, hP, hS, hl⟩ := I
  obtain ⟨hx, hb, hml, hown, hts, hK, hN, hap, hAi, hA, hfr, hlo⟩ := id F
  obtain ⟨a1, a2, a3, s1, s2, s3, s4, s5, s6, s7, s8⟩ := hN.2.1
  have s0 := s1.1 0 (by decide)
  obtain ⟨rfl, r2, r3⟩ := hR
  exact W.zret (v := Int32.ofInt a) hx hb r2 (by rcases hz with rfl | rfl <;> rfl) (fun t ht hW => ⟨⟨Int32.ofInt a, σ, rfl, by show Qp (Int32.ofInt a).toInt σ; rw [oi_t (okv_h hst)]; exact hq, by rw [ht]; exact hP, hm⟩, hS.F ht⟩) hS.2.2 hd r3
theorem g_cV4 {av : List AV} {Qp : Int → Mem → Prop} (hM : ∀ l D cy ad, MI l y cc2 nL2 ret fr2 lo2 D cy ad (vR 400 :: av) σ Qp) (hw : CWV own index "java/lang/String" y cc2 nL2 ret av.length) (hf1 : fr2 + 1 ≤ fr) (hf2 : 8 + (nL2 + 11) + lo2 ≤ lo) (h8 : (st.map fun v => if cat2 v then 2 else 1).sum ≤ 8) (hs : stk = av.reverse ++ vR 400 :: st) (hd : decode cc pc = .ok (.invokevirtual index, 3)) (kk : ∀ r u, Qp r u → GW E cc nL own fr lo u (pc + 3) lv (vI r :: st)) : GW E cc nL own fr lo σ pc lv stk := by
  obtain ⟨p, l, e, R, s, m, args, below, meth, c, Q, D, cy, ad, A, k0, n0⟩ := E
  intro H locs ls F I
  have I0 := I
  obtain ⟨hm, hlv, hst, hP, hS, hl⟩ := I
  obtain ⟨hx, hb, hml, hown, hts, hK, hN, hap, hAi, hA, hfr, hlo⟩ := id F
  obtain ⟨a1, a2, a3, s1, s2, s3, s4, s5, s6, s7, s8⟩ := hN.2.1
  have s0 := s1.1 0 (by decide)
  have hM1 := hM l D cy ad (fun v hv => hst v (by rw [hs]; rcases List.mem_cons.mp hv with rfl | hv; exact List.mem_append_right _ List.mem_cons_self; exact List.mem_append_left _ (List.mem_reverse.mpr hv))) H.size
  refine va_calli (va_runV (As := av.map (mkv ad)) (rest := st.map (mkv ad)) ⟨hx, hb, hml, hown, hts⟩ hM1 (cwV av.length hts (gi_V hw) rfl rfl rfl hw.2.2.2.2.2 ⟨by rw [hfr]; exact hf1, by rw [hlo]; exact hf2⟩) ⟨pre_blind _ D cy ad H.size σ, vk_recv (i := 0) s1 (Nat.zero_lt_one) hS, fun U hU hW => ⟨rfl, by rw [hU], by rw [hU]; exact hP, va_K.moved hW.alike hK, ⟨hN.1.warm hW, hN.2.1.call hS hU hW (fun q h => Aw_in hAi hA hS q h)⟩, hap, hm⟩⟩ rfl (by simp) hl.1 (by rw [hs]; simp [List.map_append, List.map_reverse]; first | done | rfl) (lv_room (by rw [mk_cat]; exact h8)) hd ⟨hN.2.2.1, hN.2.2.2⟩) hS (fun q _ h => Aw_in hAi hA hS q h) (fun q h => Aw_in hAi hA hS q h) (fun r u t H1 locs1 ht hvm hw1 hB hz1 hk1 hS1 => ?_)
  have hh := kk r.toInt u hw1 H1 locs1 ls F ⟨hB.2, hlv, okv_c (inI_t r) (fun v hv => hst v (by rw [hs]; exact List.mem_append_right _ (List.mem_cons_of_mem _ hv))), by rw [← ht]; exact hB.1, hS1, hl⟩
  rw [List.map_cons, show mkv ad (vI r.toInt) = .int (Int32.ofInt r.toInt) from rfl, Int32.ofInt_toInt] at hh
  exact hh
end GROWS5
