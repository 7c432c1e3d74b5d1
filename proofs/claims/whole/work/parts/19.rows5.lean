def rmX (fr lo : Nat) : Room := { frames := fr, cells := 1, slots := 6, locals := lo }
def xPo (D : va_G) (cy : Nat → ClassId) (ad : Nat → Nat) (E : String) (u : Mem) (t : State) : Prop := E = "java/util/NoSuchElementException" ∧ postP D cy ad u t
abbrev QT : Type := va_G → (Nat → ClassId) → (Nat → Nat) → (Nat → Prop) → Array Value → State → Outcome → State → Prop
def QCi (Qp : Int → Mem → Prop) : QT := fun D cy ad A => va_Qi (fun (r : Int32) (u : Mem) => Qp r.toInt u) (postP D cy ad) A
def QCl (Qp : Int → Mem → Prop) : QT := fun D cy ad A => va_Ql (fun (r : Int64) (u : Mem) => Qp r.toInt u) (postP D cy ad) A
def XM (l : Launch) (y : MethodName) (cc : ByteArray) (nL : Nat) (ret : Option FieldType) (fr lo : Nat) (D : va_G) (cy : Nat → ClassId) (ad : Nat → Nat) (av : List AV) (σ : Mem) (QC : QT) (XT : Mem → Prop) : Prop :=
  l.stackTraces = false → (∀ v ∈ av, okv v) → ∀ sz, vx_Met l y (.code y cc nL ret :: gtw) (rmX fr lo) (va_Pc (av.map (mkv ad)) (preP D cy ad sz σ)) (QC D cy ad (Aw ad sz)) (vx_X (fun u : Mem => XT u) (xPo D cy ad) (Aw ad sz)) 1 6 (Aw ad sz)
def RX (E : TE) (ret : Option FieldType) (QC : QT) (XT : Mem → Prop) : Prop := match E with
  | (p, l, e, R, s, m, args, below, meth, c, Q, D, cy, ad, A, k0, n0) => Q = vx_MQ below (QC D cy ad A) (vx_X (fun u : Mem => XT u) (xPo D cy ad) A) args s 1 6 A ∧ meth.sig.returnType = ret ∧ meth.locks = false ∧ l.stackTraces = false ∧ (∀ x ∈ c.exceptionTable.toList, False) ∧ R.cells = 1 ∧ R.slots = 6 ∧ k0 = 0 ∧ n0 = 0
def xAt : List Cond := (tc_at RX10 161 "java/util/NoSuchElementException" 13 prog_29_method_4_code "java/lang/RuntimeException" ["java/lang/Exception"]).filter vx_no
theorem x_in : ∀ w ∈ xAt.filter goodWord, w ∈ lw_tbl := by decide +kernel
theorem x_hat {args : Array Value} {s : State} (hts : ∀ w ∈ gtw, w.before args s = true) (hN : nwP s) : ∀ w ∈ xAt, w.before args s = true := by
  refine vx_hat (B := [.castable "java/util/NoSuchElementException" "java/util/NoSuchElementException", .declares ⟨"java/lang/RuntimeException", "<init>", "(Ljava/lang/String;)V"⟩, .declares ⟨"java/lang/Exception", "<init>", "(Ljava/lang/String;)V"⟩, .declares ⟨"java/lang/Throwable", "<init>", "(Ljava/lang/String;)V"⟩]) (fun w h => hts w (gtw_in (x_in w h) (List.mem_filter.mp h).2)) (by decide +kernel) ?_
  exact vx_c (va_Nw.use rfl (hN _ (by simp [nwL]))) (vx_c (va_Nw.use rfl (hN _ (by simp [nwL]))) (vx_c (va_Nw.use rfl (hN _ (by simp [nwL]))) (vx_c (va_Nw.use rfl (hN _ (by simp [nwL]))) vx_n)))
theorem x_good : ∀ w ∈ Cond.classLink RX10 157 "java/util/NoSuchElementException" :: Cond.initialized "java/util/NoSuchElementException" :: xAt, vx_ot w = true := by decide +kernel
theorem x_cl : Cond.classLink RX10 157 "java/util/NoSuchElementException" ∈ gtw := gtw_in (List.mem_of_getElem? (i := 1011) (by decide +kernel)) (by decide +kernel)
theorem x_ini : Cond.initialized "java/util/NoSuchElementException" ∈ gtw := gtw_in (List.mem_of_getElem? (i := 111) (by decide +kernel)) (by decide +kernel)
theorem x_cl13 : Cond.classLink RL 13 "java/util/NoSuchElementException" ∈ gtw := gtw_in (List.mem_of_getElem? (i := 1006) (by decide +kernel)) (by decide +kernel)
section GROWS6
variable {E : TE} {cc : ByteArray} {nL : Nat} {own : String} {fr lo : Nat} {σ : Mem} {pc : Nat} {lv lv' : List (Nat × AV)} {st stk : List AV}
variable {y : MethodName} {cc2 : ByteArray} {nL2 : Nat} {ret : Option FieldType} {fr2 lo2 : Nat} {index : Nat}
theorem g_xiret {a : Int} {Qp : Int → Mem → Prop} {XT : Mem → Prop} (hR : RX E (some .int) (QCi Qp) XT) (hd : decode cc pc = .ok (.ireturn, 1)) (hq : Qp a σ) : GW E cc nL own fr lo σ pc lv [vI a] := by
  obtain ⟨p, l, e, R, s, m, args, below, meth, c, Q, D, cy, ad, A, k0, n0⟩ := E
  intro H locs ls F I
  have I0 := I
  obtain ⟨hm, hlv, hst, hP, hS, hl⟩ := I
  obtain ⟨hx, hb, hml, hown, hts, hK, hN, hap, hAi, hA, hfr, hlo⟩ := id F
  obtain ⟨a1, a2, a3, s1, s2, s3, s4, s5, s6, s7, s8⟩ := hN.2.1
  obtain ⟨rfl, r2, r3, -, -, -, -, rfl, rfl⟩ := hR
  refine W.widen (k := 1) (n := 6) (by decide) (by decide) (vx_ret ?_)
  exact W.iret (v := Int32.ofInt a) hx hb r2 (fun t ht hW => ⟨⟨Int32.ofInt a, σ, rfl, by show Qp (Int32.ofInt a).toInt σ; rw [oi_t (okv_h hst)]; exact hq, by rw [ht]; exact hP, hm⟩, hS.F ht⟩) hS.2.2 hd r3
theorem g_xlret {a : Int} {Qp : Int → Mem → Prop} {XT : Mem → Prop} (hR : RX E (some .long) (QCl Qp) XT) (hd : decode cc pc = .ok (.lreturn, 1)) (hq : Qp a σ) : GW E cc nL own fr lo σ pc lv [vL a] := by
  obtain ⟨p, l, e, R, s, m, args, below, meth, c, Q, D, cy, ad, A, k0, n0⟩ := E
  intro H locs ls F I
  have I0 := I
  obtain ⟨hm, hlv, hst, hP, hS, hl⟩ := I
  obtain ⟨hx, hb, hml, hown, hts, hK, hN, hap, hAi, hA, hfr, hlo⟩ := id F
  obtain ⟨a1, a2, a3, s1, s2, s3, s4, s5, s6, s7, s8⟩ := hN.2.1
  obtain ⟨rfl, r2, r3, -, -, -, -, rfl, rfl⟩ := hR
  refine W.widen (k := 1) (n := 6) (by decide) (by decide) (vx_ret ?_)
  exact W.lret (v := Int64.ofInt a) hx hb r2 (fun t ht hW => ⟨⟨Int64.ofInt a, σ, rfl, by show Qp (Int64.ofInt a).toInt σ; rw [ol_t (okv_h hst)]; exact hq, by rw [ht]; exact hP, hm⟩, hS.F ht⟩) hS.2.2 hd r3
theorem g_xthrN {QC : QT} {XT : Mem → Prop} (hR : RX E ret QC XT) (ho : own = "TrustClub") (d0 : decode cc pc = .ok (.new 157, 3)) (d3 : decode cc (pc + 3) = .ok (.dup, 1)) (d4 : decode cc (pc + 4) = .ok (.ldc 159, 2)) (d6 : decode cc (pc + 6) = .ok (.invokespecial 161, 3)) (d9 : decode cc (pc + 9) = .ok (.athrow, 1)) (hf : 6 ≤ fr ∧ 90 ≤ lo) (hq : XT σ) : GW E cc nL own fr lo σ pc lv [] := by
  obtain ⟨p, l, e, R, s, m, args, below, meth, c, Q, D, cy, ad, A, k0, n0⟩ := E
  intro H locs ls F I
  have I0 := I
  obtain ⟨hm, hlv, hst, hP, hS, hl⟩ := I
  obtain ⟨hx, hb, hml, hown, hts, hK, hN, hap, hAi, hA, hfr, hlo⟩ := id F
  obtain ⟨a1, a2, a3, s1, s2, s3, s4, s5, s6, s7, s8⟩ := hN.2.1
  obtain ⟨rfl, r2, r3, r4, r5, r6, r7, rfl, rfl⟩ := hR
  subst ho
  refine tc_throwS (cls := "java/util/NoSuchElementException") (sup := "java/lang/RuntimeException") (names := ["java/lang/Exception"]) (text := "no such member") (mc := 1) (ms := 6) hx hb r4 (ix := 13) (rx := prog_29_method_4_code) (by decide +kernel) (by decide +kernel) (by decide +kernel) (by decide +kernel) hown (by decide +kernel) (by decide +kernel) (hts _ x_cl) (hts _ x_ini) s3 (x_hat hts hN.1) x_good s7 s8 hS (hl.1.trans hml.symm) d0 d3 d4 d6 d9 (fun x h => (r5 x h).elim) (by rw [hfr]; show 5 < fr; omega) (by rw [hlo]; show 0 + (13 * 3 + 43) ≤ lo; omega) (by rw [r6]; decide) (by rw [r7]; decide) r3 (fun t hvm h1 h2 => ⟨σ, hq, ⟨rfl, hP.kept (fun k q hk => h2 q.1 (hP k q hk).lt), hm⟩, Nat.le_trans hS.1 h1, fun q hq hnA => ?_⟩) hS.2.2 (by decide) (by decide)
  rw [h2 q (Nat.lt_of_lt_of_le hq hS.1)]
  exact hS.2.1 q hq hnA
theorem g_xthrH {QC : QT} {XT : Mem → Prop} (hR : RX E ret QC XT) (ho : own = "TrustClub") (d0 : decode cc pc = .ok (.new 157, 3)) (d3 : decode cc (pc + 3) = .ok (.dup, 1)) (d4 : decode cc (pc + 4) = .ok (.ldc_w 258, 3)) (d6 : decode cc (pc + 7) = .ok (.invokespecial 161, 3)) (d9 : decode cc (pc + 10) = .ok (.athrow, 1)) (hf : 6 ≤ fr ∧ 90 ≤ lo) (hq : XT σ) : GW E cc nL own fr lo σ pc lv [] := by
  obtain ⟨p, l, e, R, s, m, args, below, meth, c, Q, D, cy, ad, A, k0, n0⟩ := E
  intro H locs ls F I
  have I0 := I
  obtain ⟨hm, hlv, hst, hP, hS, hl⟩ := I
  obtain ⟨hx, hb, hml, hown, hts, hK, hN, hap, hAi, hA, hfr, hlo⟩ := id F
  obtain ⟨a1, a2, a3, s1, s2, s3, s4, s5, s6, s7, s8⟩ := hN.2.1
  obtain ⟨rfl, r2, r3, r4, r5, r6, r7, rfl, rfl⟩ := hR
  subst ho
  refine tc_throwSW (cls := "java/util/NoSuchElementException") (sup := "java/lang/RuntimeException") (names := ["java/lang/Exception"]) (text := "no such held payment") (mc := 1) (ms := 6) hx hb r4 (ix := 13) (rx := prog_29_method_4_code) (by decide +kernel) (by decide +kernel) (by decide +kernel) (by decide +kernel) hown (by decide +kernel) (by decide +kernel) (hts _ x_cl) (hts _ x_ini) s4 (x_hat hts hN.1) x_good s7 s8 hS (hl.1.trans hml.symm) d0 d3 d4 d6 d9 (fun x h => (r5 x h).elim) (by rw [hfr]; show 5 < fr; omega) (by rw [hlo]; show 0 + (13 * 3 + 43) ≤ lo; omega) (by rw [r6]; decide) (by rw [r7]; decide) r3 (fun t hvm h1 h2 => ⟨σ, hq, ⟨rfl, hP.kept (fun k q hk => h2 q.1 (hP k q hk).lt), hm⟩, Nat.le_trans hS.1 h1, fun q hq hnA => ?_⟩) hS.2.2 (by decide) (by decide)
  rw [h2 q (Nat.lt_of_lt_of_le hq hS.1)]
  exact hS.2.1 q hq hnA
theorem g_xthrR {QC : QT} {XT : Mem → Prop} (hR : RX E ret QC XT) (ho : own = "TrustClub") (d0 : decode cc pc = .ok (.new 157, 3)) (d3 : decode cc (pc + 3) = .ok (.dup, 1)) (d4 : decode cc (pc + 4) = .ok (.ldc_w 410, 3)) (d6 : decode cc (pc + 7) = .ok (.invokespecial 161, 3)) (d9 : decode cc (pc + 10) = .ok (.athrow, 1)) (hf : 6 ≤ fr ∧ 90 ≤ lo) (hq : XT σ) : GW E cc nL own fr lo σ pc lv [] := by
  obtain ⟨p, l, e, R, s, m, args, below, meth, c, Q, D, cy, ad, A, k0, n0⟩ := E
  intro H locs ls F I
  have I0 := I
  obtain ⟨hm, hlv, hst, hP, hS, hl⟩ := I
  obtain ⟨hx, hb, hml, hown, hts, hK, hN, hap, hAi, hA, hfr, hlo⟩ := id F
  obtain ⟨a1, a2, a3, s1, s2, s3, s4, s5, s6, s7, s8⟩ := hN.2.1
  obtain ⟨rfl, r2, r3, r4, r5, r6, r7, rfl, rfl⟩ := hR
  subst ho
  refine tc_throwSW (cls := "java/util/NoSuchElementException") (sup := "java/lang/RuntimeException") (names := ["java/lang/Exception"]) (text := "no such number") (mc := 1) (ms := 6) hx hb r4 (ix := 13) (rx := prog_29_method_4_code) (by decide +kernel) (by decide +kernel) (by decide +kernel) (by decide +kernel) hown (by decide +kernel) (by decide +kernel) (hts _ x_cl) (hts _ x_ini) s5 (x_hat hts hN.1) x_good s7 s8 hS (hl.1.trans hml.symm) d0 d3 d4 d6 d9 (fun x h => (r5 x h).elim) (by rw [hfr]; show 5 < fr; omega) (by rw [hlo]; show 0 + (13 * 3 + 43) ≤ lo; omega) (by rw [r6]; decide) (by rw [r7]; decide) r3 (fun t hvm h1 h2 => ⟨σ, hq, ⟨rfl, hP.kept (fun k q hk => h2 q.1 (hP k q hk).lt), hm⟩, Nat.le_trans hS.1 h1, fun q hq hnA => ?_⟩) hS.2.2 (by decide) (by decide)
  rw [h2 q (Nat.lt_of_lt_of_le hq hS.1)]
  exact hS.2.1 q hq hnA
end GROWS6
theorem m_X {y : MethodName} {cc : ByteArray} {nL : Nat} {ret : Option FieldType} {fr lo : Nat} {av : List AV} {σ : Mem} {QC : QT} {XT : Mem → Prop} {own : String} {lv : List (Nat × AV)} (hy : plainName y.cls = true) (ho : y.cls = own) (hn : (av.map fun v => if cat2 v then 2 else 1).sum ≤ nL) (hlv : avl 0 av = lv) (body : ∀ E : TE, RX E ret QC XT → GW E cc nL own fr lo σ 0 lv []) (l : Launch) (D : va_G) (cy : Nat → ClassId) (ad : Nat → Nat) : XM l y cc nL ret fr lo D cy ad av σ QC XT := by
  intro hst hav sz
  refine vx_ofW (cc := cc) (maxL := nL) (ret := ret) hy rfl ?_
  intro p e s m args below meth c s₁ B hml hxt hv
  obtain ⟨rfl, hsz, hP, hK, hN, hap, hok⟩ := hv
  have hts0 := atoms_spec (ws := Cond.code y cc nL ret :: gtw) B.pre
  have hown : s.vm.findClass y.cls = some m.cls := findClass_of_methodNamed B.named
  subst hsz
  subst hlv
  subst ho
  have hl := lv_entry (av.map (mkv ad)) (n := nL) (by rw [sl_len]; exact hn)
  rw [lg_entry_eq]
  rw [avl_mk ad av 0] at hl
  exact body (p, l, e, (headSpec (Cond.code y cc nL ret :: gtw) (rmX fr lo)).room, s, m, (av.map (mkv ad)).toArray, below, meth, c, vx_MQ below (QC D cy ad (Aw ad s.heap.size)) (vx_X (fun u : Mem => XT u) (xPo D cy ad) (Aw ad s.heap.size)) (av.map (mkv ad)).toArray s 1 6 (Aw ad s.heap.size), D, cy, ad, Aw ad s.heap.size, 0, 0) ⟨rfl, B.returns, B.notSynchronized, hst, hxt, rfl, rfl, rfl, rfl⟩ s.heap [] _ ⟨B.exec, B.bytes, hml, hown, fun w hw => hts0 w (List.mem_cons_of_mem _ hw), hK, ⟨hN.1, hN.2, Nat.zero_le _, Nat.zero_le _⟩, hap, fun i hi => Or.inl ⟨i, hi, rfl⟩, fun q hq => Or.inr hq, rfl, rfl⟩ ⟨hok, avl_ok av 0 hav, fun v h => by (cases h), hP, va_S.rf, hl⟩
section GROWS7
variable {p : Program} {l : Launch} {e : Env} {R : Room} {s : State} {m : MethodId} {args : Array Value} {below : List Frame} {meth : Method} {c : Code} {Q : State → Prop} {D : va_G} {cy : Nat → ClassId} {ad : Nat → Nat} {A : Nat → Prop} {k0 n0 : Nat}
variable {cc : ByteArray} {nL : Nat} {own : String} {fr lo : Nat} {σ : Mem} {pc : Nat} {lv lv' : List (Nat × AV)} {st stk : List AV}
variable {y : MethodName} {cc2 : ByteArray} {nL2 : Nat} {ret : Option FieldType} {fr2 lo2 : Nat} {b ci index : Nat} {fs : List (Option Nat)} {C : String} {T : u_T} {N : Nat}
theorem g_xci {av : List AV} {Qp : Int → Mem → Prop} {XT : Mem → Prop} {sp ep hp ct : Nat} (hTr : l.stackTraces = false) (hM : ∀ l D cy ad, XM l y cc2 nL2 ret fr2 lo2 D cy ad (vR b :: av) σ (QCi Qp) XT) (hk : kd b = (0, ci, fs)) (hc : vwCl[ci]? = some (C, T, N)) (hw : CWV own index C y cc2 nL2 ret av.length) (hf1 : fr2 + 1 ≤ fr) (hf2 : 8 + (nL2 + 11) + lo2 ≤ lo) (h8 : (st.map fun v => if cat2 v then 2 else 1).sum ≤ 8) (hs : stk = av.reverse ++ vR b :: st) (hd : decode cc pc = .ok (.invokevirtual index, 3)) (hcap : k0 + 1 ≤ R.cells ∧ n0 + 6 ≤ R.slots)
    (htab : c.exceptionTable.toList = tableOf [(sp, ep, hp, ct)]) (hcov : covers ⟨sp, ep, hp, ct⟩ pc = true) (hct : ct ≠ 0) (hcl : Cond.classLink own ct "java/util/NoSuchElementException" ∈ gtw)
    (kk : ∀ r u, Qp r u → GW (p, l, e, R, s, m, args, below, meth, c, Q, D, cy, ad, A, k0 + 1, n0 + 6) cc nL own fr lo u (pc + 3) lv (vI r :: st)) (kx : ∀ u q, XT u → GW (p, l, e, R, s, m, args, below, meth, c, Q, D, cy, ad, A, k0 + 1, n0 + 6) cc nL own fr lo u hp lv [vX q]) : GW (p, l, e, R, s, m, args, below, meth, c, Q, D, cy, ad, A, k0, n0) cc nL own fr lo σ pc lv stk := by
  intro H locs ls F I
  obtain ⟨hm, hlv, hst, hP, hS, hl⟩ := I
  obtain ⟨hx, hb, hml, hown, hts, hK, hN, hap, hAi, hA, hfr, hlo⟩ := id F
  have F1 : Fx p R s m args c D cy ad A (k0 + 1) (n0 + 6) cc nL own fr lo := ⟨hx, hb, hml, hown, hts, hK, ⟨hN.1, hN.2.1, hcap.1, hcap.2⟩, hap, hAi, hA, hfr, hlo⟩
  have hM1 := hM l D cy ad hTr (fun v hv => hst v (by rw [hs]; rcases List.mem_cons.mp hv with rfl | hv; exact List.mem_append_right _ List.mem_cons_self; exact List.mem_append_left _ (List.mem_reverse.mpr hv))) H.size
  obtain ⟨q, -, hq⟩ := wd_at (ad := ad) (cy := cy) (σ := σ) (id_of hk (by decide))
  rw [cel_o ad cy hk] at hq
  refine vx_calli (vx_runV (As := av.map (mkv ad)) (rest := st.map (mkv ad)) ⟨hx, hb, hml, hown, hts⟩ hM1 (cwV av.length hts (gi_V hw) rfl rfl rfl hw.2.2.2.2.2 ⟨by rw [hfr]; exact hf1, by rw [hlo]; exact hf2⟩) ⟨pre_blind _ D cy ad H.size σ, va_recv hK hP hc hq, fun U hU hW => ⟨rfl, by rw [hU], by rw [hU]; exact hP, va_K.moved hW.alike hK, ⟨hN.1.warm hW, hN.2.1.call hS hU hW (fun q h => Aw_in hAi hA hS q h)⟩, hap, hm⟩⟩ rfl (by simp) hl.1 (by rw [hs]; simp [List.map_append, List.map_reverse]; first | done | rfl) (lv_room (by rw [mk_cat]; exact h8)) hd hcap) hS (fun q _ h => Aw_in hAi hA hS q h) (fun q h => Aw_in hAi hA hS q h) (fun q _ h => Aw_in hAi hA hS q h) (fun E ce q9 u t H1 locs1 ht hvm hw1 hB hz1 hk1 hS1 hce hcv hcls => ?_) (fun r u t H1 locs1 ht hvm hw1 hB hz1 hk1 hS1 => ?_)
  · obtain ⟨rfl, hB⟩ := hB
    refine vx_catch hown [] ⟨sp, ep, hp, ct⟩ [] htab (fun z h => by cases h) hcov hct (hts _ hcl) (va_Nw.use rfl (hN.1 _ (by simp [nwL]))) hce hcv hcls ?_
    exact kx u q9 hw1 H1 locs1 ls F1 ⟨hB.2, hlv, fun v hv => by (rcases List.mem_cons.mp hv with rfl | hv; exact trivial; cases hv), by rw [← ht]; exact hB.1, hS1, hl⟩
  · have hh := kk r.toInt u hw1 H1 locs1 ls F1 ⟨hB.2, hlv, okv_c (inI_t r) (fun v hv => hst v (by rw [hs]; exact List.mem_append_right _ (List.mem_cons_of_mem _ hv))), by rw [← ht]; exact hB.1, hS1, hl⟩
    rw [List.map_cons, show mkv ad (vI r.toInt) = .int (Int32.ofInt r.toInt) from rfl, Int32.ofInt_toInt] at hh
    exact hh
theorem g_xcl {av : List AV} {Qp : Int → Mem → Prop} {XT : Mem → Prop} {sp ep hp ct : Nat} (hTr : l.stackTraces = false) (hM : ∀ l D cy ad, XM l y cc2 nL2 ret fr2 lo2 D cy ad (vR b :: av) σ (QCl Qp) XT) (hk : kd b = (0, ci, fs)) (hc : vwCl[ci]? = some (C, T, N)) (hw : CWV own index C y cc2 nL2 ret av.length) (hf1 : fr2 + 1 ≤ fr) (hf2 : 8 + (nL2 + 11) + lo2 ≤ lo) (h8 : (st.map fun v => if cat2 v then 2 else 1).sum ≤ 8) (hs : stk = av.reverse ++ vR b :: st) (hd : decode cc pc = .ok (.invokevirtual index, 3)) (hcap : k0 + 1 ≤ R.cells ∧ n0 + 6 ≤ R.slots)
    (htab : c.exceptionTable.toList = tableOf [(sp, ep, hp, ct)]) (hcov : covers ⟨sp, ep, hp, ct⟩ pc = true) (hct : ct ≠ 0) (hcl : Cond.classLink own ct "java/util/NoSuchElementException" ∈ gtw)
    (kk : ∀ r u, Qp r u → GW (p, l, e, R, s, m, args, below, meth, c, Q, D, cy, ad, A, k0 + 1, n0 + 6) cc nL own fr lo u (pc + 3) lv (vL r :: st)) (kx : ∀ u q, XT u → GW (p, l, e, R, s, m, args, below, meth, c, Q, D, cy, ad, A, k0 + 1, n0 + 6) cc nL own fr lo u hp lv [vX q]) : GW (p, l, e, R, s, m, args, below, meth, c, Q, D, cy, ad, A, k0, n0) cc nL own fr lo σ pc lv stk := by
  intro H locs ls F I
  obtain ⟨hm, hlv, hst, hP, hS, hl⟩ := I
  obtain ⟨hx, hb, hml, hown, hts, hK, hN, hap, hAi, hA, hfr, hlo⟩ := id F
  have F1 : Fx p R s m args c D cy ad A (k0 + 1) (n0 + 6) cc nL own fr lo := ⟨hx, hb, hml, hown, hts, hK, ⟨hN.1, hN.2.1, hcap.1, hcap.2⟩, hap, hAi, hA, hfr, hlo⟩
  have hM1 := hM l D cy ad hTr (fun v hv => hst v (by rw [hs]; rcases List.mem_cons.mp hv with rfl | hv; exact List.mem_append_right _ List.mem_cons_self; exact List.mem_append_left _ (List.mem_reverse.mpr hv))) H.size
  obtain ⟨q, -, hq⟩ := wd_at (ad := ad) (cy := cy) (σ := σ) (id_of hk (by decide))
  rw [cel_o ad cy hk] at hq
  refine vx_calll (vx_runV (As := av.map (mkv ad)) (rest := st.map (mkv ad)) ⟨hx, hb, hml, hown, hts⟩ hM1 (cwV av.length hts (gi_V hw) rfl rfl rfl hw.2.2.2.2.2 ⟨by rw [hfr]; exact hf1, by rw [hlo]; exact hf2⟩) ⟨pre_blind _ D cy ad H.size σ, va_recv hK hP hc hq, fun U hU hW => ⟨rfl, by rw [hU], by rw [hU]; exact hP, va_K.moved hW.alike hK, ⟨hN.1.warm hW, hN.2.1.call hS hU hW (fun q h => Aw_in hAi hA hS q h)⟩, hap, hm⟩⟩ rfl (by simp) hl.1 (by rw [hs]; simp [List.map_append, List.map_reverse]; first | done | rfl) (lv_room (by rw [mk_cat]; exact h8)) hd hcap) hS (fun q _ h => Aw_in hAi hA hS q h) (fun q h => Aw_in hAi hA hS q h) (fun q _ h => Aw_in hAi hA hS q h) (fun E ce q9 u t H1 locs1 ht hvm hw1 hB hz1 hk1 hS1 hce hcv hcls => ?_) (fun r u t H1 locs1 ht hvm hw1 hB hz1 hk1 hS1 => ?_)
  · obtain ⟨rfl, hB⟩ := hB
    refine vx_catch hown [] ⟨sp, ep, hp, ct⟩ [] htab (fun z h => by cases h) hcov hct (hts _ hcl) (va_Nw.use rfl (hN.1 _ (by simp [nwL]))) hce hcv hcls ?_
    exact kx u q9 hw1 H1 locs1 ls F1 ⟨hB.2, hlv, fun v hv => by (rcases List.mem_cons.mp hv with rfl | hv; exact trivial; cases hv), by rw [← ht]; exact hB.1, hS1, hl⟩
  · have hh := kk r.toInt u hw1 H1 locs1 ls F1 ⟨hB.2, hlv, okv_c (inL_t r) (fun v hv => hst v (by rw [hs]; exact List.mem_append_right _ (List.mem_cons_of_mem _ hv))), by rw [← ht]; exact hB.1, hS1, hl⟩
    rw [List.map_cons, show mkv ad (vL r.toInt) = .long (Int64.ofInt r.toInt) from rfl, Int64.ofInt_toInt] at hh
    exact hh
theorem g_xast {i q : Nat} (hd : decode cc pc = .ok (.astore_n 3, 1)) (hn : 3 < nL) (hl' : lst1 lv 3 (vX q) = lv') (kk : GW (p, l, e, R, s, m, args, below, meth, c, Q, D, cy, ad, A, k0, n0) cc nL own fr lo σ (pc + 1) lv' st) : GW (p, l, e, R, s, m, args, below, meth, c, Q, D, cy, ad, A, k0, n0) cc nL own fr lo σ pc lv (vX q :: st) := by
  intro H locs ls F I
  obtain ⟨hm, hlv, hst, hP, hS, hl⟩ := I
  obtain ⟨hx, hb, -⟩ := id F
  refine lv_astore_n (x := q) hx hb hd rfl hl hn (mkl_1 ad lv 3 (vX q)) (fun ls' hl2 => ?_)
  subst hl'
  exact kk H locs ls' F ⟨hm, lst1_ok trivial hlv, okv_t hst, hP, hS, hl2⟩
theorem g_xast4 {q : Nat} (hd : decode cc pc = .ok (.astore 4, 2)) (hn : 4 < nL) (hl' : lst1 lv 4 (vX q) = lv') (kk : GW (p, l, e, R, s, m, args, below, meth, c, Q, D, cy, ad, A, k0, n0) cc nL own fr lo σ (pc + 2) lv' st) : GW (p, l, e, R, s, m, args, below, meth, c, Q, D, cy, ad, A, k0, n0) cc nL own fr lo σ pc lv (vX q :: st) := by
  intro H locs ls F I
  obtain ⟨hm, hlv, hst, hP, hS, hl⟩ := I
  obtain ⟨hx, hb, -⟩ := id F
  refine lv_astore (x := q) hx hb hd hl hn (mkl_1 ad lv 4 (vX q)) (fun ls' hl2 => ?_)
  subst hl'
  exact kk H locs ls' F ⟨hm, lst1_ok trivial hlv, okv_t hst, hP, hS, hl2⟩
end GROWS7
/-- a static method with a handler: it returns -/
def MH (l : Launch) (y : MethodName) (cc : ByteArray) (nL : Nat) (ret : Option FieldType) (hh : List (Nat × Nat × Nat × Nat)) (fr lo : Nat) (D : va_G) (cy : Nat → ClassId) (ad : Nat → Nat) (av : List AV) (σ : Mem) (Qp : Int → Mem → Prop) : Prop :=
  l.stackTraces = false → (∀ v ∈ av, okv v) → ∀ sz, Met l y (.codeWith y cc nL ret hh :: gtw) (rmX fr lo) (va_Pc (av.map (mkv ad)) (preP D cy ad sz σ)) (va_Qi (fun (r : Int32) (u : Mem) => Qp r.toInt u) (postP D cy ad) (Aw ad sz)) 1 6 (Aw ad sz)
theorem m_H {y : MethodName} {cc : ByteArray} {nL : Nat} {ret : Option FieldType} {hh : List (Nat × Nat × Nat × Nat)} {fr lo : Nat} {av : List AV} {σ : Mem} {Qp : Int → Mem → Prop} {own : String} {lv : List (Nat × AV)} (hy : plainName y.cls = true) (ho : y.cls = own) (hn : (av.map fun v => if cat2 v then 2 else 1).sum ≤ nL) (hlv : avl 0 av = lv)
    (body : ∀ (p : Program) (l : Launch) (e : Env) (R : Room) (s : State) (m : MethodId) (args : Array Value) (below : List Frame) (meth : Method) (c : Code) (Q : State → Prop) (D : va_G) (cy : Nat → ClassId) (ad : Nat → Nat) (A : Nat → Prop), l.stackTraces = false → c.exceptionTable.toList = tableOf hh → R.cells = 1 → R.slots = 6 → RI (p, l, e, R, s, m, args, below, meth, c, Q, D, cy, ad, A, 1, 6) ret Qp → GW (p, l, e, R, s, m, args, below, meth, c, Q, D, cy, ad, A, 0, 0) cc nL own fr lo σ 0 lv []) (l : Launch) (D : va_G) (cy : Nat → ClassId) (ad : Nat → Nat) : MH l y cc nL ret hh fr lo D cy ad av σ Qp := by
  intro hst hav sz
  refine va_MetW (cc := cc) (maxL := nL) (ret := ret) (hh := hh) hy rfl ?_
  intro p e s m args below meth c s₁ B hml hv
  obtain ⟨rfl, hsz, hP, hK, hN, hap, hok⟩ := hv
  have hts0 := atoms_spec (ws := Cond.codeWith y cc nL ret hh :: gtw) B.pre
  have htab := vx_table (x := y) B (hts0 _ List.mem_cons_self)
  have hown : s.vm.findClass y.cls = some m.cls := findClass_of_methodNamed B.named
  subst hsz
  subst hlv
  subst ho
  have hl := lv_entry (av.map (mkv ad)) (n := nL) (by rw [sl_len]; exact hn)
  rw [lg_entry_eq]
  rw [avl_mk ad av 0] at hl
  exact body p l e (headSpec (Cond.codeWith y cc nL ret hh :: gtw) (rmX fr lo)).room s m (av.map (mkv ad)).toArray below meth c (MQ below (va_Qi (fun (r : Int32) (u : Mem) => Qp r.toInt u) (postP D cy ad) (Aw ad s.heap.size)) (av.map (mkv ad)).toArray s 1 6 (Aw ad s.heap.size)) D cy ad (Aw ad s.heap.size) hst htab rfl rfl ⟨rfl, B.returns, B.notSynchronized⟩ s.heap [] _ ⟨B.exec, B.bytes, hml, hown, fun w hw => hts0 w (List.mem_cons_of_mem _ hw), hK, ⟨hN.1, hN.2, Nat.zero_le _, Nat.zero_le _⟩, hap, fun i hi => Or.inl ⟨i, hi, rfl⟩, fun q hq => Or.inr hq, rfl, rfl⟩ ⟨hok, avl_ok av 0 hav, fun v h => by (cases h), hP, va_S.rf, hl⟩
