def Aw (ad : Nat → Nat) (sz : Nat) : Nat → Prop := fun q => (∃ i, i ∈ ids ∧ q = ad i) ∨ sz ≤ q
def preP (D : va_G) (cy : Nat → ClassId) (ad : Nat → Nat) (sz : Nat) (σ : Mem) (U : State) : Prop := U.heap.size = sz ∧ va_P D vwCl (wd ad cy σ) U.heap ∧ va_K D vwCl (tysL cy) U ∧ (nwP U ∧ sxP ad (Aw ad sz) U) ∧ apart ad ∧ okm σ
def postP (D : va_G) (cy : Nat → ClassId) (ad : Nat → Nat) (u : Mem) (t : State) : Prop := va_P D vwCl (wd ad cy u) t.heap ∧ okm u
def rmO (fr lo : Nat) : Room := { frames := fr, cells := 0, slots := 0, locals := lo }
def MI (l : Launch) (y : MethodName) (cc : ByteArray) (nL : Nat) (ret : Option FieldType) (fr lo : Nat) (D : va_G) (cy : Nat → ClassId) (ad : Nat → Nat) (av : List AV) (σ : Mem) (Qp : Int → Mem → Prop) : Prop :=
  (∀ v ∈ av, okv v) → ∀ sz, Met l y (.code y cc nL ret :: gtw) (rmO fr lo) (va_Pc (av.map (mkv ad)) (preP D cy ad sz σ)) (va_Qi (fun (r : Int32) (u : Mem) => Qp r.toInt u) (postP D cy ad) (Aw ad sz)) 0 0 (Aw ad sz)
def ML (l : Launch) (y : MethodName) (cc : ByteArray) (nL : Nat) (ret : Option FieldType) (fr lo : Nat) (D : va_G) (cy : Nat → ClassId) (ad : Nat → Nat) (av : List AV) (σ : Mem) (Qp : Int → Mem → Prop) : Prop :=
  (∀ v ∈ av, okv v) → ∀ sz, Met l y (.code y cc nL ret :: gtw) (rmO fr lo) (va_Pc (av.map (mkv ad)) (preP D cy ad sz σ)) (va_Ql (fun (r : Int64) (u : Mem) => Qp r.toInt u) (postP D cy ad) (Aw ad sz)) 0 0 (Aw ad sz)
def MV (l : Launch) (y : MethodName) (cc : ByteArray) (nL : Nat) (ret : Option FieldType) (fr lo : Nat) (D : va_G) (cy : Nat → ClassId) (ad : Nat → Nat) (av : List AV) (σ : Mem) (Qp : Mem → Prop) : Prop :=
  (∀ v ∈ av, okv v) → ∀ sz, Met l y (.code y cc nL ret :: gtw) (rmO fr lo) (va_Pc (av.map (mkv ad)) (preP D cy ad sz σ)) (va_Qv (fun (u : Mem) => Qp u) (postP D cy ad) (Aw ad sz)) 0 0 (Aw ad sz)
def RI (E : TE) (ret : Option FieldType) (Qp : Int → Mem → Prop) : Prop := match E with
  | (p, l, e, R, s, m, args, below, meth, c, Q, D, cy, ad, A, k0, n0) => Q = MQ below (va_Qi (fun (r : Int32) (u : Mem) => Qp r.toInt u) (postP D cy ad) A) args s k0 n0 A ∧ meth.sig.returnType = ret ∧ meth.locks = false
def RJ (E : TE) (ret : Option FieldType) (Qp : Int → Mem → Prop) : Prop := match E with
  | (p, l, e, R, s, m, args, below, meth, c, Q, D, cy, ad, A, k0, n0) => Q = MQ below (va_Ql (fun (r : Int64) (u : Mem) => Qp r.toInt u) (postP D cy ad) A) args s k0 n0 A ∧ meth.sig.returnType = ret ∧ meth.locks = false
def RV (E : TE) (ret : Option FieldType) (Qp : Mem → Prop) : Prop := match E with
  | (p, l, e, R, s, m, args, below, meth, c, Q, D, cy, ad, A, k0, n0) => Q = MQ below (va_Qv (fun (u : Mem) => Qp u) (postP D cy ad) A) args s k0 n0 A ∧ meth.sig.returnType = ret ∧ meth.locks = false
def avl : Nat → List AV → List (Nat × AV)
  | _, [] => []
  | i, v :: vs => (i, v) :: avl (if cat2 v then i + 2 else i + 1) vs
theorem avl_mk (ad : Nat → Nat) : ∀ (av : List AV) (i : Nat), lv_args i (av.map (mkv ad)) = mkl ad (avl i av)
  | [], _ => rfl
  | v :: vs, i => by
    rw [List.map_cons, lv_args, avl, mkl, List.map_cons]
    have e : (if (mkv ad v).category = 2 then i + 2 else i + 1) = (if cat2 v then i + 2 else i + 1) := by
      rcases v with a | a | a | a <;> rfl
    rw [e, avl_mk ad vs]
    rfl
theorem avl_ok {P : AV → Prop} : ∀ (av : List AV) (i : Nat), (∀ v ∈ av, P v) → ∀ q ∈ avl i av, P q.2
  | [], _, _ => fun q h => by cases h
  | v :: vs, i, h => fun q hq => by
    rw [avl] at hq
    rcases List.mem_cons.mp hq with e | e
    · rw [e]; exact h v List.mem_cons_self
    · exact avl_ok vs _ (fun x hx => h x (List.mem_cons_of_mem _ hx)) q e
theorem sl_len (ad : Nat → Nat) : ∀ (av : List AV), (lg_sl (av.map (mkv ad))).length = (av.map fun v => if cat2 v then 2 else 1).sum
  | [] => rfl
  | v :: vs => by
    have ih := sl_len ad vs
    unfold lg_sl at ih ⊢
    rw [List.map_cons, List.flatMap_cons, List.length_append, ih, List.map_cons, List.sum_cons]
    congr 1
    rcases v with a | a | a | a <;> rfl
theorem pre_blind (av : List Value) (D : va_G) (cy : Nat → ClassId) (ad : Nat → Nat) (sz : Nat) (σ : Mem) : FrameBlind (va_Pc av (preP D cy ad sz σ)) := by
  intro a U g mk h
  obtain ⟨h1, h2, h3, h4, h5, h6, h7⟩ := h
  refine ⟨h1, h2, h3, va_K.moved (u := U) (U := U.calling g mk a) (Vm.Alike.refl U.vm) h4, ⟨?_, h5.2.same rfl rfl⟩, h6, h7⟩
  intro w hw
  have hz := h5.1 w hw
  have ho : w.onTables = true := by
    simp only [nwL, List.mem_cons, List.not_mem_nil, or_false] at hw
    rcases hw with rfl | rfl | rfl | rfl | rfl | rfl | rfl | rfl | rfl | rfl <;> rfl
  exact va_Nw.same ho (u := U) (U := U.calling g mk a) rfl hz
theorem Aw_in {ad : Nat → Nat} {A : Nat → Prop} {s : State} {H : Heap} {locs : List Loc} (hAi : ∀ i, i ∈ ids → A (ad i)) (hA : ∀ q, s.heap.size ≤ q → A q) (hS : va_S A s.heap H locs) (q : Nat) (h : Aw ad H.size q) : A q := by
  rcases h with ⟨i, hi, rfl⟩ | h
  · exact hAi i hi
  · exact hA q (Nat.le_trans hS.1 h)
def CWV (own : String) (index : Nat) (C : String) (y : MethodName) (cc2 : ByteArray) (nL2 : Nat) (ret : Option FieldType) (n : Nat) : Prop := Cond.methodLink own index y ∈ gtw ∧ Cond.instanceMethod y ∈ gtw ∧ Cond.selects C y y ∈ gtw ∧ Cond.initialized C ∈ gtw ∧ Cond.code y cc2 nL2 ret ∈ gtw ∧ (y.cls = C ∧ y.cls ≠ "java/lang/invoke/MethodHandle" ∧ y.cls ≠ "java/lang/invoke/VarHandle" ∧ (parseMethodDescriptor y.desc).map (fun d => d.parameters.length) = some n)
def CWS (own : String) (index : Nat) (y : MethodName) (cc2 : ByteArray) (nL2 : Nat) (ret : Option FieldType) (n : Nat) : Prop := Cond.methodLink own index y ∈ gtw ∧ Cond.static y ∈ gtw ∧ Cond.initialized own ∈ gtw ∧ Cond.code y cc2 nL2 ret ∈ gtw ∧ (y.cls = own ∧ y.cls ≠ "java/lang/invoke/MethodHandle" ∧ y.cls ≠ "java/lang/invoke/VarHandle" ∧ (parseMethodDescriptor y.desc).map (fun d => d.parameters.length) = some n)
def CWJ (own : String) (index : Nat) (y : MethodName) (cc2 : ByteArray) (nL2 : Nat) (ret : Option FieldType) (n : Nat) : Prop := Cond.methodLink own index y ∈ gtw ∧ Cond.static y ∈ gtw ∧ Cond.initialized y.cls ∈ gtw ∧ Cond.code y cc2 nL2 ret ∈ gtw ∧ (y.cls ≠ "java/lang/invoke/MethodHandle" ∧ y.cls ≠ "java/lang/invoke/VarHandle" ∧ (parseMethodDescriptor y.desc).map (fun d => d.parameters.length) = some n)
def CWN (own : String) (index : Nat) (y : MethodName) (cc2 : ByteArray) (nL2 : Nat) (ret : Option FieldType) (n : Nat) : Prop := Cond.methodLinkNest own index y "TrustClub" ∈ nwL ∧ Cond.static y ∈ gtw ∧ Cond.initialized y.cls ∈ gtw ∧ Cond.code y cc2 nL2 ret ∈ gtw ∧ (y.cls ≠ "java/lang/invoke/MethodHandle" ∧ y.cls ≠ "java/lang/invoke/VarHandle" ∧ (parseMethodDescriptor y.desc).map (fun d => d.parameters.length) = some n)
theorem gi_c {w : Cond} (h : w ∈ gtw) : GoodIn gtw (w :: gtw) := by
  intro x hx
  have hg : x ∈ gtw := (List.mem_cons.mp hx).elim (fun e => e ▸ h) id
  exact ⟨hg, good_of_word (List.mem_filter.mp hg).2⟩
theorem gi_V {own C : String} {index : Nat} {y : MethodName} {cc2 : ByteArray} {nL2 : Nat} {ret : Option FieldType} {n : Nat} (h : CWV own index C y cc2 nL2 ret n) : GoodIn gtw (wsV own index C y (Cond.code y cc2 nL2 ret :: gtw)) := by
  obtain ⟨h1, h2, h3, h4, h5, -⟩ := h
  intro x hx
  have hg : x ∈ gtw := by
    unfold wsV at hx
    simp only [List.mem_append, List.mem_cons, List.not_mem_nil, or_false] at hx
    rcases hx with (rfl | rfl | rfl | rfl) | rfl | hx
    · exact h1
    · exact h2
    · exact h3
    · exact h4
    · exact h5
    · exact hx
  exact ⟨hg, good_of_word (List.mem_filter.mp hg).2⟩
theorem gi_S {own : String} {index : Nat} {y : MethodName} {cc2 : ByteArray} {nL2 : Nat} {ret : Option FieldType} {n : Nat} (h : CWS own index y cc2 nL2 ret n) : GoodIn gtw (wsS own index y (Cond.code y cc2 nL2 ret :: gtw)) := by
  obtain ⟨h1, h2, h4, h5, -⟩ := h
  intro x hx
  have hg : x ∈ gtw := by
    unfold wsS at hx
    simp only [List.mem_append, List.mem_cons, List.not_mem_nil, or_false] at hx
    rcases hx with (rfl | rfl | rfl) | rfl | hx
    · exact h1
    · exact h2
    · exact h4
    · exact h5
    · exact hx
  exact ⟨hg, good_of_word (List.mem_filter.mp hg).2⟩
section GROWS3
variable {E : TE} {cc : ByteArray} {nL : Nat} {own : String} {fr lo : Nat} {σ : Mem} {pc : Nat} {lv lv' : List (Nat × AV)} {st stk : List AV}
variable {y : MethodName} {cc2 : ByteArray} {nL2 : Nat} {ret : Option FieldType} {fr2 lo2 : Nat} {b ci index : Nat} {fs : List (Option Nat)} {C : String} {T : u_T} {N : Nat}
theorem g_iret {a : Int} {Qp : Int → Mem → Prop} (hR : RI E (some .int) Qp) (hd : decode cc pc = .ok (.ireturn, 1)) (hq : Qp a σ) : GW E cc nL own fr lo σ pc lv [vI a] := by
  obtain ⟨p, l, e, R, s, m, args, below, meth, c, Q, D, cy, ad, A, k0, n0⟩ := E
  intro H locs ls F I
  have I0 := I
  obtain ⟨hm, hlv, hst, hP, hS, hl⟩ := I
  obtain ⟨hx, hb, hml, hown, hts, hK, hN, hap, hAi, hA, hfr, hlo⟩ := id F
  obtain ⟨rfl, r2, r3⟩ := hR
  exact W.iret (v := Int32.ofInt a) hx hb r2 (fun t ht hW => ⟨⟨Int32.ofInt a, σ, rfl, by show Qp (Int32.ofInt a).toInt σ; rw [oi_t (okv_h hst)]; exact hq, by rw [ht]; exact hP, hm⟩, hS.F ht⟩) hS.2.2 hd r3
theorem g_zret {a : Int} {Qp : Int → Mem → Prop} (hR : RI E (some .boolean) Qp) (hd : decode cc pc = .ok (.ireturn, 1)) (hz : a = 0 ∨ a = 1) (hq : Qp a σ) : GW E cc nL own fr lo σ pc lv [vI a] := by
  obtain ⟨p, l, e, R, s, m, args, below, meth, c, Q, D, cy, ad, A, k0, n0⟩ := E
  intro H locs ls F I
  have I0 := I
  obtain ⟨hm, hlv, hst, hP, hS, hl⟩ := I
  obtain ⟨hx, hb, hml, hown, hts, hK, hN, hap, hAi, hA, hfr, hlo⟩ := id F
  obtain ⟨rfl, r2, r3⟩ := hR
  exact W.zret (v := Int32.ofInt a) hx hb r2 (by rcases hz with rfl | rfl <;> rfl) (fun t ht hW => ⟨⟨Int32.ofInt a, σ, rfl, by show Qp (Int32.ofInt a).toInt σ; rw [oi_t (okv_h hst)]; exact hq, by rw [ht]; exact hP, hm⟩, hS.F ht⟩) hS.2.2 hd r3
theorem g_lret {a : Int} {Qp : Int → Mem → Prop} (hR : RJ E (some .long) Qp) (hd : decode cc pc = .ok (.lreturn, 1)) (hq : Qp a σ) : GW E cc nL own fr lo σ pc lv [vL a] := by
  obtain ⟨p, l, e, R, s, m, args, below, meth, c, Q, D, cy, ad, A, k0, n0⟩ := E
  intro H locs ls F I
  have I0 := I
  obtain ⟨hm, hlv, hst, hP, hS, hl⟩ := I
  obtain ⟨hx, hb, hml, hown, hts, hK, hN, hap, hAi, hA, hfr, hlo⟩ := id F
  obtain ⟨rfl, r2, r3⟩ := hR
  exact W.lret (v := Int64.ofInt a) hx hb r2 (fun t ht hW => ⟨⟨Int64.ofInt a, σ, rfl, by show Qp (Int64.ofInt a).toInt σ; rw [ol_t (okv_h hst)]; exact hq, by rw [ht]; exact hP, hm⟩, hS.F ht⟩) hS.2.2 hd r3
theorem g_vret {Qp : Mem → Prop} (hR : RV E none Qp) (hd : decode cc pc = .ok (.return_, 1)) (hq : Qp σ) : GW E cc nL own fr lo σ pc lv [] := by
  obtain ⟨p, l, e, R, s, m, args, below, meth, c, Q, D, cy, ad, A, k0, n0⟩ := E
  intro H locs ls F I
  have I0 := I
  obtain ⟨hm, hlv, hst, hP, hS, hl⟩ := I
  obtain ⟨hx, hb, hml, hown, hts, hK, hN, hap, hAi, hA, hfr, hlo⟩ := id F
  obtain ⟨rfl, r2, r3⟩ := hR
  exact W.vret hx hb r2 (fun t ht hW => ⟨⟨σ, rfl, hq, by rw [ht]; exact hP, hm⟩, hS.F ht⟩) hS.2.2 hd r3
theorem g_cVi {av : List AV} {Qp : Int → Mem → Prop} (hM : ∀ l D cy ad, MI l y cc2 nL2 ret fr2 lo2 D cy ad (vR b :: av) σ Qp) (hk : kd b = (0, ci, fs)) (hc : vwCl[ci]? = some (C, T, N)) (hw : CWV own index C y cc2 nL2 ret av.length) (hf1 : fr2 + 1 ≤ fr) (hf2 : 8 + (nL2 + 11) + lo2 ≤ lo) (h8 : (st.map fun v => if cat2 v then 2 else 1).sum ≤ 8) (hs : stk = av.reverse ++ vR b :: st) (hd : decode cc pc = .ok (.invokevirtual index, 3)) (kk : ∀ r u, Qp r u → GW E cc nL own fr lo u (pc + 3) lv (vI r :: st)) : GW E cc nL own fr lo σ pc lv stk := by
  obtain ⟨p, l, e, R, s, m, args, below, meth, c, Q, D, cy, ad, A, k0, n0⟩ := E
  intro H locs ls F I
  have I0 := I
  obtain ⟨hm, hlv, hst, hP, hS, hl⟩ := I
  obtain ⟨hx, hb, hml, hown, hts, hK, hN, hap, hAi, hA, hfr, hlo⟩ := id F
  have hM1 := hM l D cy ad (fun v hv => hst v (by rw [hs]; rcases List.mem_cons.mp hv with rfl | hv; exact List.mem_append_right _ List.mem_cons_self; exact List.mem_append_left _ (List.mem_reverse.mpr hv))) H.size
  obtain ⟨q, -, hq⟩ := wd_at (ad := ad) (cy := cy) (σ := σ) (id_of hk (by decide))
  rw [cel_o ad cy hk] at hq
  refine va_calli (va_runV (As := av.map (mkv ad)) (rest := st.map (mkv ad)) ⟨hx, hb, hml, hown, hts⟩ hM1 (cwV av.length hts (gi_V hw) rfl rfl rfl hw.2.2.2.2.2 ⟨by rw [hfr]; exact hf1, by rw [hlo]; exact hf2⟩) ⟨pre_blind _ D cy ad H.size σ, va_recv hK hP hc hq, fun U hU hW => ⟨rfl, by rw [hU], by rw [hU]; exact hP, va_K.moved hW.alike hK, ⟨hN.1.warm hW, hN.2.1.call hS hU hW (fun q h => Aw_in hAi hA hS q h)⟩, hap, hm⟩⟩ rfl (by simp) hl.1 (by rw [hs]; simp [List.map_append, List.map_reverse]; first | done | rfl) (lv_room (by rw [mk_cat]; exact h8)) hd ⟨hN.2.2.1, hN.2.2.2⟩) hS (fun q _ h => Aw_in hAi hA hS q h) (fun q h => Aw_in hAi hA hS q h) (fun r u t H1 locs1 ht hvm hw1 hB hz1 hk1 hS1 => ?_)
  have hh := kk r.toInt u hw1 H1 locs1 ls F ⟨hB.2, hlv, okv_c (inI_t r) (fun v hv => hst v (by rw [hs]; exact List.mem_append_right _ (List.mem_cons_of_mem _ hv))), by rw [← ht]; exact hB.1, hS1, hl⟩
  rw [List.map_cons, show mkv ad (vI r.toInt) = .int (Int32.ofInt r.toInt) from rfl, Int32.ofInt_toInt] at hh
  exact hh
theorem g_cVl {av : List AV} {Qp : Int → Mem → Prop} (hM : ∀ l D cy ad, ML l y cc2 nL2 ret fr2 lo2 D cy ad (vR b :: av) σ Qp) (hk : kd b = (0, ci, fs)) (hc : vwCl[ci]? = some (C, T, N)) (hw : CWV own index C y cc2 nL2 ret av.length) (hf1 : fr2 + 1 ≤ fr) (hf2 : 8 + (nL2 + 11) + lo2 ≤ lo) (h8 : (st.map fun v => if cat2 v then 2 else 1).sum ≤ 8) (hs : stk = av.reverse ++ vR b :: st) (hd : decode cc pc = .ok (.invokevirtual index, 3)) (kk : ∀ r u, Qp r u → GW E cc nL own fr lo u (pc + 3) lv (vL r :: st)) : GW E cc nL own fr lo σ pc lv stk := by
  obtain ⟨p, l, e, R, s, m, args, below, meth, c, Q, D, cy, ad, A, k0, n0⟩ := E
  intro H locs ls F I
  have I0 := I
  obtain ⟨hm, hlv, hst, hP, hS, hl⟩ := I
  obtain ⟨hx, hb, hml, hown, hts, hK, hN, hap, hAi, hA, hfr, hlo⟩ := id F
  have hM1 := hM l D cy ad (fun v hv => hst v (by rw [hs]; rcases List.mem_cons.mp hv with rfl | hv; exact List.mem_append_right _ List.mem_cons_self; exact List.mem_append_left _ (List.mem_reverse.mpr hv))) H.size
  obtain ⟨q, -, hq⟩ := wd_at (ad := ad) (cy := cy) (σ := σ) (id_of hk (by decide))
  rw [cel_o ad cy hk] at hq
  refine va_calll (va_runV (As := av.map (mkv ad)) (rest := st.map (mkv ad)) ⟨hx, hb, hml, hown, hts⟩ hM1 (cwV av.length hts (gi_V hw) rfl rfl rfl hw.2.2.2.2.2 ⟨by rw [hfr]; exact hf1, by rw [hlo]; exact hf2⟩) ⟨pre_blind _ D cy ad H.size σ, va_recv hK hP hc hq, fun U hU hW => ⟨rfl, by rw [hU], by rw [hU]; exact hP, va_K.moved hW.alike hK, ⟨hN.1.warm hW, hN.2.1.call hS hU hW (fun q h => Aw_in hAi hA hS q h)⟩, hap, hm⟩⟩ rfl (by simp) hl.1 (by rw [hs]; simp [List.map_append, List.map_reverse]; first | done | rfl) (lv_room (by rw [mk_cat]; exact h8)) hd ⟨hN.2.2.1, hN.2.2.2⟩) hS (fun q _ h => Aw_in hAi hA hS q h) (fun q h => Aw_in hAi hA hS q h) (fun r u t H1 locs1 ht hvm hw1 hB hz1 hk1 hS1 => ?_)
  have hh := kk r.toInt u hw1 H1 locs1 ls F ⟨hB.2, hlv, okv_c (inL_t r) (fun v hv => hst v (by rw [hs]; exact List.mem_append_right _ (List.mem_cons_of_mem _ hv))), by rw [← ht]; exact hB.1, hS1, hl⟩
  rw [List.map_cons, show mkv ad (vL r.toInt) = .long (Int64.ofInt r.toInt) from rfl, Int64.ofInt_toInt] at hh
  exact hh
theorem g_cVv {av : List AV} {Qp : Mem → Prop} (hM : ∀ l D cy ad, MV l y cc2 nL2 ret fr2 lo2 D cy ad (vR b :: av) σ Qp) (hk : kd b = (0, ci, fs)) (hc : vwCl[ci]? = some (C, T, N)) (hw : CWV own index C y cc2 nL2 ret av.length) (hf1 : fr2 + 1 ≤ fr) (hf2 : 8 + (nL2 + 11) + lo2 ≤ lo) (h8 : (st.map fun v => if cat2 v then 2 else 1).sum ≤ 8) (hs : stk = av.reverse ++ vR b :: st) (hd : decode cc pc = .ok (.invokevirtual index, 3)) (kk : ∀ u, Qp u → GW E cc nL own fr lo u (pc + 3) lv st) : GW E cc nL own fr lo σ pc lv stk := by
  obtain ⟨p, l, e, R, s, m, args, below, meth, c, Q, D, cy, ad, A, k0, n0⟩ := E
  intro H locs ls F I
  have I0 := I
  obtain ⟨hm, hlv, hst, hP, hS, hl⟩ := I
  obtain ⟨hx, hb, hml, hown, hts, hK, hN, hap, hAi, hA, hfr, hlo⟩ := id F
  have hM1 := hM l D cy ad (fun v hv => hst v (by rw [hs]; rcases List.mem_cons.mp hv with rfl | hv; exact List.mem_append_right _ List.mem_cons_self; exact List.mem_append_left _ (List.mem_reverse.mpr hv))) H.size
  obtain ⟨q, -, hq⟩ := wd_at (ad := ad) (cy := cy) (σ := σ) (id_of hk (by decide))
  rw [cel_o ad cy hk] at hq
  refine va_callv (va_runV (As := av.map (mkv ad)) (rest := st.map (mkv ad)) ⟨hx, hb, hml, hown, hts⟩ hM1 (cwV av.length hts (gi_V hw) rfl rfl rfl hw.2.2.2.2.2 ⟨by rw [hfr]; exact hf1, by rw [hlo]; exact hf2⟩) ⟨pre_blind _ D cy ad H.size σ, va_recv hK hP hc hq, fun U hU hW => ⟨rfl, by rw [hU], by rw [hU]; exact hP, va_K.moved hW.alike hK, ⟨hN.1.warm hW, hN.2.1.call hS hU hW (fun q h => Aw_in hAi hA hS q h)⟩, hap, hm⟩⟩ rfl (by simp) hl.1 (by rw [hs]; simp [List.map_append, List.map_reverse]; first | done | rfl) (lv_room (by rw [mk_cat]; exact h8)) hd ⟨hN.2.2.1, hN.2.2.2⟩) hS (fun q _ h => Aw_in hAi hA hS q h) (fun q h => Aw_in hAi hA hS q h) (fun u t H1 locs1 ht hvm hw1 hB hz1 hk1 hS1 => ?_)
  exact kk u hw1 H1 locs1 ls F ⟨hB.2, hlv, fun v hv => hst v (by rw [hs]; exact List.mem_append_right _ (List.mem_cons_of_mem _ hv)), by rw [← ht]; exact hB.1, hS1, hl⟩
theorem g_cSi {av : List AV} {Qp : Int → Mem → Prop} (hM : ∀ l D cy ad, MI l y cc2 nL2 ret fr2 lo2 D cy ad av σ Qp) (hw : CWS own index y cc2 nL2 ret av.length) (hf1 : fr2 + 1 ≤ fr) (hf2 : 8 + (nL2 + 11) + lo2 ≤ lo) (h8 : (st.map fun v => if cat2 v then 2 else 1).sum ≤ 8) (hs : stk = av.reverse ++ st) (hd : decode cc pc = .ok (.invokestatic index, 3)) (kk : ∀ r u, Qp r u → GW E cc nL own fr lo u (pc + 3) lv (vI r :: st)) : GW E cc nL own fr lo σ pc lv stk := by
  obtain ⟨p, l, e, R, s, m, args, below, meth, c, Q, D, cy, ad, A, k0, n0⟩ := E
  intro H locs ls F I
  have I0 := I
  obtain ⟨hm, hlv, hst, hP, hS, hl⟩ := I
  obtain ⟨hx, hb, hml, hown, hts, hK, hN, hap, hAi, hA, hfr, hlo⟩ := id F
  have hM1 := hM l D cy ad (fun v hv => hst v (by rw [hs]; exact List.mem_append_left _ (List.mem_reverse.mpr hv))) H.size
  refine va_calli (va_runS (As := av.map (mkv ad)) (rest := st.map (mkv ad)) ⟨hx, hb, hml, hown, hts⟩ hM1 (cwS av.length hts (gi_S hw) rfl rfl rfl hw.2.2.2.2 ⟨by rw [hfr]; exact hf1, by rw [hlo]; exact hf2⟩) ⟨pre_blind _ D cy ad H.size σ, fun U hU hW => ⟨rfl, by rw [hU], by rw [hU]; exact hP, va_K.moved hW.alike hK, ⟨hN.1.warm hW, hN.2.1.call hS hU hW (fun q h => Aw_in hAi hA hS q h)⟩, hap, hm⟩⟩ rfl (by simp) hl.1 (by rw [hs]; simp [List.map_append, List.map_reverse]; first | done | rfl) (lv_room (by rw [mk_cat]; exact h8)) hd ⟨hN.2.2.1, hN.2.2.2⟩) hS (fun q _ h => Aw_in hAi hA hS q h) (fun q h => Aw_in hAi hA hS q h) (fun r u t H1 locs1 ht hvm hw1 hB hz1 hk1 hS1 => ?_)
  have hh := kk r.toInt u hw1 H1 locs1 ls F ⟨hB.2, hlv, okv_c (inI_t r) (fun v hv => hst v (by rw [hs]; exact List.mem_append_right _ hv)), by rw [← ht]; exact hB.1, hS1, hl⟩
  rw [List.map_cons, show mkv ad (vI r.toInt) = .int (Int32.ofInt r.toInt) from rfl, Int32.ofInt_toInt] at hh
  exact hh
theorem g_cSv {av : List AV} {Qp : Mem → Prop} (hM : ∀ l D cy ad, MV l y cc2 nL2 ret fr2 lo2 D cy ad av σ Qp) (hw : CWS own index y cc2 nL2 ret av.length) (hf1 : fr2 + 1 ≤ fr) (hf2 : 8 + (nL2 + 11) + lo2 ≤ lo) (h8 : (st.map fun v => if cat2 v then 2 else 1).sum ≤ 8) (hs : stk = av.reverse ++ st) (hd : decode cc pc = .ok (.invokestatic index, 3)) (kk : ∀ u, Qp u → GW E cc nL own fr lo u (pc + 3) lv st) : GW E cc nL own fr lo σ pc lv stk := by
  obtain ⟨p, l, e, R, s, m, args, below, meth, c, Q, D, cy, ad, A, k0, n0⟩ := E
  intro H locs ls F I
  have I0 := I
  obtain ⟨hm, hlv, hst, hP, hS, hl⟩ := I
  obtain ⟨hx, hb, hml, hown, hts, hK, hN, hap, hAi, hA, hfr, hlo⟩ := id F
  have hM1 := hM l D cy ad (fun v hv => hst v (by rw [hs]; exact List.mem_append_left _ (List.mem_reverse.mpr hv))) H.size
  refine va_callv (va_runS (As := av.map (mkv ad)) (rest := st.map (mkv ad)) ⟨hx, hb, hml, hown, hts⟩ hM1 (cwS av.length hts (gi_S hw) rfl rfl rfl hw.2.2.2.2 ⟨by rw [hfr]; exact hf1, by rw [hlo]; exact hf2⟩) ⟨pre_blind _ D cy ad H.size σ, fun U hU hW => ⟨rfl, by rw [hU], by rw [hU]; exact hP, va_K.moved hW.alike hK, ⟨hN.1.warm hW, hN.2.1.call hS hU hW (fun q h => Aw_in hAi hA hS q h)⟩, hap, hm⟩⟩ rfl (by simp) hl.1 (by rw [hs]; simp [List.map_append, List.map_reverse]; first | done | rfl) (lv_room (by rw [mk_cat]; exact h8)) hd ⟨hN.2.2.1, hN.2.2.2⟩) hS (fun q _ h => Aw_in hAi hA hS q h) (fun q h => Aw_in hAi hA hS q h) (fun u t H1 locs1 ht hvm hw1 hB hz1 hk1 hS1 => ?_)
  exact kk u hw1 H1 locs1 ls F ⟨hB.2, hlv, fun v hv => hst v (by rw [hs]; exact List.mem_append_right _ hv), by rw [← ht]; exact hB.1, hS1, hl⟩
theorem g_cJi {av : List AV} {Qp : Int → Mem → Prop} (hM : ∀ l D cy ad, MI l y cc2 nL2 ret fr2 lo2 D cy ad av σ Qp) (hw : CWJ own index y cc2 nL2 ret av.length) (hf1 : fr2 + 1 ≤ fr) (hf2 : 8 + (nL2 + 11) + lo2 ≤ lo) (h8 : (st.map fun v => if cat2 v then 2 else 1).sum ≤ 8) (hs : stk = av.reverse ++ st) (hd : decode cc pc = .ok (.invokestatic index, 3)) (kk : ∀ r u, Qp r u → GW E cc nL own fr lo u (pc + 3) lv (vI r :: st)) : GW E cc nL own fr lo σ pc lv stk := by
  obtain ⟨p, l, e, R, s, m, args, below, meth, c, Q, D, cy, ad, A, k0, n0⟩ := E
  intro H locs ls F I
  have I0 := I
  obtain ⟨hm, hlv, hst, hP, hS, hl⟩ := I
  obtain ⟨hx, hb, hml, hown, hts, hK, hN, hap, hAi, hA, hfr, hlo⟩ := id F
  have hM1 := hM l D cy ad (fun v hv => hst v (by rw [hs]; exact List.mem_append_left _ (List.mem_reverse.mpr hv))) H.size
  refine va_calli (va_runS (As := av.map (mkv ad)) (rest := st.map (mkv ad)) ⟨hx, hb, hml, hown, hts⟩ hM1 ⟨callB_of av.length hts (gi_c hw.2.2.2.1) rfl rfl rfl (hts _ hw.2.2.1) (hts _ hw.1) hw.2.2.2.2 ⟨by rw [hfr]; exact hf1, by rw [hlo]; exact hf2⟩, hts _ hw.2.1⟩ ⟨pre_blind _ D cy ad H.size σ, fun U hU hW => ⟨rfl, by rw [hU], by rw [hU]; exact hP, va_K.moved hW.alike hK, ⟨hN.1.warm hW, hN.2.1.call hS hU hW (fun q h => Aw_in hAi hA hS q h)⟩, hap, hm⟩⟩ rfl (by simp) hl.1 (by rw [hs]; simp [List.map_append, List.map_reverse]; first | done | rfl) (lv_room (by rw [mk_cat]; exact h8)) hd ⟨hN.2.2.1, hN.2.2.2⟩) hS (fun q _ h => Aw_in hAi hA hS q h) (fun q h => Aw_in hAi hA hS q h) (fun r u t H1 locs1 ht hvm hw1 hB hz1 hk1 hS1 => ?_)
  have hh := kk r.toInt u hw1 H1 locs1 ls F ⟨hB.2, hlv, okv_c (inI_t r) (fun v hv => hst v (by rw [hs]; exact List.mem_append_right _ hv)), by rw [← ht]; exact hB.1, hS1, hl⟩
  rw [List.map_cons, show mkv ad (vI r.toInt) = .int (Int32.ofInt r.toInt) from rfl, Int32.ofInt_toInt] at hh
  exact hh
theorem g_cNi {av : List AV} {Qp : Int → Mem → Prop} (hM : ∀ l D cy ad, MI l y cc2 nL2 ret fr2 lo2 D cy ad av σ Qp) (hw : CWN own index y cc2 nL2 ret av.length) (hf1 : fr2 + 1 ≤ fr) (hf2 : 8 + (nL2 + 11) + lo2 ≤ lo) (h8 : (st.map fun v => if cat2 v then 2 else 1).sum ≤ 8) (hs : stk = av.reverse ++ st) (hd : decode cc pc = .ok (.invokestatic index, 3)) (kk : ∀ r u, Qp r u → GW E cc nL own fr lo u (pc + 3) lv (vI r :: st)) : GW E cc nL own fr lo σ pc lv stk := by
  obtain ⟨p, l, e, R, s, m, args, below, meth, c, Q, D, cy, ad, A, k0, n0⟩ := E
  intro H locs ls F I
  have I0 := I
  obtain ⟨hm, hlv, hst, hP, hS, hl⟩ := I
  obtain ⟨hx, hb, hml, hown, hts, hK, hN, hap, hAi, hA, hfr, hlo⟩ := id F
  have hM1 := hM l D cy ad (fun v hv => hst v (by rw [hs]; exact List.mem_append_left _ (List.mem_reverse.mpr hv))) H.size
  refine va_calli (va_runSN (As := av.map (mkv ad)) (rest := st.map (mkv ad)) ⟨hx, hb, hml, hown, hts⟩ hM1 ⟨va_cnB av.length hts (gi_c hw.2.2.2.1) rfl rfl rfl (hN.1 _ hw.1) (hts _ hw.2.2.1) hw.2.2.2.2 ⟨by rw [hfr]; exact hf1, by rw [hlo]; exact hf2⟩, hts _ hw.2.1, trivial⟩ ⟨pre_blind _ D cy ad H.size σ, fun U hU hW => ⟨rfl, by rw [hU], by rw [hU]; exact hP, va_K.moved hW.alike hK, ⟨hN.1.warm hW, hN.2.1.call hS hU hW (fun q h => Aw_in hAi hA hS q h)⟩, hap, hm⟩⟩ rfl (by simp) hl.1 (by rw [hs]; simp [List.map_append, List.map_reverse]; first | done | rfl) (lv_room (by rw [mk_cat]; exact h8)) hd ⟨hN.2.2.1, hN.2.2.2⟩) hS (fun q _ h => Aw_in hAi hA hS q h) (fun q h => Aw_in hAi hA hS q h) (fun r u t H1 locs1 ht hvm hw1 hB hz1 hk1 hS1 => ?_)
  have hh := kk r.toInt u hw1 H1 locs1 ls F ⟨hB.2, hlv, okv_c (inI_t r) (fun v hv => hst v (by rw [hs]; exact List.mem_append_right _ hv)), by rw [← ht]; exact hB.1, hS1, hl⟩
  rw [List.map_cons, show mkv ad (vI r.toInt) = .int (Int32.ofInt r.toInt) from rfl, Int32.ofInt_toInt] at hh
  exact hh
end GROWS3
theorem m_I {y : MethodName} {cc : ByteArray} {nL : Nat} {ret : Option FieldType} {fr lo : Nat} {av : List AV} {σ : Mem} {Qp : Int → Mem → Prop} {own : String} {lv : List (Nat × AV)} (hy : plainName y.cls = true) (ho : y.cls = own) (hn : (av.map fun v => if cat2 v then 2 else 1).sum ≤ nL) (hlv : avl 0 av = lv) (body : ∀ E : TE, RI E ret Qp → GW E cc nL own fr lo σ 0 lv []) (l : Launch) (D : va_G) (cy : Nat → ClassId) (ad : Nat → Nat) : MI l y cc nL ret fr lo D cy ad av σ Qp := by
  intro hav sz
  refine Met.ofW (cc := cc) (maxL := nL) (ret := ret) hy rfl ?_
  intro p e s m args below meth c s₁ B hml hv
  obtain ⟨rfl, hsz, hP, hK, hN, hap, hok⟩ := hv
  have hts0 := atoms_spec (ws := Cond.code y cc nL ret :: gtw) B.pre
  have hown : s.vm.findClass y.cls = some m.cls := findClass_of_methodNamed B.named
  subst hsz
  subst hlv
  subst ho
  have hl := lv_entry (av.map (mkv ad)) (n := nL) (by rw [sl_len]; exact hn)
  rw [lg_entry_eq]
  rw [avl_mk ad av 0] at hl
  exact body (p, l, e, (headSpec (Cond.code y cc nL ret :: gtw) (rmO fr lo)).room, s, m, (av.map (mkv ad)).toArray, below, meth, c, MQ below (va_Qi (fun (r : Int32) (u : Mem) => Qp r.toInt u) (postP D cy ad) (Aw ad s.heap.size)) (av.map (mkv ad)).toArray s 0 0 (Aw ad s.heap.size), D, cy, ad, Aw ad s.heap.size, 0, 0) ⟨rfl, B.returns, B.notSynchronized⟩ s.heap [] _ ⟨B.exec, B.bytes, hml, hown, fun w hw => hts0 w (List.mem_cons_of_mem _ hw), hK, ⟨hN.1, hN.2, Nat.zero_le _, Nat.zero_le _⟩, hap, fun i hi => Or.inl ⟨i, hi, rfl⟩, fun q hq => Or.inr hq, rfl, rfl⟩ ⟨hok, avl_ok av 0 hav, fun v h => by (cases h), hP, va_S.rf, hl⟩
theorem m_L {y : MethodName} {cc : ByteArray} {nL : Nat} {ret : Option FieldType} {fr lo : Nat} {av : List AV} {σ : Mem} {Qp : Int → Mem → Prop} {own : String} {lv : List (Nat × AV)} (hy : plainName y.cls = true) (ho : y.cls = own) (hn : (av.map fun v => if cat2 v then 2 else 1).sum ≤ nL) (hlv : avl 0 av = lv) (body : ∀ E : TE, RJ E ret Qp → GW E cc nL own fr lo σ 0 lv []) (l : Launch) (D : va_G) (cy : Nat → ClassId) (ad : Nat → Nat) : ML l y cc nL ret fr lo D cy ad av σ Qp := by
  intro hav sz
  refine Met.ofW (cc := cc) (maxL := nL) (ret := ret) hy rfl ?_
  intro p e s m args below meth c s₁ B hml hv
  obtain ⟨rfl, hsz, hP, hK, hN, hap, hok⟩ := hv
  have hts0 := atoms_spec (ws := Cond.code y cc nL ret :: gtw) B.pre
  have hown : s.vm.findClass y.cls = some m.cls := findClass_of_methodNamed B.named
  subst hsz
  subst hlv
  subst ho
  have hl := lv_entry (av.map (mkv ad)) (n := nL) (by rw [sl_len]; exact hn)
  rw [lg_entry_eq]
  rw [avl_mk ad av 0] at hl
  exact body (p, l, e, (headSpec (Cond.code y cc nL ret :: gtw) (rmO fr lo)).room, s, m, (av.map (mkv ad)).toArray, below, meth, c, MQ below (va_Ql (fun (r : Int64) (u : Mem) => Qp r.toInt u) (postP D cy ad) (Aw ad s.heap.size)) (av.map (mkv ad)).toArray s 0 0 (Aw ad s.heap.size), D, cy, ad, Aw ad s.heap.size, 0, 0) ⟨rfl, B.returns, B.notSynchronized⟩ s.heap [] _ ⟨B.exec, B.bytes, hml, hown, fun w hw => hts0 w (List.mem_cons_of_mem _ hw), hK, ⟨hN.1, hN.2, Nat.zero_le _, Nat.zero_le _⟩, hap, fun i hi => Or.inl ⟨i, hi, rfl⟩, fun q hq => Or.inr hq, rfl, rfl⟩ ⟨hok, avl_ok av 0 hav, fun v h => by (cases h), hP, va_S.rf, hl⟩
theorem m_V {y : MethodName} {cc : ByteArray} {nL : Nat} {ret : Option FieldType} {fr lo : Nat} {av : List AV} {σ : Mem} {Qp : Mem → Prop} {own : String} {lv : List (Nat × AV)} (hy : plainName y.cls = true) (ho : y.cls = own) (hn : (av.map fun v => if cat2 v then 2 else 1).sum ≤ nL) (hlv : avl 0 av = lv) (body : ∀ E : TE, RV E ret Qp → GW E cc nL own fr lo σ 0 lv []) (l : Launch) (D : va_G) (cy : Nat → ClassId) (ad : Nat → Nat) : MV l y cc nL ret fr lo D cy ad av σ Qp := by
  intro hav sz
  refine Met.ofW (cc := cc) (maxL := nL) (ret := ret) hy rfl ?_
  intro p e s m args below meth c s₁ B hml hv
  obtain ⟨rfl, hsz, hP, hK, hN, hap, hok⟩ := hv
  have hts0 := atoms_spec (ws := Cond.code y cc nL ret :: gtw) B.pre
  have hown : s.vm.findClass y.cls = some m.cls := findClass_of_methodNamed B.named
  subst hsz
  subst hlv
  subst ho
  have hl := lv_entry (av.map (mkv ad)) (n := nL) (by rw [sl_len]; exact hn)
  rw [lg_entry_eq]
  rw [avl_mk ad av 0] at hl
  exact body (p, l, e, (headSpec (Cond.code y cc nL ret :: gtw) (rmO fr lo)).room, s, m, (av.map (mkv ad)).toArray, below, meth, c, MQ below (va_Qv (fun (u : Mem) => Qp u) (postP D cy ad) (Aw ad s.heap.size)) (av.map (mkv ad)).toArray s 0 0 (Aw ad s.heap.size), D, cy, ad, Aw ad s.heap.size, 0, 0) ⟨rfl, B.returns, B.notSynchronized⟩ s.heap [] _ ⟨B.exec, B.bytes, hml, hown, fun w hw => hts0 w (List.mem_cons_of_mem _ hw), hK, ⟨hN.1, hN.2, Nat.zero_le _, Nat.zero_le _⟩, hap, fun i hi => Or.inl ⟨i, hi, rfl⟩, fun q hq => Or.inr hq, rfl, rfl⟩ ⟨hok, avl_ok av 0 hav, fun v h => by (cases h), hP, va_S.rf, hl⟩
