def SXq (s : State) (A : Nat → Prop) (b L : Nat) (xi : Nat → Int) : Prop := ∃ xs : Nat → Int32, va_X b L xs s s.heap ∧ b < s.heap.size ∧ ¬ A b ∧ L ≤ 3584 ∧ ∀ j, xi j = (xs j).toInt
def bnd (x : Int) (k0 n0 : Nat) : Prop := 0 ≤ x ∧ x ≤ 3591 ∧ (k0 : Int) ≤ 2000 + x ∧ (n0 : Int) ≤ 60000 + 6 * x
def bnd2 (x : Int) (k0 n0 : Nat) : Prop := bnd x k0 n0 ∧ x + 7 ≤ 3584
theorem bnd_c {x : Int} {k0 n0 L : Nat} (h : bnd x k0 n0) (hL : L ≤ 3584) (hc : ¬ w32 ((L : Int) - 7) < x) : bnd2 x k0 n0 := by
  rw [w32_id (by omega) (by omega)] at hc
  exact ⟨h, by omega⟩
theorem bnd_s0 {x x1 : Int} {k0 n0 : Nat} (h : bnd2 x k0 n0) (e : x1 = w32 (x + 7)) : bnd x1 k0 n0 := by
  obtain ⟨⟨h1, h2, h3, h4⟩, h5⟩ := h
  rw [w32_id (by omega) (by omega)] at e
  subst e
  exact ⟨by omega, by omega, by omega, by omega⟩
theorem bnd_s1 {x x1 : Int} {k0 n0 : Nat} (h : bnd2 x k0 n0) (e : x1 = w32 (x + 7)) : bnd x1 (k0 + 1) (n0 + 6) := by
  obtain ⟨⟨h1, h2, h3, h4⟩, h5⟩ := h
  rw [w32_id (by omega) (by omega)] at e
  subst e
  exact ⟨by omega, by omega, by omega, by omega⟩
theorem SXq.le {s : State} {A : Nat → Prop} {b L : Nat} {xi : Nat → Int} (h : SXq s A b L xi) : L ≤ 3584 := by
  obtain ⟨xs, -, -, -, h, -⟩ := h
  exact h
def CWH (own : String) (index : Nat) (y : MethodName) (cc2 : ByteArray) (nL2 : Nat) (ret : Option FieldType) (hh : List (Nat × Nat × Nat × Nat)) (n : Nat) : Prop := Cond.methodLink own index y ∈ gtw ∧ Cond.static y ∈ gtw ∧ Cond.initialized y.cls ∈ gtw ∧ Cond.codeWith y cc2 nL2 ret hh ∈ gtw ∧ (y.cls ≠ "java/lang/invoke/MethodHandle" ∧ y.cls ≠ "java/lang/invoke/VarHandle" ∧ (parseMethodDescriptor y.desc).map (fun d => d.parameters.length) = some n)
theorem gi_H {own : String} {index : Nat} {y : MethodName} {cc2 : ByteArray} {nL2 : Nat} {ret : Option FieldType} {hh : List (Nat × Nat × Nat × Nat)} {n : Nat} (h : CWH own index y cc2 nL2 ret hh n) : GoodIn gtw (va_wsS own index y (Cond.codeWith y cc2 nL2 ret hh :: gtw)) := by
  obtain ⟨h1, h2, h4, h5, -⟩ := h
  intro x hx
  have hg : x ∈ gtw := by
    unfold va_wsS at hx
    simp only [List.mem_append, List.mem_cons, List.not_mem_nil, or_false] at hx
    rcases hx with (rfl | rfl | rfl) | rfl | hx
    · exact h1
    · exact h2
    · exact h4
    · exact h5
    · exact hx
  exact ⟨hg, good_of_word (List.mem_filter.mp hg).2⟩
section GROWS8
variable {p : Program} {l : Launch} {e : Env} {R : Room} {s : State} {m : MethodId} {args : Array Value} {below : List Frame} {meth : Method} {c : Code} {Q : State → Prop} {D : va_G} {cy : Nat → ClassId} {ad : Nat → Nat} {A : Nat → Prop} {k0 n0 : Nat}
variable {cc : ByteArray} {nL : Nat} {own : String} {fr lo : Nat} {σ : Mem} {pc : Nat} {lv lv' : List (Nat × AV)} {st stk : List AV} {b L : Nat} {xi : Nat → Int}
variable {y : MethodName} {cc2 : ByteArray} {nL2 : Nat} {ret : Option FieldType} {fr2 lo2 : Nat} {index : Nat}
theorem g_xload {k : Fin 4} {a : Nat} (hd : decode cc pc = .ok (.aload_n k, 1)) (hi : lv.lookup (k : Nat) = some (vX a)) (kk : GW (p, l, e, R, s, m, args, below, meth, c, Q, D, cy, ad, A, k0, n0) cc nL own fr lo σ (pc + 1) lv (vX a :: st)) : GW (p, l, e, R, s, m, args, below, meth, c, Q, D, cy, ad, A, k0, n0) cc nL own fr lo σ pc lv st := by
  intro H locs ls F I
  obtain ⟨hm, hlv, hst, hP, hS, hl⟩ := I
  obtain ⟨hx, hb, hml, hown, hts, hK, hN, hap, hAi, hA, hfr, hlo⟩ := id F
  exact lv_aload_n (x := a) hx hb hd rfl (lk_at hl hi) (kk H locs ls F ⟨hm, hlv, okv_c trivial hst, hP, hS, hl⟩)
theorem g_sld {a : Int} (hX : SXq s A b L xi) (hin : 0 ≤ a ∧ a < L) (hd : decode cc pc = .ok (.iaload, 1)) (kk : GW (p, l, e, R, s, m, args, below, meth, c, Q, D, cy, ad, A, k0, n0) cc nL own fr lo σ (pc + 1) lv (vI (xi a.toNat) :: st)) : GW (p, l, e, R, s, m, args, below, meth, c, Q, D, cy, ad, A, k0, n0) cc nL own fr lo σ pc lv (vI a :: vX b :: st) := by
  intro H locs ls F I
  obtain ⟨hm, hlv, hst, hP, hS, hl⟩ := I
  obtain ⟨hx, hb, hml, hown, hts, hK, hN, hap, hAi, hA, hfr, hlo⟩ := id F
  obtain ⟨xs, x1, x2, x3, x4, x5⟩ := hX
  refine va_sld hx hb x1 x2 x3 hS (oi_vin (okv_h hst) hin) hd ?_
  rw [oi_cl (okv_h hst)]
  rw [x5] at kk
  have h := kk H locs ls F ⟨hm, hlv, okv_c (inI_t _) (okv_t (okv_t hst)), hP, hS, hl⟩
  rw [List.map_cons, show mkv ad (vI (xs a.toNat).toInt) = .int (Int32.ofInt (xs a.toNat).toInt) from rfl, Int32.ofInt_toInt] at h
  exact h
theorem g_slen (hX : SXq s A b L xi) (hd : decode cc pc = .ok (.arraylength, 1)) (kk : GW (p, l, e, R, s, m, args, below, meth, c, Q, D, cy, ad, A, k0, n0) cc nL own fr lo σ (pc + 1) lv (vI (L : Int) :: st)) : GW (p, l, e, R, s, m, args, below, meth, c, Q, D, cy, ad, A, k0, n0) cc nL own fr lo σ pc lv (vX b :: st) := by
  intro H locs ls F I
  obtain ⟨hm, hlv, hst, hP, hS, hl⟩ := I
  obtain ⟨hx, hb, hml, hown, hts, hK, hN, hap, hAi, hA, hfr, hlo⟩ := id F
  have hLe := hX.le
  obtain ⟨xs, x1, x2, x3, x4, x5⟩ := hX
  refine va_slen hx hb x1 x2 x3 hS hd ?_
  exact kk H locs ls F ⟨hm, hlv, okv_c (show inI (L : Int) from ⟨by omega, by omega⟩) (okv_t hst), hP, hS, hl⟩
theorem g_cL {av : List AV} {hh : List (Nat × Nat × Nat × Nat)} {Qp : Int → Mem → Prop} (hTr : l.stackTraces = false) (hM : ∀ l D cy ad, MH l y cc2 nL2 ret hh fr2 lo2 D cy ad av σ Qp) (hw : CWH own index y cc2 nL2 ret hh av.length) (hf1 : fr2 + 1 ≤ fr) (hf2 : 8 + (nL2 + 11) + lo2 ≤ lo) (h8 : (st.map fun v => if cat2 v then 2 else 1).sum ≤ 8) (hs : stk = av.reverse ++ st) (hd : decode cc pc = .ok (.invokestatic index, 3)) (hcap : k0 + 1 ≤ R.cells ∧ n0 + 6 ≤ R.slots) (kk : ∀ r u, Qp r u → GW (p, l, e, R, s, m, args, below, meth, c, Q, D, cy, ad, A, k0 + 1, n0 + 6) cc nL own fr lo u (pc + 3) lv (vI r :: st)) : GW (p, l, e, R, s, m, args, below, meth, c, Q, D, cy, ad, A, k0, n0) cc nL own fr lo σ pc lv stk := by
  intro H locs ls F I
  obtain ⟨hm, hlv, hst, hP, hS, hl⟩ := I
  obtain ⟨hx, hb, hml, hown, hts, hK, hN, hap, hAi, hA, hfr, hlo⟩ := id F
  have F1 : Fx p R s m args c D cy ad A (k0 + 1) (n0 + 6) cc nL own fr lo := ⟨hx, hb, hml, hown, hts, hK, ⟨hN.1, hN.2.1, hcap.1, hcap.2⟩, hap, hAi, hA, hfr, hlo⟩
  have hM1 := hM l D cy ad hTr (fun v hv => hst v (by rw [hs]; exact List.mem_append_left _ (List.mem_reverse.mpr hv))) H.size
  refine va_calli (vx_runSW (As := av.map (mkv ad)) (rest := st.map (mkv ad)) ⟨hx, hb, hml, hown, hts⟩ hM1 (vx_cwSW av.length hts (gi_H hw) rfl rfl rfl hw.2.2.2.2 ⟨by rw [hfr]; exact hf1, by rw [hlo]; exact hf2⟩) ⟨pre_blind _ D cy ad H.size σ, fun U hU hW => ⟨rfl, by rw [hU], by rw [hU]; exact hP, va_K.moved hW.alike hK, ⟨hN.1.warm hW, hN.2.1.call hS hU hW (fun q h => Aw_in hAi hA hS q h)⟩, hap, hm⟩⟩ rfl (by simp) hl.1 (by rw [hs]; simp [List.map_append, List.map_reverse]; first | done | rfl) (lv_room (by rw [mk_cat]; exact h8)) hd hcap) hS (fun q _ h => Aw_in hAi hA hS q h) (fun q h => Aw_in hAi hA hS q h) (fun r u t H1 locs1 ht hvm hw1 hB hz1 hk1 hS1 => ?_)
  have hh := kk r.toInt u hw1 H1 locs1 ls F1 ⟨hB.2, hlv, okv_c (inI_t r) (fun v hv => hst v (by rw [hs]; exact List.mem_append_right _ hv)), by rw [← ht]; exact hB.1, hS1, hl⟩
  rw [List.map_cons, show mkv ad (vI r.toInt) = .int (Int32.ofInt r.toInt) from rfl, Int32.ofInt_toInt] at hh
  exact hh
end GROWS8
