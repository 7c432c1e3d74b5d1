/-! THE CLAIM OUT OF ONE WALK OF THE LAW'S BODY. Your part is whole_start (and what it stands on); all else here is the same for every law, but numbers. -/
def R_law : String := "TrustClubLaw"
def lw_P (b : Addr) (xs : List Int32) (args : Array Value) (s : State) : Prop := args = #[.ref b] ∧ s.IntsAt b xs ∧ xs.length ≤ 3584 ∧ (Jvm.Cond.and given_1 narrow_1).before args s = true
def lw_Q (_ : Array Value) (s : State) (o : Outcome) (t : State) : Prop := o = .returned (some (.int 1)) ∧ Framed s o t [] 601024 7293034
def lw_Z (below : List Frame) (a : Array Value) (s : State) : State → Prop := fun t => ∃ o, t.status = .running ∧ Ended t below o ∧ lw_Q a s o t
/-- the law's own end, with 1 on the stack, nothing written that was there before, its room as the claim has it -/
theorem lw_ret {p : Program} {l : Launch} {e : Env} {s : State} {m : MethodId} {below : List Frame} {meth : Method} {c : Code} {b : Nat} (hx : p.tables.exec = Jvm.exec) (hb : c.code = code) (hr : meth.sig.returnType = ret) (hlocks : meth.locks = false) {pc : Nat} {H : Heap} {ls : Array Slot} (hdg : decode code pc = .ok (.ireturn, 1)) : W p l e room_1 s m #[Value.ref b] below meth c H [] 601024 7293034 (lw_Z below #[Value.ref b] s) (F0 m pc ls [.int 1]) := by
  intro T hT X
  obtain ⟨fs, hret, hrun, hended, hW, hframe⟩ := X.leave (v := some (.int 1)) (hlocks := hlocks) (fun h => by rw [hr] at h; cases h)
  have hmeth' : T.vm.method? m = some meth := X.method'
  refine ⟨T.setFrames fs, ?_, .returned (some (.int 1)), hrun, hended, rfl, ⟨_, rfl⟩, hW, hframe⟩
  jvm_step X.here [X.here.top, hx, hb, hdg, hmeth', hr, ret, narrow_b1]
  (try refine ⟨rfl, ?_⟩); (try refine ⟨rfl, ?_⟩)
  first | (intro acts; rw [hret _ acts rfl rfl rfl]) | rw [hret _ _ rfl rfl rfl]
  exact Steps.refl _
/-- what holds at the law's entry: the machine, the code, the tables' words (any of lw_tbl by 'hts w (by decide +kernel)'), the script of L ints xs at the cell b, what the Statement gives of the start (any of its parts by flat_of_before) -/
def lw_At (p : Program) (s : State) (m : MethodId) (meth : Method) (c : Code) (b L : Nat) (xs : Nat → Int32) : Prop :=
  p.tables.exec = Jvm.exec ∧ c.code = code ∧ meth.sig.returnType = ret ∧ c.maxLocals = 8 ∧ s.vm.findClass R_law = some m.cls ∧ (∀ w ∈ lw_tbl, w.before #[Value.ref b] s = true) ∧ va_X b L xs s s.heap ∧ b < s.heap.size ∧ meth.locks = false ∧ (Jvm.Cond.and given_1 narrow_1).before #[Value.ref b] s = true

theorem ql_1 : Cond.classLink RL 8 RX10 ∈ gtw := gtw_in (List.mem_of_getElem? (i := 118) (by decide +kernel)) (by decide +kernel)
theorem ql_2 : Cond.instantiable RX10 13 ∈ gtw := gtw_in (List.mem_of_getElem? (i := 119) (by decide +kernel)) (by decide +kernel)
theorem ql_3 : Cond.initialized RX10 ∈ gtw := gtw_in (List.mem_of_getElem? (i := 94) (by decide +kernel)) (by decide +kernel)
theorem ql_4 : Cond.methodLink RL 23 yX10_init ∈ gtw := gtw_in (List.mem_of_getElem? (i := 120) (by decide +kernel)) (by decide +kernel)
theorem ql_7 : Cond.classLink RL 24 RX11 ∈ gtw := gtw_in (List.mem_of_getElem? (i := 1097) (by decide +kernel)) (by decide +kernel)
theorem ql_8 : Cond.instantiable RX11 32 ∈ gtw := gtw_in (List.mem_of_getElem? (i := 1098) (by decide +kernel)) (by decide +kernel)
theorem ql_9 : Cond.initialized RX11 ∈ gtw := gtw_in (List.mem_of_getElem? (i := 105) (by decide +kernel)) (by decide +kernel)
theorem ql_10 : Cond.methodLink RL 26 yX11_init ∈ gtw := gtw_in (List.mem_of_getElem? (i := 1099) (by decide +kernel)) (by decide +kernel)
theorem ql_5 : Cond.instanceMethod yX10_init ∈ gtw := gtw_in (List.mem_of_getElem? (i := 121) (by decide +kernel)) (by decide +kernel)
theorem ql_5c : Cond.code yX10_init cX10_init 2 none ∈ gtw := gtw_in (List.mem_of_getElem? (i := 122) (by decide +kernel)) (by decide +kernel)
theorem ql_11 : Cond.instanceMethod yX11_init ∈ gtw := gtw_in (List.mem_of_getElem? (i := 1100) (by decide +kernel)) (by decide +kernel)
theorem ql_11c : Cond.code yX11_init cX11_init 1 none ∈ gtw := gtw_in (List.mem_of_getElem? (i := 1101) (by decide +kernel)) (by decide +kernel)
theorem cwi_L_23 : CWI RL 23 yX10_init cX10_init 2 := ⟨ql_4, ql_5, ql_5c, ql_3, rfl, ⟨by decide, by decide, by decide +kernel⟩⟩
theorem cwi_L_26 : CWI RL 26 yX11_init cX11_init 1 := ⟨ql_10, ql_11, ql_11c, ql_9, rfl, ⟨by decide, by decide, by decide +kernel⟩⟩
section CROWS3
variable {E : TC} {cc : ByteArray} {nL : Nat} {own : String} {fr lo kc nc : Nat} {ws ws' W : va_W} {k n pc : Nat} {lv lv' : List (Nat × Value)} {st : List Value}
theorem c_astore {i : Fin 4} {x : Nat} (hd : decode cc pc = .ok (.astore_n i, 1)) (hn : i.val < nL) (hl' : (i.val, Value.ref x) :: lv.filter (fun q => !(q.1 == i.val) && !(q.1 + 1 == i.val && q.2.category == 2)) = lv') (kk : GC E cc nL own fr lo kc nc ws k n (pc + 1) lv' st) : GC E cc nL own fr lo kc nc ws k n pc lv (.ref x :: st) := by
  obtain ⟨p, l, e, R, s, m, args, below, meth, c, Q, D, cy, A⟩ := E
  intro H locs ls F hP hD hS hl
  obtain ⟨hx, hb, -⟩ := id F
  exact lv_astore_n hx hb hd rfl hl hn hl' (fun ls hl => kk H locs ls F hP hD hS hl)
theorem c_istoreW {i : Nat} {x : Int32} (hd : decode cc pc = .ok (.istore i, 2)) (hn : i < nL) (hl' : (i, Value.int x) :: lv.filter (fun q => !(q.1 == i) && !(q.1 + 1 == i && q.2.category == 2)) = lv') (kk : GC E cc nL own fr lo kc nc ws k n (pc + 2) lv' st) : GC E cc nL own fr lo kc nc ws k n pc lv (.int x :: st) := by
  obtain ⟨p, l, e, R, s, m, args, below, meth, c, Q, D, cy, A⟩ := E
  intro H locs ls F hP hD hS hl
  obtain ⟨hx, hb, -⟩ := id F
  exact lv_istore hx hb hd hl hn hl' (fun ls hl => kk H locs ls F hP hD hS hl)
end CROWS3
/-- what is left to show of numbers alone -/
def Pure : Prop := ∀ (L : Nat) (xi : Nat → Int), L ≤ 3584 → (∀ j, inI (xi j)) → ∃ n, lp (fun (K : Int → Mem → Prop) (x : Int) (σ : Mem) => wlaw_23 L xi K x σ) n 0 σ0
set_option maxHeartbeats 4000000 in
set_option maxRecDepth 8000 in
theorem whole_of (hpure : Pure) {p : Program} {e : Env} {s : State} {m : MethodId} {below : List Frame} {meth : Method} {c : Code} (l : Launch) (hflags : l.flags = flags0) {b L : Nat} {xs : Nat → Int32} (hL : L ≤ 3584) (C0 : lw_At p s m meth c b L xs) : W p l e room_1 s m #[Value.ref b] below meth c s.heap [] 0 0 (lw_Z below #[Value.ref b] s) (entryFrame m ([Value.ref b] : List Value).toArray 8) := by
  obtain ⟨hx, hb, hr, hml, hown, hts, hX, hbl, hlk, hgv⟩ := C0
  obtain ⟨u, v, hsx⟩ := sx_start hgv hts
  obtain ⟨cy, hcy⟩ := cy_start hts
  obtain ⟨D, hDD⟩ := dD_start hts
  obtain ⟨n, hn⟩ := hpure L (fun j => (xs j).toInt) hL (fun j => inI_t _)
  have hK : va_K D vwCl (tysL cy) s := ⟨hDD, hcy⟩
  have hTr : l.stackTraces = false := by
    unfold Launch.stackTraces
    rw [hflags]
    decide +kernel
  have hSX : SXq s (fun q => s.heap.size ≤ q) b L (fun j => (xs j).toInt) := ⟨xs, hX, hbl, Nat.not_le.mpr hbl, hL, fun _ => rfl⟩
  have hl := lv_entry ([.ref b]) (n := 8) (show 1 ≤ 8 by decide)
  have hgt : ∀ w ∈ gtw, w.before #[Value.ref b] s = true := fun w h => hts w (List.mem_filter.mp h).1
  rw [lg_entry_eq]
  have goal : GC (p, l, e, room_1, s, m, #[Value.ref b], below, meth, c, lw_Z below #[Value.ref b] s, D, cy, fun q => s.heap.size ≤ q) cL_law 8 RL 2048 84000 601024 7293034 [] 0 0 0 [(0, .ref b)] [] := by
    refine c_new (ci := 10) (fs := [.null, .null, .null, .null, .null, .null, .null, .null, .null, .null, .null, .null, .null]) giX10 tyX10 tyX10_ok ql_1 ql_2 ql_3 rfl dfX10 (Nat.le_of_ble_eq_true rfl) (Nat.le_of_ble_eq_true rfl) dL_law_0 (fun q1 => ?_)
    refine c_dup dL_law_3 ?_
    refine c_call kinit_10 cwi_L_23 (Nat.le_of_ble_eq_true rfl) (Nat.le_of_ble_eq_true rfl) (Nat.le_of_ble_eq_true rfl) (Nat.le_of_ble_eq_true rfl) (Nat.le_of_ble_eq_true rfl) dL_law_4 (fun S eS => ?_)
    subst eS
    refine c_astore (lv' := [(1, .ref (S.1 0)), (0, .ref b)]) dL_law_7 (by decide) rfl ?_
    refine c_new (ci := 11) (fs := [.null, .null, .int 0, .null, .int 0, .int 0, .int 0, .int 0, .int 0, .null, .null, .null, .null, .int 0, .int 0, .null, .int 0, .int 0, .int 0, .null, .null, .null, .null, .int 0, .null, .int 0, .null, .null, .int 0, .int 0, .null, .null]) giX11 tyX11 tyX11_ok ql_7 ql_8 ql_9 rfl dfX11 (Nat.le_of_ble_eq_true rfl) (Nat.le_of_ble_eq_true rfl) dL_law_8 (fun q2 => ?_)
    refine c_dup dL_law_11 ?_
    refine c_call kinit_11 cwi_L_26 (Nat.le_of_ble_eq_true rfl) (Nat.le_of_ble_eq_true rfl) (Nat.le_of_ble_eq_true rfl) (Nat.le_of_ble_eq_true rfl) (Nat.le_of_ble_eq_true rfl) dL_law_12 (fun a ea => ?_)
    subst ea
    refine c_astore (lv' := [(2, .ref (a 0)), (1, .ref (S.1 0)), (0, .ref b)]) dL_law_15 (by decide) rfl ?_
    refine c_iconst 1 dL_law_16 rfl ?_
    refine c_newa 3 (atype := .long) (ty := .long) (N := 1) (a0 := (1, .inr (.inl (fun _ => 0)))) qa_long rfl (ra_p (fun _ _ => rfl)) (fun _ => rfl) (fun _ => rfl) (by decide) rfl (by decide) (Nat.le_of_ble_eq_true rfl) (Nat.le_of_ble_eq_true rfl) dL_law_17 (fun q => ?_)
    refine c_astore (lv' := [(3, .ref q), (2, .ref (a 0)), (1, .ref (S.1 0)), (0, .ref b)]) dL_law_19 (by decide) rfl ?_
    refine c_iconst 0 dL_law_20 rfl ?_
    refine c_istoreW (lv' := [(4, .int 0), (3, .ref q), (2, .ref (a 0)), (1, .ref (S.1 0)), (0, .ref b)]) dL_law_21 (by decide) rfl ?_
    refine c_ws (ws' := wsT S a q cy) rfl ?_
    intro H locs ls F hP hD hS hl
    have hsx2 := hsx (adF S a q u v) rfl rfl
    obtain ⟨hw, hap, hAi⟩ := wd_world (u := u) (v := v) hP hD
    have hE : ∀ (k0 n0 : Nat) (σ : Mem) (lv : List (Nat × AV)) {x : Int}, bnd x k0 n0 → GW (p, l, e, room_1, s, m, #[Value.ref b], below, meth, c, lw_Z below #[Value.ref b] s, D, cy, adF S a q u v, (fun q => s.heap.size ≤ q), k0, n0) cL_law 8 RL 2048 84000 σ 1682 lv [vI 1] := by
      intro k0 n0 σ lv x hbd H locs ls F I
      obtain ⟨h1, h2, h3, h4⟩ := hbd
      refine va_forget I.2.2.2.2.1.2.2 (W.widen (k := 601024) (n := 7293034) (by omega) (by omega) ?_)
      exact lw_ret hx hb hr hlk dL_law_1682
    have hg := lp_GW (F := fun (K : Int → Mem → Prop) (x : Int) (σ : Mem) => wlaw_23 L (fun j => (xs j).toInt) K x σ) (P := fun x σ => ∀ k0 n0, bnd x k0 n0 → GW (p, l, e, room_1, s, m, #[Value.ref b], below, meth, c, lw_Z below #[Value.ref b] s, D, cy, adF S a q u v, (fun q => s.heap.size ≤ q), k0, n0) cL_law 8 RL 2048 84000 σ 23 [(0, vX b), (1, vR 0), (2, vR 300), (3, vR 340), (4, vI x)] []) (fun K hK x σ h k0 n0 hb => blaw_23 hTr ⟨rfl, rfl⟩ hSX hE hK hb h) n 0 σ0 hn 225 19387 ⟨by omega, by omega, by omega, by omega⟩
    refine hg H locs ls ⟨hx, hb, hml, hown, hgt, hK, ⟨nw_start hts, hsx2, Nat.le_of_ble_eq_true rfl, Nat.le_of_ble_eq_true rfl⟩, hap, hAi, fun q h => h, rfl, rfl⟩ ⟨σ0_ok, ?_, ?_, hw, hS, ?_⟩
    · intro x hx
      simp only [List.mem_cons, List.not_mem_nil, or_false] at hx
      rcases hx with rfl | rfl | rfl | rfl | rfl
      · trivial
      · trivial
      · trivial
      · trivial
      · exact ⟨by omega, by omega⟩
    · intro x hx
      simp at hx
    · refine ⟨hl.1, hl.2.1, fun x hx => ?_⟩
      simp only [mkl, List.map_cons, List.map_nil, List.mem_cons, List.not_mem_nil, or_false] at hx
      rcases hx with rfl | rfl | rfl | rfl | rfl
      · exact hl.2.2 (0, .ref b) (by simp)
      · exact hl.2.2 (1, .ref (S.1 0)) (by simp)
      · exact hl.2.2 (2, .ref (a 0)) (by simp)
      · exact hl.2.2 (3, .ref q) (by simp)
      · exact hl.2.2 (4, .int 0) (by simp)
  exact goal s.heap [] _ ⟨hx, hb, hml, hown, hgt, hK, nw_start hts, ao_start hts, fun q h => h, rfl, rfl, rfl, rfl⟩ (fun i p h => by simp at h) ⟨fun i j p q h => by simp at h, fun i p h => by simp at h⟩ va_S.rf hl
