/-! constructors: worlds as lists that grow at their end -/
def aoP (U : State) : Prop := va_AO "TrustClub$Books" U ∧ va_AO "TrustClub$Holding" U ∧ (Cond.arrayOver (.array .int)).before #[] U = true
theorem jn {D : va_G} {cl : List vw_C} {W V V' : va_W} {A : Nat → Prop} {H H1 : Heap} (hP : va_P D cl (W ++ V) H) (hD : va_D A (W ++ V)) (hk : ∀ q : Nat, q < H.size → ¬ va_A V H.size q → H1[q]? = H[q]?) (hF : ∀ q, va_A V H.size q → A q) (hP' : va_P D cl V' H1) (hD' : va_D (va_A V H.size) V') : va_P D cl (W ++ V') H1 ∧ va_D A (W ++ V') := by
  have inW : ∀ (i : Nat) (p : Nat × va_E), W[i]? = some p → (W ++ V)[i]? = some p := fun i p h => by
    rw [List.getElem?_append_left (List.getElem?_eq_some_iff.mp h).1]; exact h
  have inV : ∀ (k : Nat) (p : Nat × va_E), V[k]? = some p → (W ++ V)[W.length + k]? = some p := fun k p h => by
    rw [List.getElem?_append_right (by omega)]
    rw [show W.length + k - W.length = k by omega]; exact h
  have apt : ∀ (i : Nat) (p : Nat × va_E), W[i]? = some p → ¬ va_A V H.size p.1 := by
    intro i p h hA
    rcases hA with ⟨k, e, hk2⟩ | hge
    · have := hD.1 i (W.length + k) p (p.1, e) (inW i p h) (inV k _ hk2) rfl
      have hl := (List.getElem?_eq_some_iff.mp h).1
      omega
    · have := (hP i p (inW i p h)).lt
      omega
  have hPW : va_P D cl W H1 := fun i p h => (hP i p (inW i p h)).kept (hk p.1 (hP i p (inW i p h)).lt (apt i p h))
  have hDW : va_D A W := ⟨fun i j p q h1 h2 e => hD.1 i j p q (inW i p h1) (inW j q h2) e, fun i p h => hD.2 i p (inW i p h)⟩
  refine ⟨hPW.app hP', hDW.app (hD'.weaken (fun k q h1 h2 => hF _ h2)) (fun i j p q h1 h2 e => ?_)⟩
  exact apt i p h1 (by rw [e]; exact hD'.2 j q h2)
abbrev TC := Program × Launch × Env × Room × State × MethodId × Array Value × List Frame × Method × Code × (State → Prop) × va_G × (Nat → ClassId) × (Nat → Prop)
def CF (p : Program) (R : Room) (s : State) (m : MethodId) (args : Array Value) (meth : Method) (c : Code) (D : va_G) (cy : Nat → ClassId) (A : Nat → Prop) (cc : ByteArray) (nL : Nat) (own : String) (fr lo kc nc : Nat) : Prop :=
  p.tables.exec = Jvm.exec ∧ c.code = cc ∧ c.maxLocals = nL ∧ s.vm.findClass own = some m.cls ∧ (∀ w ∈ gtw, w.before args s = true) ∧ va_K D vwCl (tysL cy) s ∧ nwP s ∧ aoP s ∧ (∀ q, s.heap.size ≤ q → A q) ∧ R.frames = fr ∧ R.locals = lo ∧ R.cells = kc ∧ R.slots = nc
def GC (E : TC) (cc : ByteArray) (nL : Nat) (own : String) (fr lo kc nc : Nat) (ws : va_W) (k n pc : Nat) (lv : List (Nat × Value)) (st : List Value) : Prop := match E with
  | (p, l, e, R, s, m, args, below, meth, c, Q, D, cy, A) => ∀ (H : Heap) (locs : List Loc) (ls : Array Slot), CF p R s m args meth c D cy A cc nL own fr lo kc nc → va_P D vwCl ws H → va_D A ws → va_S A s.heap H locs → lv_has ls nL lv → W p l e R s m args below meth c H locs k n Q (F0 m pc ls st)
def cyE (E : TC) : Nat → ClassId := E.2.2.2.2.2.2.2.2.2.2.2.2.1
def nmE (E : TC) : Prop := E.2.2.2.2.2.2.2.2.1.name = "<init>"
def MC (y : MethodName) (cc : ByteArray) (nL fr lo mc ms ci : Nat) (fs0 : List Value) {S : Type} (o0 : S → Nat) (blk : (Nat → ClassId) → S → va_W) : Prop := ∀ (l : Launch) (D : va_G) (cy : Nat → ClassId) (h0 sz : Nat),
  Met l y (.code y cc nL none :: gtw) ({ frames := fr, cells := mc, slots := ms, locals := lo }) (va_Pc [.ref h0] (fun U => U.heap.size = sz ∧ va_P D vwCl [(h0, .inr (ci, fs0))] U.heap ∧ va_K D vwCl (tysL cy) U ∧ nwP U ∧ aoP U)) (va_Qv (fun a : S => o0 a = h0) (fun a t => va_P D vwCl (blk cy a) t.heap ∧ va_D (va_A [(h0, .inr (ci, fs0))] sz) (blk cy a)) (va_A [(h0, .inr (ci, fs0))] sz)) mc ms (va_A [(h0, .inr (ci, fs0))] sz)
def RC (E : TC) (h0 : Nat) (mc ms : Nat) {S : Type} (o0 : S → Nat) (blk : (Nat → ClassId) → S → va_W) : Prop := match E with
  | (p, l, e, R, s, m, args, below, meth, c, Q, D, cy, A) => Q = MQ below (va_Qv (fun a : S => o0 a = h0) (fun a t => va_P D vwCl (blk cy a) t.heap ∧ va_D A (blk cy a)) A) args s mc ms A ∧ meth.sig.returnType = none ∧ meth.locks = false
theorem nwP.same {s U : State} (h : nwP s) (hv : s.vm = U.vm) : nwP U := by
  intro w hw
  have hz := h w hw
  have ho : w.onTables = true := by
    simp only [nwL, List.mem_cons, List.not_mem_nil, or_false] at hw
    rcases hw with rfl | rfl | rfl | rfl | rfl | rfl | rfl | rfl | rfl | rfl <;> rfl
  exact va_Nw.same ho hv hz
/-- int[][] over tables that are alike -/
theorem aoA_moved {a b : Array Value} {s U : State} (hv : s.vm.Alike U.vm) (h : (Cond.arrayOver (.array .int)).before a s = true) : (Cond.arrayOver (.array .int)).before b U = true := by
  have e : (Cond.arrayOver (.array .int)).value b U none U [] = (Cond.arrayOver (.array .int)).value a s none s [] := by
    simp only [Cond.value, hv.findClass]
    refine congrArg (Option.bind _) (funext fun comp => ?_)
    refine congr (congrArg Option.bind (hv.findIdx?_eqK _ (fun _ => rfl))) (funext fun c => ?_)
    exact hv.class_map _ (fun _ _ _ _ => rfl) c
  unfold Cond.before Cond.holds at h ⊢
  rw [e]
  exact h
theorem aoP.moved {s U : State} (h : aoP s) (hv : s.vm.Alike U.vm) : aoP U := ⟨h.1.moved hv, h.2.1.moved hv, aoA_moved hv h.2.2⟩
theorem m_C {y : MethodName} {cc : ByteArray} {nL fr lo mc ms ci : Nat} {fs0 : List Value} {S : Type} {o0 : S → Nat} {blk : (Nat → ClassId) → S → va_W} {own : String} (hy : plainName y.cls = true) (ho : y.cls = own) (hyn : y.name = "<init>") (hn : 1 ≤ nL) (body : ∀ (E : TC) (h0 : Nat), RC E h0 mc ms o0 blk → nmE E → GC E cc nL own fr lo mc ms [(h0, .inr (ci, fs0))] 0 0 0 [(0, .ref h0)] []) : MC y cc nL fr lo mc ms ci fs0 o0 blk := by
  intro l D cy h0 sz
  refine Met.ofW (cc := cc) (maxL := nL) (ret := none) hy rfl ?_
  intro p e s m args below meth c s₁ B hml hv
  obtain ⟨rfl, hsz, hP, hK, hN, hAO⟩ := hv
  have hts0 := atoms_spec (ws := Cond.code y cc nL none :: gtw) B.pre
  have hown : s.vm.findClass y.cls = some m.cls := findClass_of_methodNamed B.named
  have hin : meth.name = y.name := (name_of_methodNamed B.named B.method).1
  subst hsz
  subst ho
  have hl := lv_entry ([.ref h0]) (n := nL) hn
  rw [lg_entry_eq]
  have hD0 : va_D (fun _ => True) [(h0, (.inr (ci, fs0) : va_E))] := ⟨fun i j p q h1 h2 _ => by
    cases i with
    | zero => cases j with
      | zero => rfl
      | succ j => simp at h2
    | succ i => simp at h1, fun _ _ _ => trivial⟩
  exact body (p, l, e, (headSpec (Cond.code y cc nL none :: gtw) { frames := fr, cells := mc, slots := ms, locals := lo }).room, s, m, ([.ref h0] : List Value).toArray, below, meth, c, MQ below (va_Qv (fun a : S => o0 a = h0) (fun a t => va_P D vwCl (blk cy a) t.heap ∧ va_D (va_A [(h0, .inr (ci, fs0))] s.heap.size) (blk cy a)) (va_A [(h0, .inr (ci, fs0))] s.heap.size)) ([.ref h0] : List Value).toArray s mc ms (va_A [(h0, .inr (ci, fs0))] s.heap.size), D, cy, va_A [(h0, .inr (ci, fs0))] s.heap.size) h0 ⟨rfl, B.returns, B.notSynchronized⟩ (hin.trans hyn) s.heap [] _ ⟨B.exec, B.bytes, hml, hown, fun w hw => hts0 w (List.mem_cons_of_mem _ hw), hK, hN, hAO, fun q hq => Or.inr hq, rfl, rfl, rfl, rfl⟩ hP hD0.self va_S.rf hl
section CROWS
variable {E : TC} {cc : ByteArray} {nL : Nat} {own : String} {fr lo kc nc : Nat} {ws ws' W : va_W} {k n pc : Nat} {lv lv' : List (Nat × Value)} {st : List Value}
theorem c_ws (h : ws = ws') (kk : GC E cc nL own fr lo kc nc ws' k n pc lv st) : GC E cc nL own fr lo kc nc ws k n pc lv st := h ▸ kk
theorem c_wd {k' n' : Nat} (h1 : k ≤ k') (h2 : n ≤ n') (kk : GC E cc nL own fr lo kc nc ws k' n' pc lv st) : GC E cc nL own fr lo kc nc ws k n pc lv st := by
  obtain ⟨p, l, e, R, s, m, args, below, meth, c, Q, D, cy, A⟩ := E
  intro H locs ls F hP hD hS hl
  exact W.widen h1 h2 (kk H locs ls F hP hD hS hl)
theorem c_aload {i : Fin 4} {a : Nat} (hd : decode cc pc = .ok (.aload_n i, 1)) (hi : lv[(0 : Nat)]? = some (i.val, .ref a)) (kk : GC E cc nL own fr lo kc nc ws k n (pc + 1) lv (.ref a :: st)) : GC E cc nL own fr lo kc nc ws k n pc lv st := by
  obtain ⟨p, l, e, R, s, m, args, below, meth, c, Q, D, cy, A⟩ := E
  intro H locs ls F hP hD hS hl
  obtain ⟨hx, hb, -⟩ := id F
  exact lv_aload_n hx hb hd rfl (lv_at hl 0 hi) (kk H locs ls F hP hD hS hl)
theorem c_aload1 {i : Fin 4} {a : Nat} (hd : decode cc pc = .ok (.aload_n i, 1)) (hi : lv[(1 : Nat)]? = some (i.val, .ref a)) (kk : GC E cc nL own fr lo kc nc ws k n (pc + 1) lv (.ref a :: st)) : GC E cc nL own fr lo kc nc ws k n pc lv st := by
  obtain ⟨p, l, e, R, s, m, args, below, meth, c, Q, D, cy, A⟩ := E
  intro H locs ls F hP hD hS hl
  obtain ⟨hx, hb, -⟩ := id F
  exact lv_aload_n hx hb hd rfl (lv_at hl 1 hi) (kk H locs ls F hP hD hS hl)
theorem c_iload {i : Fin 4} {a : Int32} (hd : decode cc pc = .ok (.iload_n i, 1)) (hi : lv[(0 : Nat)]? = some (i.val, .int a)) (kk : GC E cc nL own fr lo kc nc ws k n (pc + 1) lv (.int a :: st)) : GC E cc nL own fr lo kc nc ws k n pc lv st := by
  obtain ⟨p, l, e, R, s, m, args, below, meth, c, Q, D, cy, A⟩ := E
  intro H locs ls F hP hD hS hl
  obtain ⟨hx, hb, -⟩ := id F
  exact lv_iload_n hx hb hd rfl (lv_at hl 0 hi) (kk H locs ls F hP hD hS hl)
theorem c_iconst {x : Int} (v : Int32) (hd : decode cc pc = .ok (.iconst x, 1)) (hv : Int32.ofInt x = v) (kk : GC E cc nL own fr lo kc nc ws k n (pc + 1) lv (.int v :: st)) : GC E cc nL own fr lo kc nc ws k n pc lv st := by
  obtain ⟨p, l, e, R, s, m, args, below, meth, c, Q, D, cy, A⟩ := E
  intro H locs ls F hP hD hS hl
  obtain ⟨hx, hb, -⟩ := id F
  exact lv_iconst hx hb hd hv (kk H locs ls F hP hD hS hl)
theorem c_bipush {x : Int} (v : Int32) (hd : decode cc pc = .ok (.bipush x, 2)) (hv : (Int8.ofInt x).toInt32 = v) (kk : GC E cc nL own fr lo kc nc ws k n (pc + 2) lv (.int v :: st)) : GC E cc nL own fr lo kc nc ws k n pc lv st := by
  obtain ⟨p, l, e, R, s, m, args, below, meth, c, Q, D, cy, A⟩ := E
  intro H locs ls F hP hD hS hl
  obtain ⟨hx, hb, -⟩ := id F
  exact lv_bipush hx hb hd hv (kk H locs ls F hP hD hS hl)
theorem c_sipush {x : Int} (v : Int32) (hd : decode cc pc = .ok (.sipush x, 3)) (hv : (Int16.ofInt x).toInt32 = v) (kk : GC E cc nL own fr lo kc nc ws k n (pc + 3) lv (.int v :: st)) : GC E cc nL own fr lo kc nc ws k n pc lv st := by
  obtain ⟨p, l, e, R, s, m, args, below, meth, c, Q, D, cy, A⟩ := E
  intro H locs ls F hP hD hS hl
  obtain ⟨hx, hb, -⟩ := id F
  exact lv_sipush hx hb hd hv (kk H locs ls F hP hD hS hl)
theorem c_istore {i : Fin 4} {x : Int32} (hd : decode cc pc = .ok (.istore_n i, 1)) (hn : i.val < nL) (hl' : (i.val, Value.int x) :: lv.filter (fun q => !(q.1 == i.val) && !(q.1 + 1 == i.val && q.2.category == 2)) = lv') (kk : GC E cc nL own fr lo kc nc ws k n (pc + 1) lv' st) : GC E cc nL own fr lo kc nc ws k n pc lv (.int x :: st) := by
  obtain ⟨p, l, e, R, s, m, args, below, meth, c, Q, D, cy, A⟩ := E
  intro H locs ls F hP hD hS hl
  obtain ⟨hx, hb, -⟩ := id F
  exact lv_istore_n hx hb hd rfl hl hn hl' (fun ls hl => kk H locs ls F hP hD hS hl)
theorem c_iinc {i : Nat} {d : Int} {x v : Int32} (hd : decode cc pc = .ok (.iinc i d, 3)) (hi : lv[(0 : Nat)]? = some (i, .int x)) (hv : x + Int32.ofInt d = v) (hn : i < nL) (hl' : (i, Value.int v) :: lv.filter (fun q => !(q.1 == i) && !(q.1 + 1 == i && q.2.category == 2)) = lv') (kk : GC E cc nL own fr lo kc nc ws k n (pc + 3) lv' st) : GC E cc nL own fr lo kc nc ws k n pc lv st := by
  obtain ⟨p, l, e, R, s, m, args, below, meth, c, Q, D, cy, A⟩ := E
  intro H locs ls F hP hD hS hl
  obtain ⟨hx, hb, -⟩ := id F
  exact lv_iinc (k := 0) hx hb hd hl hi hv hn hl' (fun ls hl => kk H locs ls F hP hD hS hl)
theorem c_dup {a : Nat} (hd : decode cc pc = .ok (.dup, 1)) (kk : GC E cc nL own fr lo kc nc ws k n (pc + 1) lv (.ref a :: .ref a :: st)) : GC E cc nL own fr lo kc nc ws k n pc lv (.ref a :: st) := by
  obtain ⟨p, l, e, R, s, m, args, below, meth, c, Q, D, cy, A⟩ := E
  intro H locs ls F hP hD hS hl
  obtain ⟨hx, hb, -⟩ := id F
  exact lv_dup hx hb hd rfl (kk H locs ls F hP hD hS hl)
theorem c_goto {off : Int} {tgt : Nat} (hd : decode cc pc = .ok (.goto off, 3)) (ht : (pc : Int) + off = (tgt : Int)) (kk : GC E cc nL own fr lo kc nc ws k n tgt lv st) : GC E cc nL own fr lo kc nc ws k n pc lv st := by
  obtain ⟨p, l, e, R, s, m, args, below, meth, c, Q, D, cy, A⟩ := E
  intro H locs ls F hP hD hS hl
  obtain ⟨hx, hb, -⟩ := id F
  exact lv_goto hx hb hd ht (kk H locs ls F hP hD hS hl)
theorem c_geN {off : Int} {tgt : Nat} {x y : Int32} (hd : decode cc pc = .ok (.if_icmp .ge off, 3)) (ht : (pc : Int) + off = (tgt : Int)) (h : ¬ y ≤ x) (kk : GC E cc nL own fr lo kc nc ws k n (pc + 3) lv st) : GC E cc nL own fr lo kc nc ws k n pc lv (.int y :: .int x :: st) := by
  obtain ⟨p, l, e, R, s, m, args, below, meth, c, Q, D, cy, A⟩ := E
  intro H locs ls F hP hD hS hl
  obtain ⟨hx, hb, -⟩ := id F
  exact lv_icmp_ge hx hb hd ht (fun z => absurd z h) (fun _ => kk H locs ls F hP hD hS hl)
theorem c_geY {off : Int} {tgt : Nat} {x y : Int32} (hd : decode cc pc = .ok (.if_icmp .ge off, 3)) (ht : (pc : Int) + off = (tgt : Int)) (h : y ≤ x) (kk : GC E cc nL own fr lo kc nc ws k n tgt lv st) : GC E cc nL own fr lo kc nc ws k n pc lv (.int y :: .int x :: st) := by
  obtain ⟨p, l, e, R, s, m, args, below, meth, c, Q, D, cy, A⟩ := E
  intro H locs ls F hP hD hS hl
  obtain ⟨hx, hb, -⟩ := id F
  exact lv_icmp_ge hx hb hd ht (fun _ => kk H locs ls F hP hD hS hl) (fun z => absurd h z)
theorem c_obj {index a : Nat} (h1 : Cond.methodLink own index Lib.objectInit ∈ gtw) (h2 : Cond.instanceMethod Lib.objectInit ∈ gtw) (h3 : Cond.code Lib.objectInit ⟨#[0xb1]⟩ 1 none ∈ gtw) (hf1 : 1 ≤ fr) (hf2 : 20 ≤ lo) (hd : decode cc pc = .ok (.invokespecial index, 3)) (kk : GC E cc nL own fr lo kc nc ws k n (pc + 3) lv []) : GC E cc nL own fr lo kc nc ws k n pc lv [.ref a] := by
  obtain ⟨p, l, e, R, s, m, args, below, meth, c, Q, D, cy, A⟩ := E
  intro H locs ls F hP hD hS hl
  obtain ⟨hx, hb, hml, hown, hts, hK, hN, hAO, hA, hfr, hlo, hkc, hnc⟩ := id F
  refine W.objInit hx hb hown (hts _ h1) (hts _ h2) (hts _ h3) rfl (hl.1.trans hml.symm) rfl hd (by rw [hfr]; exact hf1) (by rw [hlo]; show 2 * 0 + 0 + 12 ≤ lo; omega) ?_
  exact kk H locs ls F hP hD hS hl
theorem c_newa (t : Nat) {atype : ArrayType} {ty : FieldType} {v : Int32} {N : Nat} {a0 : vp_A} (hw : Cond.arrayClass (newarray.typeOf atype) ∈ gtw) (hty : newarray.typeOf atype = ty) (hRA : ∀ (s : State) (c1 c2 : ClassId), va_RA s c1 ty → va_RA s c2 ty → c1 = c2) (ht : ∀ cy : Nat → ClassId, (tysL cy)[t]? = some (cy t, ty)) (ha : ∀ cA : ClassId, vp_cell cA a0 = arrV cA N (fun _ => defaultValue ty)) (hn : ¬ v < 0) (hN : v.toNatClampNeg = N) (hby : N * componentBytes ty ≤ 536870912) (hk : k + 1 ≤ kc) (hs : n + N ≤ nc) (hd : decode cc pc = .ok (.newarray atype, 2)) (kk : ∀ q, GC E cc nL own fr lo kc nc (ws ++ [(q, .inl (cyE E t, a0))]) (k + 1) (n + N) (pc + 2) lv (.ref q :: st)) : GC E cc nL own fr lo kc nc ws k n pc lv (.int v :: st) := by
  obtain ⟨p, l, e, R, s, m, args, below, meth, c, Q, D, cy, A⟩ := E
  intro H locs ls F hP hD hS hl
  obtain ⟨hx, hb, hml, hown, hts, hK, hN2, hAO, hA, hfr, hlo, hkc, hnc⟩ := id F
  refine va_newa hx hb (hts _ hw) hty hK hP hD hS hA ha hn hN hby (by rw [hkc]; exact hk) (by rw [hnc]; exact hs) hd (fun q cA H1 hK1 hP1 hD1 hS1 => ?_)
  have e1 : cA = cy t := hRA s _ _ (hK1.2 7 _ rfl).2 (hK.2 t _ (ht cy)).2
  subst e1
  exact kk q H1 locs ls F hP1 hD1 hS1 hl
theorem c_newq (t : Nat) {C : String} {index : Nat} {v : Int32} {N : Nat} (hw : Cond.classLink own index C ∈ gtw) (hao : ∀ s, aoP s → va_AO C s) (ht : ∀ cy : Nat → ClassId, (tysL cy)[t]? = some (cy t, .object C)) (hn : ¬ v < 0) (hN : v.toNatClampNeg = N) (hby : N * 4 ≤ 536870912) (hk : k + 1 ≤ kc) (hs : n + N ≤ nc) (hd : decode cc pc = .ok (.anewarray index, 3)) (kk : ∀ q, GC E cc nL own fr lo kc nc (ws ++ [(q, .inl (cyE E t, N, .inr (.inr (.inr (.inr (fun _ => none))))))]) (k + 1) (n + N) (pc + 3) lv (.ref q :: st)) : GC E cc nL own fr lo kc nc ws k n pc lv (.int v :: st) := by
  obtain ⟨p, l, e, R, s, m, args, below, meth, c, Q, D, cy, A⟩ := E
  intro H locs ls F hP hD hS hl
  obtain ⟨hx, hb, hml, hown, hts, hK, hN2, hAO, hA, hfr, hlo, hkc, hnc⟩ := id F
  refine va_newq hx hb hown (hts _ hw) (hao s hAO) hK hP hD hS hA hn hN hby (by rw [hkc]; exact hk) (by rw [hnc]; exact hs) hd (fun q cA H1 hK1 hP1 hD1 hS1 => ?_)
  have e1 : cA = cy t := by
    obtain ⟨-, -, -, -, -, h1⟩ := (hK.2 t _ (ht cy)).2
    obtain ⟨-, -, -, -, -, h2⟩ := (hK1.2 7 _ rfl).2
    exact Option.some.inj (h2.symm.trans h1)
  subst e1
  exact kk q H1 locs ls F hP1 hD1 hS1 hl
theorem c_new {C : String} {T : u_T} {N ci index : Nat} {fs : List Value} (hg : ∀ w ∈ u_ws C T N, w ∈ gtw) (ty : Nat → FieldType) (hty : ∀ k, k < N → parseFieldDescriptor (T k).2.2.1 = some (ty k)) (h1 : Cond.classLink own index C ∈ gtw) (h2 : Cond.instantiable C N ∈ gtw) (h3 : Cond.initialized C ∈ gtw) (hc : vwCl[ci]? = some (C, T, N)) (hfs : ∀ j, j < N → defaultValue (ty j) = vp_V fs j) (hk : k + 1 ≤ kc) (hs : n + N ≤ nc) (hd : decode cc pc = .ok (.new index, 3)) (kk : ∀ q, GC E cc nL own fr lo kc nc (ws ++ [(q, .inr (ci, fs))]) (k + 1) (n + N) (pc + 3) lv (.ref q :: st)) : GC E cc nL own fr lo kc nc ws k n pc lv st := by
  obtain ⟨p, l, e, R, s, m, args, below, meth, c, Q, D, cy, A⟩ := E
  intro H locs ls F hP hD hS hl
  obtain ⟨hx, hb, hml, hown, hts, hK, hN2, hAO, hA, hfr, hlo, hkc, hnc⟩ := id F
  exact va_new hx hb hts hg ty hty hown (hts _ h1) (hts _ h2) (hts _ h3) hK hP hD hS hA hc hfs (by rw [hkc]; exact hk) (by rw [hnc]; exact hs) hd (fun q H1 hP1 hD1 hS1 => kk q H1 locs ls F hP1 hD1 hS1 hl)
theorem c_put (q0 : Nat) {a ci : Nat} {fs : List Value} {v : Value} {index : Nat} {C : String} {T : u_T} {N : Nat} (fk : Nat) {ty : FieldType} (hnm : nmE E) (hg : ∀ w ∈ u_ws C T N, w ∈ gtw) (ty0 : Nat → FieldType) (hty : ∀ k, k < N → parseFieldDescriptor (T k).2.2.1 = some (ty0 k)) (hnn : ∀ a, a < N → ∀ b, b < N → a ≠ b → (T a).2.1 ≠ (T b).2.1) (he : ws[q0]? = some (a, .inr (ci, fs))) (hc : vwCl[ci]? = some (C, T, N)) (hk : fk < N) (hw : Cond.fieldLink own index C (T fk).2.1 (T fk).2.2.1 ∈ gtw) (hown2 : (T fk).1 = C) (ho : C = own) (hd0 : parseFieldDescriptor (T fk).2.2.1 = some ty) (hn : narrow ty v = v) (hfit : fits ty v = true) (hl2 : fk < fs.length) (hd : decode cc pc = .ok (.putfield index, 3)) (kk : GC E cc nL own fr lo kc nc (ws.set q0 (a, .inr (ci, fs.set fk v))) k n (pc + 3) lv st) : GC E cc nL own fr lo kc nc ws k n pc lv (v :: .ref a :: st) := by
  obtain ⟨p, l, e, R, s, m, args, below, meth, c, Q, D, cy, A⟩ := E
  intro H locs ls F hP hD hS hl
  obtain ⟨hx, hb, hml, hown, hts, hK, hN2, hAO, hA, hfr, hlo, hkc, hnc⟩ := id F
  by_cases hfin : (T fk).2.2.2 = true
  · exact va_putF hx hb hts hg ty0 hty hnn hown hK hP hD hS q0 he hc fk hk (hts _ hw) (fun _ h => by rw [hown2] at h; exact h) hfin hnm (hown2.trans ho) hd0 hn hfit hl2 hd (fun H1 locs1 hP1 hD1 hS1 => kk H1 locs1 ls F hP1 hD1 hS1 hl)
  · exact va_put hx hb hts hg ty0 hty hnn hown hK hP hD hS q0 he hc fk hk (hts _ hw) (fun _ h => by rw [hown2] at h; exact h) (by simpa using hfin) hd0 hn hfit hl2 hd (fun H1 locs1 hP1 hD1 hS1 => kk H1 locs1 ls F hP1 hD1 hS1 hl)
theorem c_get (q0 : Nat) {a ci : Nat} {fs : List Value} {v : Value} {index : Nat} {C : String} {T : u_T} {N : Nat} (fk : Nat) (hg : ∀ w ∈ u_ws C T N, w ∈ gtw) (he : ws[q0]? = some (a, .inr (ci, fs))) (hc : vwCl[ci]? = some (C, T, N)) (hk : fk < N) (hw : Cond.fieldLink own index C (T fk).2.1 (T fk).2.2.1 ∈ gtw) (hown2 : (T fk).1 = C) (hv : fs[fk]? = some v) (hd : decode cc pc = .ok (.getfield index, 3)) (kk : GC E cc nL own fr lo kc nc ws k n (pc + 3) lv (v :: st)) : GC E cc nL own fr lo kc nc ws k n pc lv (.ref a :: st) := by
  obtain ⟨p, l, e, R, s, m, args, below, meth, c, Q, D, cy, A⟩ := E
  intro H locs ls F hP hD hS hl
  obtain ⟨hx, hb, hml, hown, hts, hK, hN2, hAO, hA, hfr, hlo, hkc, hnc⟩ := id F
  exact va_get hx hb hts hg hown hK hP q0 he hc fk hk (hts _ hw) (fun _ h => by rw [hown2] at h; exact h) hv hd (kk H locs ls F hP hD hS hl)
theorem c_aast (q0 t qk ci j : Nat) {a v N : Nat} {vs : List Value} {r : vw_C} {f : Nat → Option Nat} {i : Int32} (ha : ws[q0]? = some (a, .inl (cyE E t, N, .inr (.inr (.inr (.inr f)))))) (ht : ∀ cy : Nat → ClassId, (tysL cy)[t]? = some (cy t, .object r.1)) (hv : ws[qk]? = some (v, .inr (ci, vs))) (hc : vwCl[ci]? = some r) (hin : vp_in i N) (hj : i.toNatClampNeg = j) (hd : decode cc pc = .ok (.aastore, 1)) (kk : GC E cc nL own fr lo kc nc (ws.set q0 (a, .inl (cyE E t, N, .inr (.inr (.inr (.inr (va_up f j (some v)))))))) k n (pc + 1) lv st) : GC E cc nL own fr lo kc nc ws k n pc lv (.ref v :: .int i :: .ref a :: st) := by
  obtain ⟨p, l, e, R, s, m, args, below, meth, c, Q, D, cy, A⟩ := E
  intro H locs ls F hP hD hS hl
  obtain ⟨hx, hb, hml, hown, hts, hK, hN2, hAO, hA, hfr, hlo, hkc, hnc⟩ := id F
  subst hj
  exact va_astq hx hb hK hP hD hS q0 t qk ci ha (ht cy) hv hc hin hd (fun H1 locs1 hP1 hD1 hS1 => kk H1 locs1 ls F hP1 hD1 hS1 hl)
theorem c_iast (q0 j : Nat) {a N : Nat} {f : Nat → Int32} {i x : Int32} (ha : ws[q0]? = some (a, .inl (cyE E 0, N, .inl f))) (hin : vp_in i N) (hj : i.toNatClampNeg = j) (hd : decode cc pc = .ok (.iastore, 1)) (kk : GC E cc nL own fr lo kc nc (ws.set q0 (a, .inl (cyE E 0, N, .inl (upd f j x)))) k n (pc + 1) lv st) : GC E cc nL own fr lo kc nc ws k n pc lv (.int x :: .int i :: .ref a :: st) := by
  obtain ⟨p, l, e, R, s, m, args, below, meth, c, Q, D, cy, A⟩ := E
  intro H locs ls F hP hD hS hl
  obtain ⟨hx, hb, hml, hown, hts, hK, hN2, hAO, hA, hfr, hlo, hkc, hnc⟩ := id F
  subst hj
  exact va_iast hx hb hK hP hD hS q0 0 ha rfl hin hd (fun H1 locs1 hP1 hD1 hS1 => kk H1 locs1 ls F hP1 hD1 hS1 hl)
theorem c_ret {h0 mc ms : Nat} {S : Type} {o0 : S → Nat} {blk : (Nat → ClassId) → S → va_W} (a : S) (hR : RC E h0 mc ms o0 blk) (hk : k ≤ mc) (hn : n ≤ ms) (ha : o0 a = h0) (hw : ws = blk (cyE E) a) (hd : decode cc pc = .ok (.return_, 1)) : GC E cc nL own fr lo kc nc ws k n pc lv [] := by
  obtain ⟨p, l, e, R, s, m, args, below, meth, c, Q, D, cy, A⟩ := E
  intro H locs ls F hP hD hS hl
  obtain ⟨hx, hb, -⟩ := id F
  obtain ⟨rfl, r2, r3⟩ := hR
  subst hw
  refine W.widen hk hn ?_
  exact W.vret hx hb r2 (fun t ht hW => ⟨⟨a, rfl, ha, by rw [ht]; exact hP, hD⟩, hS.F ht⟩) hS.2.2 hd r3
end CROWS
