def gtw : List Cond := lw_tbl.filter goodWord
theorem gtw_in {w : Cond} (h : w ∈ lw_tbl) (g : goodWord w = true) : w ∈ gtw := List.mem_filter.mpr ⟨h, g⟩
theorem gtw_good : gtw.all goodWord = true := by
  rw [List.all_eq_true]
  intro w h
  exact (List.mem_filter.mp h).2
theorem gtw_gi {w0 w : Cond} (h : w ∈ gtw) : GoodIn (w0 :: gtw) (w :: gtw) := by
  intro x hx
  have hg : x ∈ gtw := (List.mem_cons.mp hx).elim (fun e => e ▸ h) id
  exact ⟨List.mem_cons_of_mem _ hg, good_of_word (List.mem_filter.mp hg).2⟩
def nwL : List Cond := [.methodLinkNest "TrustClub$Books" 49 yX10_at "TrustClub", .methodLinkNest "TrustClub$Holding" 31 yX10_at "TrustClub", .methodLinkNest "TrustClub$Network" 43 yX10_at "TrustClub", .methodLinkNest "TrustClub$Rings" 56 yX10_at "TrustClub", .methodLinkNest "TrustClub$Text" 36 yX10_at "TrustClub", .methodLinkNest "TrustClub" 81 yX2_init "TrustClub", .castable "java/util/NoSuchElementException" "java/util/NoSuchElementException", .declares ⟨"java/lang/RuntimeException", "<init>", "(Ljava/lang/String;)V"⟩, .declares ⟨"java/lang/Exception", "<init>", "(Ljava/lang/String;)V"⟩, .declares ⟨"java/lang/Throwable", "<init>", "(Ljava/lang/String;)V"⟩]
def nwP (s : State) : Prop := ∀ w ∈ nwL, va_Nw w s
theorem nwP.warm {s U : State} (h : nwP s) (hW : s.WarmedH U.vm) : nwP U := by
  intro w hw
  have h1 := h w hw
  simp only [nwL, List.mem_cons, List.not_mem_nil, or_false] at hw
  rcases hw with rfl | rfl | rfl | rfl | rfl | rfl | rfl | rfl | rfl | rfl <;> first | exact va_Nw.warmM hW h1 | exact va_Nw.warmC hW h1 | exact va_Nw.warmD hW h1
def sxB : List Int32 := [112, 119, 108, 102, 115, 104, 109, 103, 107]
def sxP (ad : Nat → Nat) (A : Nat → Prop) (U : State) : Prop := ∃ (a1 a2 a3 : Nat), vk_S 1 [9] [sxB] (fun _ => ad 400) (fun _ => ad 401) A U U.heap ∧ vk_R "TrustClubModel" 329 "pwlfshmgk" (ad 400) U ∧ vk_R "TrustClub" 159 "no such member" a1 U ∧ vk_R "TrustClub" 258 "no such held payment" a2 U ∧ vk_R "TrustClub" 410 "no such number" a3 U ∧ va_Z "java/lang/String" "COMPACT_STRINGS" "Z" (.int 1) A U U.heap ∧ vx_Zq Bundle.tN "UNASSIGNED_STACK" Bundle.steD A U U.heap ∧ vx_Zq Bundle.tN "SUPPRESSED_SENTINEL" Bundle.listD A U U.heap
theorem sxP.call {ad : Nat → Nat} {A B : Nat → Prop} {s U : State} {H : Heap} {locs : List Loc} (h : sxP ad A s) (hS : va_S A s.heap H locs) (hU : U.heap = H) (hW : s.WarmedH U.vm) (hAB : ∀ q, B q → A q) : sxP ad B U := by
  obtain ⟨a1, a2, a3, h1, h2, h3, h4, h5, h6, h7, h8⟩ := h
  subst hU
  exact ⟨a1, a2, a3, ((h1.kept hS.2.1).moved hW.alike).narrow hAB, h2.warm hW, h3.warm hW, h4.warm hW, h5.warm hW, ((h6.kept hS.2.1).moved hW.alike).narrow hAB, ((h7.kept hS.2.1).moved hW.alike).narrow hAB, ((h8.kept hS.2.1).moved hW.alike).narrow hAB⟩
theorem sxP.same {ad : Nat → Nat} {A : Nat → Prop} {s U : State} (h : sxP ad A s) (hh : U.heap = s.heap) (hv : U.vm = s.vm) : sxP ad A U := by
  obtain ⟨a1, a2, a3, h1, h2, h3, h4, h5, h6, h7, h8⟩ := h
  have hA : s.vm.Alike U.vm := by rw [hv]; exact Vm.Alike.refl s.vm
  refine ⟨a1, a2, a3, ?_, h2.same hv, h3.same hv, h4.same hv, h5.same hv, ?_, ?_, ?_⟩
  · rw [hh]; exact h1.moved hA
  · rw [hh]; exact h6.moved hA
  · rw [hh]; exact h7.moved hA
  · rw [hh]; exact h8.moved hA
def nwQ (R : Room) (ad : Nat → Nat) (A : Nat → Prop) (k0 n0 : Nat) (s : State) : Prop := nwP s ∧ sxP ad A s ∧ k0 ≤ R.cells ∧ n0 ≤ R.slots
abbrev TE := Program × Launch × Env × Room × State × MethodId × Array Value × List Frame × Method × Code × (State → Prop) × va_G × (Nat → ClassId) × (Nat → Nat) × (Nat → Prop) × Nat × Nat
def Fx (p : Program) (R : Room) (s : State) (m : MethodId) (args : Array Value) (c : Code) (D : va_G) (cy : Nat → ClassId) (ad : Nat → Nat) (A : Nat → Prop) (k0 n0 : Nat) (cc : ByteArray) (nL : Nat) (own : String) (fr lo : Nat) : Prop :=
  p.tables.exec = Jvm.exec ∧ c.code = cc ∧ c.maxLocals = nL ∧ s.vm.findClass own = some m.cls ∧ (∀ w ∈ gtw, w.before args s = true) ∧ va_K D vwCl (tysL cy) s ∧ nwQ R ad A k0 n0 s ∧ apart ad ∧ (∀ i, i ∈ ids → A (ad i)) ∧ (∀ q, s.heap.size ≤ q → A q) ∧ R.frames = fr ∧ R.locals = lo
def In (s : State) (D : va_G) (cy : Nat → ClassId) (ad : Nat → Nat) (A : Nat → Prop) (nL : Nat) (σ : Mem) (lv : List (Nat × AV)) (st : List AV) (H : Heap) (locs : List Loc) (ls : Array Slot) : Prop :=
  okm σ ∧ (∀ q ∈ lv, okv q.2) ∧ (∀ v ∈ st, okv v) ∧ va_P D vwCl (wd ad cy σ) H ∧ va_S A s.heap H locs ∧ lv_has ls nL (mkl ad lv)
def GW (E : TE) (cc : ByteArray) (nL : Nat) (own : String) (fr lo : Nat) (σ : Mem) (pc : Nat) (lv : List (Nat × AV)) (st : List AV) : Prop := match E with
  | (p, l, e, R, s, m, args, below, meth, c, Q, D, cy, ad, A, k0, n0) => ∀ (H : Heap) (locs : List Loc) (ls : Array Slot), Fx p R s m args c D cy ad A k0 n0 cc nL own fr lo → In s D cy ad A nL σ lv st H locs ls → W p l e R s m args below meth c H locs k0 n0 Q (F0 m pc ls (st.map (mkv ad)))
theorem okv_c {P : AV → Prop} {v : AV} {st : List AV} (h : P v) (h2 : ∀ x ∈ st, P x) : ∀ x ∈ v :: st, P x := fun x hx => (List.mem_cons.mp hx).elim (fun e => e ▸ h) (h2 x)
theorem okv_t {P : AV → Prop} {v : AV} {st : List AV} (h2 : ∀ x ∈ v :: st, P x) : ∀ x ∈ st, P x := fun x hx => h2 x (List.mem_cons_of_mem _ hx)
theorem okv_h {P : AV → Prop} {v : AV} {st : List AV} (h2 : ∀ x ∈ v :: st, P x) : P v := h2 v List.mem_cons_self
theorem lk_mem {lv : List (Nat × AV)} {i : Nat} {v : AV} (h : lv.lookup i = some v) : (i, v) ∈ lv := by
  induction lv with
  | nil => simp at h
  | cons q t ih =>
    obtain ⟨a, b⟩ := q
    rw [List.lookup_cons] at h
    by_cases c : i == a
    · simp only [c] at h
      have c2 : i = a := by simpa using c
      cases h
      subst c2
      exact List.mem_cons_self
    · have c3 : (i == a) = false := by simpa using c
      simp only [c3] at h
      exact List.mem_cons_of_mem _ (ih h)
theorem lk_at {ad : Nat → Nat} {ls : Array Slot} {nL : Nat} {lv : List (Nat × AV)} {i : Nat} {v : AV} (hl : lv_has ls nL (mkl ad lv)) (h : lv.lookup i = some v) : ls[i]? = some (.val (mkv ad v)) :=
  hl.2.2 (i, mkv ad v) (List.mem_map.mpr ⟨(i, v), lk_mem h, rfl⟩)
theorem lst1_ok {P : AV → Prop} {lv : List (Nat × AV)} {i : Nat} {v : AV} (h : P v) (h2 : ∀ q ∈ lv, P q.2) : ∀ q ∈ lst1 lv i v, P q.2 := by
  intro q hq
  rcases List.mem_cons.mp hq with e | e
  · rw [e]; exact h
  · exact h2 q (List.mem_filter.mp e).1
theorem lst2_ok {P : AV → Prop} {lv : List (Nat × AV)} {i : Nat} {v : AV} (h : P v) (h2 : ∀ q ∈ lv, P q.2) : ∀ q ∈ lst2 lv i v, P q.2 := by
  intro q hq
  rcases List.mem_cons.mp hq with e | e
  · rw [e]; exact h
  · exact h2 q (List.mem_filter.mp e).1
def lpick (l : List (Nat × AV)) (ks : List Nat) : List (Nat × AV) := ks.filterMap (fun k => l[k]?)
theorem oi_lt {a b : Int} (ha : inI a) (hb : inI b) : Int32.ofInt a < Int32.ofInt b ↔ a < b := by rw [Int32.lt_iff_toInt_lt, oi_t ha, oi_t hb]
theorem oi_le {a b : Int} (ha : inI a) (hb : inI b) : Int32.ofInt a ≤ Int32.ofInt b ↔ a ≤ b := by rw [Int32.le_iff_toInt_le, oi_t ha, oi_t hb]
theorem oi_eq {a b : Int} (ha : inI a) (hb : inI b) : Int32.ofInt a = Int32.ofInt b ↔ a = b := by
  constructor
  · intro h
    rw [← oi_t ha, ← oi_t hb, h]
  · intro h; rw [h]
theorem oi_0 : Int32.ofInt 0 = 0 := rfl
theorem inI_0 : inI 0 := by constructor <;> decide
theorem oi_vin {a : Int} {n : Nat} (ha : inI a) (h : 0 ≤ a ∧ a < n) : vp_in (Int32.ofInt a) n := by
  rw [vp_in_iff, oi_t ha]
  exact h
theorem oi_cl {a : Int} (ha : inI a) : (Int32.ofInt a).toNatClampNeg = a.toNat := by
  show (Int32.ofInt a).toInt.toNat = a.toNat
  rw [oi_t ha]
section GROWS
variable {E : TE} {cc : ByteArray} {nL : Nat} {own : String} {fr lo : Nat} {σ : Mem} {pc : Nat} {lv lv' : List (Nat × AV)} {st : List AV}
/-- fewer locals, in another order -/
theorem g_lv (ks : List Nat) (h : lpick lv ks = lv') (k : GW E cc nL own fr lo σ pc lv' st) : GW E cc nL own fr lo σ pc lv st := by
  obtain ⟨p, l, e, R, s, m, args, below, meth, c, Q, D, cy, ad, A, k0, n0⟩ := E
  intro H locs ls F I
  obtain ⟨hm, hlv, hst, hP, hS, hl⟩ := I
  have hsub : ∀ q ∈ lv', q ∈ lv := by
    intro q hq
    rw [← h] at hq
    obtain ⟨i, -, hi⟩ := List.mem_filterMap.mp hq
    exact List.mem_of_getElem? hi
  refine k H locs ls F ⟨hm, fun q hq => hlv q (hsub q hq), hst, hP, hS, hl.1, hl.2.1, ?_⟩
  intro q hq
  obtain ⟨x, hx, rfl⟩ := List.mem_map.mp hq
  exact hl.2.2 _ (List.mem_map.mpr ⟨x, hsub x hx, rfl⟩)
/-- a new name for a value at the top of a picture -/
theorem g_eq {σ' : Mem} {st' : List AV} (hs : σ = σ') (hl : lv = lv') (ht : st = st') (k : GW E cc nL own fr lo σ' pc lv' st') : GW E cc nL own fr lo σ pc lv st := by
  subst hs; subst hl; subst ht; exact k
theorem g_iconst {n : Int} (hd : decode cc pc = .ok (.iconst n, 1)) (a : Int) (hv : Int32.ofInt n = Int32.ofInt a) (ho : inI a) (k : GW E cc nL own fr lo σ (pc + 1) lv (vI a :: st)) : GW E cc nL own fr lo σ pc lv st := by
  obtain ⟨p, l, e, R, s, m, args, below, meth, c, Q, D, cy, ad, A, k0, n0⟩ := E
  intro H locs ls F I
  have I0 := I
  obtain ⟨hm, hlv, hst, hP, hS, hl⟩ := I
  obtain ⟨hx, hb, hml, hown, hts, hK, hN, hap, hAi, hA, hfr, hlo⟩ := id F
  exact lv_iconst hx hb hd hv (k H locs ls F ⟨hm, hlv, okv_c ho hst, hP, hS, hl⟩)
theorem g_bipush {n : Int} (hd : decode cc pc = .ok (.bipush n, 2)) (a : Int) (hv : (Int8.ofInt n).toInt32 = Int32.ofInt a) (ho : inI a) (k : GW E cc nL own fr lo σ (pc + 2) lv (vI a :: st)) : GW E cc nL own fr lo σ pc lv st := by
  obtain ⟨p, l, e, R, s, m, args, below, meth, c, Q, D, cy, ad, A, k0, n0⟩ := E
  intro H locs ls F I
  have I0 := I
  obtain ⟨hm, hlv, hst, hP, hS, hl⟩ := I
  obtain ⟨hx, hb, hml, hown, hts, hK, hN, hap, hAi, hA, hfr, hlo⟩ := id F
  exact lv_bipush hx hb hd hv (k H locs ls F ⟨hm, hlv, okv_c ho hst, hP, hS, hl⟩)
theorem g_sipush {n : Int} (hd : decode cc pc = .ok (.sipush n, 3)) (a : Int) (hv : (Int16.ofInt n).toInt32 = Int32.ofInt a) (ho : inI a) (k : GW E cc nL own fr lo σ (pc + 3) lv (vI a :: st)) : GW E cc nL own fr lo σ pc lv st := by
  obtain ⟨p, l, e, R, s, m, args, below, meth, c, Q, D, cy, ad, A, k0, n0⟩ := E
  intro H locs ls F I
  have I0 := I
  obtain ⟨hm, hlv, hst, hP, hS, hl⟩ := I
  obtain ⟨hx, hb, hml, hown, hts, hK, hN, hap, hAi, hA, hfr, hlo⟩ := id F
  exact lv_sipush hx hb hd hv (k H locs ls F ⟨hm, hlv, okv_c ho hst, hP, hS, hl⟩)
theorem g_lconst {n : Fin 2} (hd : decode cc pc = .ok (.lconst n, 1)) (a : Int) (hv : Int64.ofNat (n : Nat) = Int64.ofInt a) (ho : inL a) (k : GW E cc nL own fr lo σ (pc + 1) lv (vL a :: st)) : GW E cc nL own fr lo σ pc lv st := by
  obtain ⟨p, l, e, R, s, m, args, below, meth, c, Q, D, cy, ad, A, k0, n0⟩ := E
  intro H locs ls F I
  have I0 := I
  obtain ⟨hm, hlv, hst, hP, hS, hl⟩ := I
  obtain ⟨hx, hb, hml, hown, hts, hK, hN, hap, hAi, hA, hfr, hlo⟩ := id F
  exact lv_lconst hx hb hd hv (k H locs ls F ⟨hm, hlv, okv_c ho hst, hP, hS, hl⟩)
theorem g_ldc {index : Nat} (hd : decode cc pc = .ok (.ldc index, 2)) (a : Int) (hw : Cond.constant own index (Int32.ofInt a) ∈ gtw) (ho : inI a) (k : GW E cc nL own fr lo σ (pc + 2) lv (vI a :: st)) : GW E cc nL own fr lo σ pc lv st := by
  obtain ⟨p, l, e, R, s, m, args, below, meth, c, Q, D, cy, ad, A, k0, n0⟩ := E
  intro H locs ls F I
  have I0 := I
  obtain ⟨hm, hlv, hst, hP, hS, hl⟩ := I
  obtain ⟨hx, hb, hml, hown, hts, hK, hN, hap, hAi, hA, hfr, hlo⟩ := id F
  exact lv_ldc hx hb hown (hts _ hw) hd (k H locs ls F ⟨hm, hlv, okv_c ho hst, hP, hS, hl⟩)
theorem g_ldc_w {index : Nat} (hd : decode cc pc = .ok (.ldc_w index, 3)) (a : Int) (hw : Cond.constant own index (Int32.ofInt a) ∈ gtw) (ho : inI a) (k : GW E cc nL own fr lo σ (pc + 3) lv (vI a :: st)) : GW E cc nL own fr lo σ pc lv st := by
  obtain ⟨p, l, e, R, s, m, args, below, meth, c, Q, D, cy, ad, A, k0, n0⟩ := E
  intro H locs ls F I
  have I0 := I
  obtain ⟨hm, hlv, hst, hP, hS, hl⟩ := I
  obtain ⟨hx, hb, hml, hown, hts, hK, hN, hap, hAi, hA, hfr, hlo⟩ := id F
  exact lv_ldcw hx hb hown (hts _ hw) hd (k H locs ls F ⟨hm, hlv, okv_c ho hst, hP, hS, hl⟩)
theorem g_iload_n {k : Fin 4} {a : Int} (hd : decode cc pc = .ok (.iload_n k, 1)) (hi : lv.lookup (k : Nat) = some (vI a)) (kk : GW E cc nL own fr lo σ (pc + 1) lv (vI a :: st)) : GW E cc nL own fr lo σ pc lv st := by
  obtain ⟨p, l, e, R, s, m, args, below, meth, c, Q, D, cy, ad, A, k0, n0⟩ := E
  intro H locs ls F I
  have I0 := I
  obtain ⟨hm, hlv, hst, hP, hS, hl⟩ := I
  obtain ⟨hx, hb, hml, hown, hts, hK, hN, hap, hAi, hA, hfr, hlo⟩ := id F
  exact lv_iload_n hx hb hd rfl (lk_at hl hi) (kk H locs ls F ⟨hm, hlv, okv_c (hlv _ (lk_mem hi)) hst, hP, hS, hl⟩)
theorem g_iload {i : Nat} {a : Int} (hd : decode cc pc = .ok (.iload i, 2)) (hi : lv.lookup i = some (vI a)) (kk : GW E cc nL own fr lo σ (pc + 2) lv (vI a :: st)) : GW E cc nL own fr lo σ pc lv st := by
  obtain ⟨p, l, e, R, s, m, args, below, meth, c, Q, D, cy, ad, A, k0, n0⟩ := E
  intro H locs ls F I
  have I0 := I
  obtain ⟨hm, hlv, hst, hP, hS, hl⟩ := I
  obtain ⟨hx, hb, hml, hown, hts, hK, hN, hap, hAi, hA, hfr, hlo⟩ := id F
  exact lv_iload hx hb hd (lk_at hl hi) (kk H locs ls F ⟨hm, hlv, okv_c (hlv _ (lk_mem hi)) hst, hP, hS, hl⟩)
theorem g_lload_n {k : Fin 4} {a : Int} (hd : decode cc pc = .ok (.lload_n k, 1)) (hi : lv.lookup (k : Nat) = some (vL a)) (kk : GW E cc nL own fr lo σ (pc + 1) lv (vL a :: st)) : GW E cc nL own fr lo σ pc lv st := by
  obtain ⟨p, l, e, R, s, m, args, below, meth, c, Q, D, cy, ad, A, k0, n0⟩ := E
  intro H locs ls F I
  have I0 := I
  obtain ⟨hm, hlv, hst, hP, hS, hl⟩ := I
  obtain ⟨hx, hb, hml, hown, hts, hK, hN, hap, hAi, hA, hfr, hlo⟩ := id F
  exact lv_lload_n hx hb hd rfl (lk_at hl hi) (kk H locs ls F ⟨hm, hlv, okv_c (hlv _ (lk_mem hi)) hst, hP, hS, hl⟩)
theorem g_lload {i : Nat} {a : Int} (hd : decode cc pc = .ok (.lload i, 2)) (hi : lv.lookup i = some (vL a)) (kk : GW E cc nL own fr lo σ (pc + 2) lv (vL a :: st)) : GW E cc nL own fr lo σ pc lv st := by
  obtain ⟨p, l, e, R, s, m, args, below, meth, c, Q, D, cy, ad, A, k0, n0⟩ := E
  intro H locs ls F I
  have I0 := I
  obtain ⟨hm, hlv, hst, hP, hS, hl⟩ := I
  obtain ⟨hx, hb, hml, hown, hts, hK, hN, hap, hAi, hA, hfr, hlo⟩ := id F
  exact lv_lload hx hb hd (lk_at hl hi) (kk H locs ls F ⟨hm, hlv, okv_c (hlv _ (lk_mem hi)) hst, hP, hS, hl⟩)
theorem g_aload_n {k : Fin 4} {a : Nat} (hd : decode cc pc = .ok (.aload_n k, 1)) (hi : lv.lookup (k : Nat) = some (vR a)) (kk : GW E cc nL own fr lo σ (pc + 1) lv (vR a :: st)) : GW E cc nL own fr lo σ pc lv st := by
  obtain ⟨p, l, e, R, s, m, args, below, meth, c, Q, D, cy, ad, A, k0, n0⟩ := E
  intro H locs ls F I
  have I0 := I
  obtain ⟨hm, hlv, hst, hP, hS, hl⟩ := I
  obtain ⟨hx, hb, hml, hown, hts, hK, hN, hap, hAi, hA, hfr, hlo⟩ := id F
  exact lv_aload_n (x := ad a) hx hb hd rfl (lk_at hl hi) (kk H locs ls F ⟨hm, hlv, okv_c trivial hst, hP, hS, hl⟩)
theorem g_aload {i : Nat} {a : Nat} (hd : decode cc pc = .ok (.aload i, 2)) (hi : lv.lookup i = some (vR a)) (kk : GW E cc nL own fr lo σ (pc + 2) lv (vR a :: st)) : GW E cc nL own fr lo σ pc lv st := by
  obtain ⟨p, l, e, R, s, m, args, below, meth, c, Q, D, cy, ad, A, k0, n0⟩ := E
  intro H locs ls F I
  have I0 := I
  obtain ⟨hm, hlv, hst, hP, hS, hl⟩ := I
  obtain ⟨hx, hb, hml, hown, hts, hK, hN, hap, hAi, hA, hfr, hlo⟩ := id F
  exact lv_aload (x := ad a) hx hb hd (lk_at hl hi) (kk H locs ls F ⟨hm, hlv, okv_c trivial hst, hP, hS, hl⟩)
theorem g_istore_n {k : Fin 4} {a : Int} (hd : decode cc pc = .ok (.istore_n k, 1)) (hn : (k : Nat) < nL) (hl' : lst1 lv (k : Nat) (vI a) = lv') (kk : GW E cc nL own fr lo σ (pc + 1) lv' st) : GW E cc nL own fr lo σ pc lv (vI a :: st) := by
  obtain ⟨p, l, e, R, s, m, args, below, meth, c, Q, D, cy, ad, A, k0, n0⟩ := E
  intro H locs ls F I
  have I0 := I
  obtain ⟨hm, hlv, hst, hP, hS, hl⟩ := I
  obtain ⟨hx, hb, hml, hown, hts, hK, hN, hap, hAi, hA, hfr, hlo⟩ := id F
  refine lv_istore_n hx hb hd rfl hl hn (mkl_1 ad lv (k : Nat) (vI a)) (fun ls' hl2 => ?_)
  subst hl'
  exact kk H locs ls' F ⟨hm, lst1_ok (okv_h hst) hlv, okv_t hst, hP, hS, hl2⟩
theorem g_istore {i : Nat} {a : Int} (hd : decode cc pc = .ok (.istore i, 2)) (hn : i < nL) (hl' : lst1 lv i (vI a) = lv') (kk : GW E cc nL own fr lo σ (pc + 2) lv' st) : GW E cc nL own fr lo σ pc lv (vI a :: st) := by
  obtain ⟨p, l, e, R, s, m, args, below, meth, c, Q, D, cy, ad, A, k0, n0⟩ := E
  intro H locs ls F I
  have I0 := I
  obtain ⟨hm, hlv, hst, hP, hS, hl⟩ := I
  obtain ⟨hx, hb, hml, hown, hts, hK, hN, hap, hAi, hA, hfr, hlo⟩ := id F
  refine lv_istore hx hb hd hl hn (mkl_1 ad lv i (vI a)) (fun ls' hl2 => ?_)
  subst hl'
  exact kk H locs ls' F ⟨hm, lst1_ok (okv_h hst) hlv, okv_t hst, hP, hS, hl2⟩
theorem g_astore_n {k : Fin 4} {a : Nat} (hd : decode cc pc = .ok (.astore_n k, 1)) (hn : (k : Nat) < nL) (hl' : lst1 lv (k : Nat) (vR a) = lv') (kk : GW E cc nL own fr lo σ (pc + 1) lv' st) : GW E cc nL own fr lo σ pc lv (vR a :: st) := by
  obtain ⟨p, l, e, R, s, m, args, below, meth, c, Q, D, cy, ad, A, k0, n0⟩ := E
  intro H locs ls F I
  have I0 := I
  obtain ⟨hm, hlv, hst, hP, hS, hl⟩ := I
  obtain ⟨hx, hb, hml, hown, hts, hK, hN, hap, hAi, hA, hfr, hlo⟩ := id F
  refine lv_astore_n (x := ad a) hx hb hd rfl hl hn (mkl_1 ad lv (k : Nat) (vR a)) (fun ls' hl2 => ?_)
  subst hl'
  exact kk H locs ls' F ⟨hm, lst1_ok (okv_h hst) hlv, okv_t hst, hP, hS, hl2⟩
theorem g_astore {i : Nat} {a : Nat} (hd : decode cc pc = .ok (.astore i, 2)) (hn : i < nL) (hl' : lst1 lv i (vR a) = lv') (kk : GW E cc nL own fr lo σ (pc + 2) lv' st) : GW E cc nL own fr lo σ pc lv (vR a :: st) := by
  obtain ⟨p, l, e, R, s, m, args, below, meth, c, Q, D, cy, ad, A, k0, n0⟩ := E
  intro H locs ls F I
  have I0 := I
  obtain ⟨hm, hlv, hst, hP, hS, hl⟩ := I
  obtain ⟨hx, hb, hml, hown, hts, hK, hN, hap, hAi, hA, hfr, hlo⟩ := id F
  refine lv_astore (x := ad a) hx hb hd hl hn (mkl_1 ad lv i (vR a)) (fun ls' hl2 => ?_)
  subst hl'
  exact kk H locs ls' F ⟨hm, lst1_ok (okv_h hst) hlv, okv_t hst, hP, hS, hl2⟩
theorem g_lstore_n {k : Fin 4} {a : Int} (hd : decode cc pc = .ok (.lstore_n k, 1)) (hn : (k : Nat) + 1 < nL) (hl' : lst2 lv (k : Nat) (vL a) = lv') (kk : GW E cc nL own fr lo σ (pc + 1) lv' st) : GW E cc nL own fr lo σ pc lv (vL a :: st) := by
  obtain ⟨p, l, e, R, s, m, args, below, meth, c, Q, D, cy, ad, A, k0, n0⟩ := E
  intro H locs ls F I
  have I0 := I
  obtain ⟨hm, hlv, hst, hP, hS, hl⟩ := I
  obtain ⟨hx, hb, hml, hown, hts, hK, hN, hap, hAi, hA, hfr, hlo⟩ := id F
  refine lv_lstore_n hx hb hd rfl hl hn (mkl_2 ad lv (k : Nat) (vL a)) (fun ls' hl2 => ?_)
  subst hl'
  exact kk H locs ls' F ⟨hm, lst2_ok (okv_h hst) hlv, okv_t hst, hP, hS, hl2⟩
theorem g_lstore {i : Nat} {a : Int} (hd : decode cc pc = .ok (.lstore i, 2)) (hn : i + 1 < nL) (hl' : lst2 lv i (vL a) = lv') (kk : GW E cc nL own fr lo σ (pc + 2) lv' st) : GW E cc nL own fr lo σ pc lv (vL a :: st) := by
  obtain ⟨p, l, e, R, s, m, args, below, meth, c, Q, D, cy, ad, A, k0, n0⟩ := E
  intro H locs ls F I
  have I0 := I
  obtain ⟨hm, hlv, hst, hP, hS, hl⟩ := I
  obtain ⟨hx, hb, hml, hown, hts, hK, hN, hap, hAi, hA, hfr, hlo⟩ := id F
  refine lv_lstore hx hb hd hl hn (mkl_2 ad lv i (vL a)) (fun ls' hl2 => ?_)
  subst hl'
  exact kk H locs ls' F ⟨hm, lst2_ok (okv_h hst) hlv, okv_t hst, hP, hS, hl2⟩
theorem g_iinc {i : Nat} {n a : Int} (hd : decode cc pc = .ok (.iinc i n, 3)) (hi : lv.lookup i = some (vI a)) (hn : i < nL) (hl' : lst1 lv i (vI (w32 (a + n))) = lv') (kk : GW E cc nL own fr lo σ (pc + 3) lv' st) : GW E cc nL own fr lo σ pc lv st := by
  obtain ⟨p, l, e, R, s, m, args, below, meth, c, Q, D, cy, ad, A, k0, n0⟩ := E
  intro H locs ls F I
  have I0 := I
  obtain ⟨hm, hlv, hst, hP, hS, hl⟩ := I
  obtain ⟨hx, hb, hml, hown, hts, hK, hN, hap, hAi, hA, hfr, hlo⟩ := id F
  obtain ⟨j, hj⟩ := List.mem_iff_getElem?.mp (lk_mem hi)
  refine lv_iinc (k := j) (x := Int32.ofInt a) (v := Int32.ofInt (w32 (a + n))) hx hb hd hl (by unfold mkl; rw [List.getElem?_map, hj]; rfl) (by rw [oi_w, Int32.ofInt_add]) hn (mkl_1 ad lv i (vI (w32 (a + n)))) (fun ls' hl2 => ?_)
  subst hl'
  exact kk H locs ls' F ⟨hm, lst1_ok (inI_w _) hlv, hst, hP, hS, hl2⟩
theorem g_dup {v : AV} (hd : decode cc pc = .ok (.dup, 1)) (hc : cat2 v = false) (k : GW E cc nL own fr lo σ (pc + 1) lv (v :: v :: st)) : GW E cc nL own fr lo σ pc lv (v :: st) := by
  obtain ⟨p, l, e, R, s, m, args, below, meth, c, Q, D, cy, ad, A, k0, n0⟩ := E
  intro H locs ls F I
  have I0 := I
  obtain ⟨hm, hlv, hst, hP, hS, hl⟩ := I
  obtain ⟨hx, hb, hml, hown, hts, hK, hN, hap, hAi, hA, hfr, hlo⟩ := id F
  exact lv_dup hx hb hd (by rw [mkv_cat, hc]; rfl) (k H locs ls F ⟨hm, hlv, okv_c (okv_h hst) hst, hP, hS, hl⟩)
theorem g_pop {v : AV} (hd : decode cc pc = .ok (.pop, 1)) (hc : cat2 v = false) (k : GW E cc nL own fr lo σ (pc + 1) lv st) : GW E cc nL own fr lo σ pc lv (v :: st) := by
  obtain ⟨p, l, e, R, s, m, args, below, meth, c, Q, D, cy, ad, A, k0, n0⟩ := E
  intro H locs ls F I
  have I0 := I
  obtain ⟨hm, hlv, hst, hP, hS, hl⟩ := I
  obtain ⟨hx, hb, hml, hown, hts, hK, hN, hap, hAi, hA, hfr, hlo⟩ := id F
  exact lv_pop hx hb hd (by rw [mkv_cat, hc]; rfl) (k H locs ls F ⟨hm, hlv, okv_t hst, hP, hS, hl⟩)
theorem g_dup_x1 {v u : AV} (hd : decode cc pc = .ok (.dup_x1, 1)) (hc : cat2 v = false) (hc2 : cat2 u = false) (k : GW E cc nL own fr lo σ (pc + 1) lv (v :: u :: v :: st)) : GW E cc nL own fr lo σ pc lv (v :: u :: st) := by
  obtain ⟨p, l, e, R, s, m, args, below, meth, c, Q, D, cy, ad, A, k0, n0⟩ := E
  intro H locs ls F I
  have I0 := I
  obtain ⟨hm, hlv, hst, hP, hS, hl⟩ := I
  obtain ⟨hx, hb, hml, hown, hts, hK, hN, hap, hAi, hA, hfr, hlo⟩ := id F
  exact lv_dup_x1 hx hb hd (by rw [mkv_cat, hc]; rfl) (by rw [mkv_cat, hc2]; rfl) (k H locs ls F ⟨hm, hlv, okv_c (okv_h hst) (okv_c (okv_h (okv_t hst)) (okv_c (okv_h hst) (okv_t (okv_t hst)))), hP, hS, hl⟩)
theorem g_iadd {a b : Int} (hd : decode cc pc = .ok (.iadd, 1)) (k : GW E cc nL own fr lo σ (pc + 1) lv (vI (w32 (a + b)) :: st)) : GW E cc nL own fr lo σ pc lv (vI b :: vI a :: st) := by
  obtain ⟨p, l, e, R, s, m, args, below, meth, c, Q, D, cy, ad, A, k0, n0⟩ := E
  intro H locs ls F I
  have I0 := I
  obtain ⟨hm, hlv, hst, hP, hS, hl⟩ := I
  obtain ⟨hx, hb, hml, hown, hts, hK, hN, hap, hAi, hA, hfr, hlo⟩ := id F
  have h := k H locs ls F ⟨hm, hlv, okv_c (inI_w _) (okv_t (okv_t hst)), hP, hS, hl⟩
  rw [List.map_cons, show mkv ad (vI (w32 (a + b))) = .int (Int32.ofInt (w32 (a + b))) from rfl, oi_w, Int32.ofInt_add] at h
  exact lv_iadd hx hb hd h
theorem g_isub {a b : Int} (hd : decode cc pc = .ok (.isub, 1)) (k : GW E cc nL own fr lo σ (pc + 1) lv (vI (w32 (a - b)) :: st)) : GW E cc nL own fr lo σ pc lv (vI b :: vI a :: st) := by
  obtain ⟨p, l, e, R, s, m, args, below, meth, c, Q, D, cy, ad, A, k0, n0⟩ := E
  intro H locs ls F I
  have I0 := I
  obtain ⟨hm, hlv, hst, hP, hS, hl⟩ := I
  obtain ⟨hx, hb, hml, hown, hts, hK, hN, hap, hAi, hA, hfr, hlo⟩ := id F
  have h := k H locs ls F ⟨hm, hlv, okv_c (inI_w _) (okv_t (okv_t hst)), hP, hS, hl⟩
  rw [List.map_cons, show mkv ad (vI (w32 (a - b))) = .int (Int32.ofInt (w32 (a - b))) from rfl, oi_w, Int32.ofInt_sub] at h
  exact lv_isub hx hb hd h
theorem g_imul {a b : Int} (hd : decode cc pc = .ok (.imul, 1)) (k : GW E cc nL own fr lo σ (pc + 1) lv (vI (w32 (a * b)) :: st)) : GW E cc nL own fr lo σ pc lv (vI b :: vI a :: st) := by
  obtain ⟨p, l, e, R, s, m, args, below, meth, c, Q, D, cy, ad, A, k0, n0⟩ := E
  intro H locs ls F I
  have I0 := I
  obtain ⟨hm, hlv, hst, hP, hS, hl⟩ := I
  obtain ⟨hx, hb, hml, hown, hts, hK, hN, hap, hAi, hA, hfr, hlo⟩ := id F
  have h := k H locs ls F ⟨hm, hlv, okv_c (inI_w _) (okv_t (okv_t hst)), hP, hS, hl⟩
  rw [List.map_cons, show mkv ad (vI (w32 (a * b))) = .int (Int32.ofInt (w32 (a * b))) from rfl, oi_w, Int32.ofInt_mul] at h
  exact lv_imul hx hb hd h
theorem g_iand {a b : Int} (hd : decode cc pc = .ok (.iand, 1)) (k : GW E cc nL own fr lo σ (pc + 1) lv (vI (band a b) :: st)) : GW E cc nL own fr lo σ pc lv (vI b :: vI a :: st) := by
  obtain ⟨p, l, e, R, s, m, args, below, meth, c, Q, D, cy, ad, A, k0, n0⟩ := E
  intro H locs ls F I
  have I0 := I
  obtain ⟨hm, hlv, hst, hP, hS, hl⟩ := I
  obtain ⟨hx, hb, hml, hown, hts, hK, hN, hap, hAi, hA, hfr, hlo⟩ := id F
  have h := k H locs ls F ⟨hm, hlv, okv_c (inI_t _) (okv_t (okv_t hst)), hP, hS, hl⟩
  rw [List.map_cons, show mkv ad (vI (band a b)) = .int (Int32.ofInt (band a b)) from rfl, band, Int32.ofInt_toInt] at h
  exact lv_iand hx hb hd h
theorem g_ior {a b : Int} (hd : decode cc pc = .ok (.ior, 1)) (k : GW E cc nL own fr lo σ (pc + 1) lv (vI (bor a b) :: st)) : GW E cc nL own fr lo σ pc lv (vI b :: vI a :: st) := by
  obtain ⟨p, l, e, R, s, m, args, below, meth, c, Q, D, cy, ad, A, k0, n0⟩ := E
  intro H locs ls F I
  have I0 := I
  obtain ⟨hm, hlv, hst, hP, hS, hl⟩ := I
  obtain ⟨hx, hb, hml, hown, hts, hK, hN, hap, hAi, hA, hfr, hlo⟩ := id F
  have h := k H locs ls F ⟨hm, hlv, okv_c (inI_t _) (okv_t (okv_t hst)), hP, hS, hl⟩
  rw [List.map_cons, show mkv ad (vI (bor a b)) = .int (Int32.ofInt (bor a b)) from rfl, bor, Int32.ofInt_toInt] at h
  exact lv_ior hx hb hd h
theorem g_ixor {a b : Int} (hd : decode cc pc = .ok (.ixor, 1)) (k : GW E cc nL own fr lo σ (pc + 1) lv (vI (bxor a b) :: st)) : GW E cc nL own fr lo σ pc lv (vI b :: vI a :: st) := by
  obtain ⟨p, l, e, R, s, m, args, below, meth, c, Q, D, cy, ad, A, k0, n0⟩ := E
  intro H locs ls F I
  have I0 := I
  obtain ⟨hm, hlv, hst, hP, hS, hl⟩ := I
  obtain ⟨hx, hb, hml, hown, hts, hK, hN, hap, hAi, hA, hfr, hlo⟩ := id F
  have h := k H locs ls F ⟨hm, hlv, okv_c (inI_t _) (okv_t (okv_t hst)), hP, hS, hl⟩
  rw [List.map_cons, show mkv ad (vI (bxor a b)) = .int (Int32.ofInt (bxor a b)) from rfl, bxor, Int32.ofInt_toInt] at h
  exact lv_ixor hx hb hd h
theorem g_ishl {a b : Int} (hd : decode cc pc = .ok (.ishl, 1)) (k : GW E cc nL own fr lo σ (pc + 1) lv (vI (bshl a b) :: st)) : GW E cc nL own fr lo σ pc lv (vI b :: vI a :: st) := by
  obtain ⟨p, l, e, R, s, m, args, below, meth, c, Q, D, cy, ad, A, k0, n0⟩ := E
  intro H locs ls F I
  have I0 := I
  obtain ⟨hm, hlv, hst, hP, hS, hl⟩ := I
  obtain ⟨hx, hb, hml, hown, hts, hK, hN, hap, hAi, hA, hfr, hlo⟩ := id F
  have h := k H locs ls F ⟨hm, hlv, okv_c (inI_t _) (okv_t (okv_t hst)), hP, hS, hl⟩
  rw [List.map_cons, show mkv ad (vI (bshl a b)) = .int (Int32.ofInt (bshl a b)) from rfl, bshl, Int32.ofInt_toInt] at h
  exact lv_ishl hx hb hd h
theorem g_ishr {a b : Int} (hd : decode cc pc = .ok (.ishr, 1)) (k : GW E cc nL own fr lo σ (pc + 1) lv (vI (bshr a b) :: st)) : GW E cc nL own fr lo σ pc lv (vI b :: vI a :: st) := by
  obtain ⟨p, l, e, R, s, m, args, below, meth, c, Q, D, cy, ad, A, k0, n0⟩ := E
  intro H locs ls F I
  have I0 := I
  obtain ⟨hm, hlv, hst, hP, hS, hl⟩ := I
  obtain ⟨hx, hb, hml, hown, hts, hK, hN, hap, hAi, hA, hfr, hlo⟩ := id F
  have h := k H locs ls F ⟨hm, hlv, okv_c (inI_t _) (okv_t (okv_t hst)), hP, hS, hl⟩
  rw [List.map_cons, show mkv ad (vI (bshr a b)) = .int (Int32.ofInt (bshr a b)) from rfl, bshr, Int32.ofInt_toInt] at h
  exact lv_ishr hx hb hd h
theorem g_iushr {a b : Int} (hd : decode cc pc = .ok (.iushr, 1)) (k : GW E cc nL own fr lo σ (pc + 1) lv (vI (bushr a b) :: st)) : GW E cc nL own fr lo σ pc lv (vI b :: vI a :: st) := by
  obtain ⟨p, l, e, R, s, m, args, below, meth, c, Q, D, cy, ad, A, k0, n0⟩ := E
  intro H locs ls F I
  have I0 := I
  obtain ⟨hm, hlv, hst, hP, hS, hl⟩ := I
  obtain ⟨hx, hb, hml, hown, hts, hK, hN, hap, hAi, hA, hfr, hlo⟩ := id F
  exact lv_iushr hx hb hd (Int32.ofInt_toInt _).symm (k H locs ls F ⟨hm, hlv, okv_c (inI_t _) (okv_t (okv_t hst)), hP, hS, hl⟩)
theorem g_idiv {a b : Int} (hd : decode cc pc = .ok (.idiv, 1)) (hne : b ≠ 0) (k : GW E cc nL own fr lo σ (pc + 1) lv (vI (bdiv a b) :: st)) : GW E cc nL own fr lo σ pc lv (vI b :: vI a :: st) := by
  obtain ⟨p, l, e, R, s, m, args, below, meth, c, Q, D, cy, ad, A, k0, n0⟩ := E
  intro H locs ls F I
  have I0 := I
  obtain ⟨hm, hlv, hst, hP, hS, hl⟩ := I
  obtain ⟨hx, hb, hml, hown, hts, hK, hN, hap, hAi, hA, hfr, hlo⟩ := id F
  have h := k H locs ls F ⟨hm, hlv, okv_c (inI_t _) (okv_t (okv_t hst)), hP, hS, hl⟩
  rw [List.map_cons, show mkv ad (vI (bdiv a b)) = .int (Int32.ofInt (bdiv a b)) from rfl, bdiv, Int32.ofInt_toInt] at h
  exact lv_idiv hx hb hd (fun e0 => hne ((oi_eq (okv_h hst) inI_0).mp (by rw [e0]; rfl))) h
theorem g_irem {a b : Int} (hd : decode cc pc = .ok (.irem, 1)) (hne : b ≠ 0) (k : GW E cc nL own fr lo σ (pc + 1) lv (vI (brem a b) :: st)) : GW E cc nL own fr lo σ pc lv (vI b :: vI a :: st) := by
  obtain ⟨p, l, e, R, s, m, args, below, meth, c, Q, D, cy, ad, A, k0, n0⟩ := E
  intro H locs ls F I
  have I0 := I
  obtain ⟨hm, hlv, hst, hP, hS, hl⟩ := I
  obtain ⟨hx, hb, hml, hown, hts, hK, hN, hap, hAi, hA, hfr, hlo⟩ := id F
  have h := k H locs ls F ⟨hm, hlv, okv_c (inI_t _) (okv_t (okv_t hst)), hP, hS, hl⟩
  rw [List.map_cons, show mkv ad (vI (brem a b)) = .int (Int32.ofInt (brem a b)) from rfl, brem, Int32.ofInt_toInt] at h
  exact lv_irem hx hb hd (fun e0 => hne ((oi_eq (okv_h hst) inI_0).mp (by rw [e0]; rfl))) h
theorem g_i2b {a : Int} (hd : decode cc pc = .ok (.i2b, 1)) (k : GW E cc nL own fr lo σ (pc + 1) lv (vI (i8 a) :: st)) : GW E cc nL own fr lo σ pc lv (vI a :: st) := by
  obtain ⟨p, l, e, R, s, m, args, below, meth, c, Q, D, cy, ad, A, k0, n0⟩ := E
  intro H locs ls F I
  have I0 := I
  obtain ⟨hm, hlv, hst, hP, hS, hl⟩ := I
  obtain ⟨hx, hb, hml, hown, hts, hK, hN, hap, hAi, hA, hfr, hlo⟩ := id F
  exact lv_i2b hx hb hd (Int32.ofInt_toInt _).symm (k H locs ls F ⟨hm, hlv, okv_c (inI_t _) (okv_t hst), hP, hS, hl⟩)
theorem g_i2s {a : Int} (hd : decode cc pc = .ok (.i2s, 1)) (k : GW E cc nL own fr lo σ (pc + 1) lv (vI (i16 a) :: st)) : GW E cc nL own fr lo σ pc lv (vI a :: st) := by
  obtain ⟨p, l, e, R, s, m, args, below, meth, c, Q, D, cy, ad, A, k0, n0⟩ := E
  intro H locs ls F I
  have I0 := I
  obtain ⟨hm, hlv, hst, hP, hS, hl⟩ := I
  obtain ⟨hx, hb, hml, hown, hts, hK, hN, hap, hAi, hA, hfr, hlo⟩ := id F
  exact lv_i2s hx hb hd (Int32.ofInt_toInt _).symm (k H locs ls F ⟨hm, hlv, okv_c (inI_t _) (okv_t hst), hP, hS, hl⟩)
theorem g_i2c {a : Int} (hd : decode cc pc = .ok (.i2c, 1)) (k : GW E cc nL own fr lo σ (pc + 1) lv (vI (u16 a) :: st)) : GW E cc nL own fr lo σ pc lv (vI a :: st) := by
  obtain ⟨p, l, e, R, s, m, args, below, meth, c, Q, D, cy, ad, A, k0, n0⟩ := E
  intro H locs ls F I
  have I0 := I
  obtain ⟨hm, hlv, hst, hP, hS, hl⟩ := I
  obtain ⟨hx, hb, hml, hown, hts, hK, hN, hap, hAi, hA, hfr, hlo⟩ := id F
  exact lv_i2c hx hb hd (Int32.ofInt_toInt _).symm (k H locs ls F ⟨hm, hlv, okv_c (inI_t _) (okv_t hst), hP, hS, hl⟩)
theorem i2l_eq {a : Int} (h : inI a) : (Int32.ofInt a).toInt64 = Int64.ofInt a := by
  have e : (Int32.ofInt a).toInt64.toInt = a := by rw [Int32.toInt_toInt64, oi_t h]
  rw [← Int64.ofInt_toInt (Int32.ofInt a).toInt64, e]
theorem inI_L {a : Int} (h : inI a) : inL a := ⟨by have := h.1; unfold inI at h; omega, by have := h.2; unfold inI at h; omega⟩
theorem g_i2l {a : Int} (hd : decode cc pc = .ok (.i2l, 1)) (k : GW E cc nL own fr lo σ (pc + 1) lv (vL a :: st)) : GW E cc nL own fr lo σ pc lv (vI a :: st) := by
  obtain ⟨p, l, e, R, s, m, args, below, meth, c, Q, D, cy, ad, A, k0, n0⟩ := E
  intro H locs ls F I
  have I0 := I
  obtain ⟨hm, hlv, hst, hP, hS, hl⟩ := I
  obtain ⟨hx, hb, hml, hown, hts, hK, hN, hap, hAi, hA, hfr, hlo⟩ := id F
  exact lv_i2l hx hb hd (i2l_eq (okv_h hst)) (k H locs ls F ⟨hm, hlv, okv_c (inI_L (okv_h hst)) (okv_t hst), hP, hS, hl⟩)
theorem g_lushr {a b : Int} (hd : decode cc pc = .ok (.lushr, 1)) (k : GW E cc nL own fr lo σ (pc + 1) lv (vL (lushr a b) :: st)) : GW E cc nL own fr lo σ pc lv (vI b :: vL a :: st) := by
  obtain ⟨p, l, e, R, s, m, args, below, meth, c, Q, D, cy, ad, A, k0, n0⟩ := E
  intro H locs ls F I
  have I0 := I
  obtain ⟨hm, hlv, hst, hP, hS, hl⟩ := I
  obtain ⟨hx, hb, hml, hown, hts, hK, hN, hap, hAi, hA, hfr, hlo⟩ := id F
  exact lv_lushr hx hb hd (Int64.ofInt_toInt _).symm (k H locs ls F ⟨hm, hlv, okv_c (inL_t _) (okv_t (okv_t hst)), hP, hS, hl⟩)
theorem g_lshl {a b : Int} (hd : decode cc pc = .ok (.lshl, 1)) (k : GW E cc nL own fr lo σ (pc + 1) lv (vL (lshl a b) :: st)) : GW E cc nL own fr lo σ pc lv (vI b :: vL a :: st) := by
  obtain ⟨p, l, e, R, s, m, args, below, meth, c, Q, D, cy, ad, A, k0, n0⟩ := E
  intro H locs ls F I
  have I0 := I
  obtain ⟨hm, hlv, hst, hP, hS, hl⟩ := I
  obtain ⟨hx, hb, hml, hown, hts, hK, hN, hap, hAi, hA, hfr, hlo⟩ := id F
  exact lv_lshl hx hb hd (Int64.ofInt_toInt _).symm (k H locs ls F ⟨hm, hlv, okv_c (inL_t _) (okv_t (okv_t hst)), hP, hS, hl⟩)
theorem g_land {a b : Int} (hd : decode cc pc = .ok (.land, 1)) (k : GW E cc nL own fr lo σ (pc + 1) lv (vL (lband a b) :: st)) : GW E cc nL own fr lo σ pc lv (vL b :: vL a :: st) := by
  obtain ⟨p, l, e, R, s, m, args, below, meth, c, Q, D, cy, ad, A, k0, n0⟩ := E
  intro H locs ls F I
  have I0 := I
  obtain ⟨hm, hlv, hst, hP, hS, hl⟩ := I
  obtain ⟨hx, hb, hml, hown, hts, hK, hN, hap, hAi, hA, hfr, hlo⟩ := id F
  have h := k H locs ls F ⟨hm, hlv, okv_c (inL_t _) (okv_t (okv_t hst)), hP, hS, hl⟩
  rw [List.map_cons, show mkv ad (vL (lband a b)) = .long (Int64.ofInt (lband a b)) from rfl, lband, Int64.ofInt_toInt] at h
  exact lv_land hx hb hd h
theorem g_lor {a b : Int} (hd : decode cc pc = .ok (.lor, 1)) (k : GW E cc nL own fr lo σ (pc + 1) lv (vL (lbor a b) :: st)) : GW E cc nL own fr lo σ pc lv (vL b :: vL a :: st) := by
  obtain ⟨p, l, e, R, s, m, args, below, meth, c, Q, D, cy, ad, A, k0, n0⟩ := E
  intro H locs ls F I
  have I0 := I
  obtain ⟨hm, hlv, hst, hP, hS, hl⟩ := I
  obtain ⟨hx, hb, hml, hown, hts, hK, hN, hap, hAi, hA, hfr, hlo⟩ := id F
  have h := k H locs ls F ⟨hm, hlv, okv_c (inL_t _) (okv_t (okv_t hst)), hP, hS, hl⟩
  rw [List.map_cons, show mkv ad (vL (lbor a b)) = .long (Int64.ofInt (lbor a b)) from rfl, lbor, Int64.ofInt_toInt] at h
  exact lv_lor hx hb hd h
theorem g_icmp_eq {a b : Int} {off : Int} {tgt : Nat} (hd : decode cc pc = .ok (.if_icmp .eq off, 3)) (ht : (pc : Int) + off = (tgt : Int)) (kt : a = b → GW E cc nL own fr lo σ tgt lv st) (kf : ¬ a = b → GW E cc nL own fr lo σ (pc + 3) lv st) : GW E cc nL own fr lo σ pc lv (vI b :: vI a :: st) := by
  obtain ⟨p, l, e, R, s, m, args, below, meth, c, Q, D, cy, ad, A, k0, n0⟩ := E
  intro H locs ls F I
  have I0 := I
  obtain ⟨hm, hlv, hst, hP, hS, hl⟩ := I
  obtain ⟨hx, hb, hml, hown, hts, hK, hN, hap, hAi, hA, hfr, hlo⟩ := id F
  have hb0 : inI b := okv_h hst
  have ha0 : inI a := okv_h (okv_t hst)
  have II : In s D cy ad A nL σ lv st H locs ls := ⟨hm, hlv, okv_t (okv_t hst), hP, hS, hl⟩
  exact lv_icmp_eq hx hb hd ht (fun z => kt ((oi_eq ha0 hb0).mp z) H locs ls F II) (fun z => kf (fun z2 => z ((oi_eq ha0 hb0).mpr z2)) H locs ls F II)
theorem g_icmp_ne {a b : Int} {off : Int} {tgt : Nat} (hd : decode cc pc = .ok (.if_icmp .ne off, 3)) (ht : (pc : Int) + off = (tgt : Int)) (kt : ¬ a = b → GW E cc nL own fr lo σ tgt lv st) (kf : a = b → GW E cc nL own fr lo σ (pc + 3) lv st) : GW E cc nL own fr lo σ pc lv (vI b :: vI a :: st) := by
  obtain ⟨p, l, e, R, s, m, args, below, meth, c, Q, D, cy, ad, A, k0, n0⟩ := E
  intro H locs ls F I
  have I0 := I
  obtain ⟨hm, hlv, hst, hP, hS, hl⟩ := I
  obtain ⟨hx, hb, hml, hown, hts, hK, hN, hap, hAi, hA, hfr, hlo⟩ := id F
  have hb0 : inI b := okv_h hst
  have ha0 : inI a := okv_h (okv_t hst)
  have II : In s D cy ad A nL σ lv st H locs ls := ⟨hm, hlv, okv_t (okv_t hst), hP, hS, hl⟩
  exact lv_icmp_ne hx hb hd ht (fun z => kt (fun z2 => z ((oi_eq ha0 hb0).mpr z2)) H locs ls F II) (fun z => kf ((oi_eq ha0 hb0).mp z) H locs ls F II)
theorem g_icmp_lt {a b : Int} {off : Int} {tgt : Nat} (hd : decode cc pc = .ok (.if_icmp .lt off, 3)) (ht : (pc : Int) + off = (tgt : Int)) (kt : a < b → GW E cc nL own fr lo σ tgt lv st) (kf : ¬ a < b → GW E cc nL own fr lo σ (pc + 3) lv st) : GW E cc nL own fr lo σ pc lv (vI b :: vI a :: st) := by
  obtain ⟨p, l, e, R, s, m, args, below, meth, c, Q, D, cy, ad, A, k0, n0⟩ := E
  intro H locs ls F I
  have I0 := I
  obtain ⟨hm, hlv, hst, hP, hS, hl⟩ := I
  obtain ⟨hx, hb, hml, hown, hts, hK, hN, hap, hAi, hA, hfr, hlo⟩ := id F
  have hb0 : inI b := okv_h hst
  have ha0 : inI a := okv_h (okv_t hst)
  have II : In s D cy ad A nL σ lv st H locs ls := ⟨hm, hlv, okv_t (okv_t hst), hP, hS, hl⟩
  exact lv_icmp_lt hx hb hd ht (fun z => kt ((oi_lt ha0 hb0).mp z) H locs ls F II) (fun z => kf (fun z2 => z ((oi_lt ha0 hb0).mpr z2)) H locs ls F II)
theorem g_icmp_ge {a b : Int} {off : Int} {tgt : Nat} (hd : decode cc pc = .ok (.if_icmp .ge off, 3)) (ht : (pc : Int) + off = (tgt : Int)) (kt : b ≤ a → GW E cc nL own fr lo σ tgt lv st) (kf : ¬ b ≤ a → GW E cc nL own fr lo σ (pc + 3) lv st) : GW E cc nL own fr lo σ pc lv (vI b :: vI a :: st) := by
  obtain ⟨p, l, e, R, s, m, args, below, meth, c, Q, D, cy, ad, A, k0, n0⟩ := E
  intro H locs ls F I
  have I0 := I
  obtain ⟨hm, hlv, hst, hP, hS, hl⟩ := I
  obtain ⟨hx, hb, hml, hown, hts, hK, hN, hap, hAi, hA, hfr, hlo⟩ := id F
  have hb0 : inI b := okv_h hst
  have ha0 : inI a := okv_h (okv_t hst)
  have II : In s D cy ad A nL σ lv st H locs ls := ⟨hm, hlv, okv_t (okv_t hst), hP, hS, hl⟩
  exact lv_icmp_ge hx hb hd ht (fun z => kt ((oi_le hb0 ha0).mp z) H locs ls F II) (fun z => kf (fun z2 => z ((oi_le hb0 ha0).mpr z2)) H locs ls F II)
theorem g_icmp_gt {a b : Int} {off : Int} {tgt : Nat} (hd : decode cc pc = .ok (.if_icmp .gt off, 3)) (ht : (pc : Int) + off = (tgt : Int)) (kt : b < a → GW E cc nL own fr lo σ tgt lv st) (kf : ¬ b < a → GW E cc nL own fr lo σ (pc + 3) lv st) : GW E cc nL own fr lo σ pc lv (vI b :: vI a :: st) := by
  obtain ⟨p, l, e, R, s, m, args, below, meth, c, Q, D, cy, ad, A, k0, n0⟩ := E
  intro H locs ls F I
  have I0 := I
  obtain ⟨hm, hlv, hst, hP, hS, hl⟩ := I
  obtain ⟨hx, hb, hml, hown, hts, hK, hN, hap, hAi, hA, hfr, hlo⟩ := id F
  have hb0 : inI b := okv_h hst
  have ha0 : inI a := okv_h (okv_t hst)
  have II : In s D cy ad A nL σ lv st H locs ls := ⟨hm, hlv, okv_t (okv_t hst), hP, hS, hl⟩
  exact lv_icmp_gt hx hb hd ht (fun z => kt ((oi_lt hb0 ha0).mp z) H locs ls F II) (fun z => kf (fun z2 => z ((oi_lt hb0 ha0).mpr z2)) H locs ls F II)
theorem g_icmp_le {a b : Int} {off : Int} {tgt : Nat} (hd : decode cc pc = .ok (.if_icmp .le off, 3)) (ht : (pc : Int) + off = (tgt : Int)) (kt : a ≤ b → GW E cc nL own fr lo σ tgt lv st) (kf : ¬ a ≤ b → GW E cc nL own fr lo σ (pc + 3) lv st) : GW E cc nL own fr lo σ pc lv (vI b :: vI a :: st) := by
  obtain ⟨p, l, e, R, s, m, args, below, meth, c, Q, D, cy, ad, A, k0, n0⟩ := E
  intro H locs ls F I
  have I0 := I
  obtain ⟨hm, hlv, hst, hP, hS, hl⟩ := I
  obtain ⟨hx, hb, hml, hown, hts, hK, hN, hap, hAi, hA, hfr, hlo⟩ := id F
  have hb0 : inI b := okv_h hst
  have ha0 : inI a := okv_h (okv_t hst)
  have II : In s D cy ad A nL σ lv st H locs ls := ⟨hm, hlv, okv_t (okv_t hst), hP, hS, hl⟩
  exact lv_icmp_le hx hb hd ht (fun z => kt ((oi_le ha0 hb0).mp z) H locs ls F II) (fun z => kf (fun z2 => z ((oi_le ha0 hb0).mpr z2)) H locs ls F II)
theorem g_goto {off : Int} {tgt : Nat} (hd : decode cc pc = .ok (.goto off, 3)) (ht : (pc : Int) + off = (tgt : Int)) (k : GW E cc nL own fr lo σ tgt lv st) : GW E cc nL own fr lo σ pc lv st := by
  obtain ⟨p, l, e, R, s, m, args, below, meth, c, Q, D, cy, ad, A, k0, n0⟩ := E
  intro H locs ls F I
  have I0 := I
  obtain ⟨hm, hlv, hst, hP, hS, hl⟩ := I
  obtain ⟨hx, hb, hml, hown, hts, hK, hN, hap, hAi, hA, hfr, hlo⟩ := id F
  exact lv_goto hx hb hd ht (k H locs ls F I0)
end GROWS
