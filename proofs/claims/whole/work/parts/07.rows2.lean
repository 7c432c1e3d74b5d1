def FLd (own : String) (index ci k : Nat) : Prop := ∃ (C : String) (T : u_T) (N : Nat), vwCl[ci]? = some (C, T, N) ∧ (∀ w ∈ u_ws C T N, w ∈ gtw) ∧ k < N ∧ Cond.fieldLink own index (T k).1 (T k).2.1 (T k).2.2.1 ∈ gtw
def FLp (own : String) (index ci k : Nat) : Prop := ∃ (C : String) (T : u_T) (N : Nat), vwCl[ci]? = some (C, T, N) ∧ (∀ w ∈ u_ws C T N, w ∈ gtw) ∧ k < N ∧ Cond.fieldLink own index (T k).1 (T k).2.1 (T k).2.2.1 ∈ gtw ∧ (T k).2.2.2 = false ∧ parseFieldDescriptor (T k).2.2.1 = some .int ∧ (∃ ty0 : Nat → FieldType, ∀ k, k < N → parseFieldDescriptor (T k).2.2.1 = some (ty0 k)) ∧ ∀ a, a < N → ∀ b, b < N → a ≠ b → (T a).2.1 ≠ (T b).2.1
theorem cel_o (ad : Nat → Nat) (cy : Nat → ClassId) {k : KD} {ci : Nat} {fs : List (Option Nat)} (h : k = (0, ci, fs)) (g : Nat → Int) : cel ad cy k g = .inr (ci, fs.zipIdx.map (fvl ad g)) := by
  subst h; simp [cel]
theorem cel_i (ad : Nat → Nat) (cy : Nat → ClassId) {k : KD} {t n : Nat} {x : List (Option Nat)} (h : k = (t, n, x)) (h0 : t ≠ 0) (h4 : t < 4) (g : Nat → Int) : cel ad cy k g = .inl (cy (t - 1), n, .inl (fun j => Int32.ofInt (g j))) := by
  subst h
  have h5 : t ≠ 4 := by omega
  simp [cel, h0, h4, h5]
theorem cel_l (ad : Nat → Nat) (cy : Nat → ClassId) {k : KD} {n : Nat} {x : List (Option Nat)} (h : k = (4, n, x)) (g : Nat → Int) : cel ad cy k g = .inl (cy 3, n, .inr (.inl (fun j => Int64.ofInt (g j)))) := by
  subst h; simp [cel]
theorem cel_r (ad : Nat → Nat) (cy : Nat → ClassId) {k : KD} {t n : Nat} {x : List (Option Nat)} (h : k = (t, n, x)) (h5 : 5 ≤ t) (h7 : t ≤ 7) (g : Nat → Int) : cel ad cy k g = .inl (cy (t - 1), n, .inr (.inr (.inr (.inr (fun j => (x.getD j none).map ad))))) := by
  subst h
  have h0 : t ≠ 0 := by omega
  have h4 : t ≠ 4 := by omega
  have h8 : t ≠ 8 := by omega
  have h3 : ¬ t < 4 := by omega
  simp [cel, h0, h4, h8, h3]
theorem cel_8 (ad : Nat → Nat) (cy : Nat → ClassId) {k : KD} {n : Nat} {x : List (Option Nat)} (h : k = (8, n, x)) (g : Nat → Int) : cel ad cy k g = .inl (cy 4, n, .inr (.inr (.inr (.inr (fun j => some (ad (g j).toNat)))))) := by
  subst h; simp [cel]
theorem fv_at (ad : Nat → Nat) (g : Nat → Int) (fs : List (Option Nat)) {k : Nat} {o : Option Nat} (h : fs[k]? = some o) : (fs.zipIdx.map (fvl ad g))[k]? = some (fvl ad g (o, k)) := by
  rw [List.getElem?_map, List.getElem?_zipIdx, h]
  simp
theorem fv_set (ad : Nat → Nat) (g : Nat → Int) (fs : List (Option Nat)) {k : Nat} (v : Int) (h : fs[k]? = some none) : (fs.zipIdx.map (fvl ad g)).set k (.int (Int32.ofInt v)) = fs.zipIdx.map (fvl ad (up1 g k v)) := by
  apply List.ext_getElem?
  intro j
  rw [List.getElem?_set, List.getElem?_map, List.getElem?_map, List.getElem?_zipIdx]
  by_cases c : k = j
  · subst c
    have hl : k < fs.length := (List.getElem?_eq_some_iff.mp h).1
    rw [List.length_map, List.length_zipIdx, if_pos rfl, if_pos hl, h]
    simp [fvl, up1]
  · simp only [c, if_false]
    cases e : fs[j]? with
    | none => rfl
    | some o =>
      have c2 : ¬ j = k := fun q => c q.symm
      cases o <;> simp [fvl, up1, c2]
theorem okm_i {σ : Mem} (h : okm σ) {i : Nat} {t n : Nat} {x : List (Option Nat)} (hk : kd i = (t, n, x)) (h4 : t ≠ 4) (j : Nat) : inI (σ i j) := by
  have := h i j
  rw [hk] at this
  simpa [h4] using this
theorem okm_l {σ : Mem} (h : okm σ) {i : Nat} {n : Nat} {x : List (Option Nat)} (hk : kd i = (4, n, x)) (j : Nat) : inL (σ i j) := by
  have := h i j
  rw [hk] at this
  simpa using this
theorem okm_u {σ : Mem} (h : okm σ) {i : Nat} {t n : Nat} {x : List (Option Nat)} (hk : kd i = (t, n, x)) (h4 : t ≠ 4) {j : Nat} {v : Int} (hv : inI v) : okm (up2 σ i j v) := by
  refine okm_A h (fun a => ?_)
  rw [hk]
  simp only [h4, if_false]
  unfold up1
  split
  · exact hv
  · exact okm_i h hk h4 a
theorem okm_ul {σ : Mem} (h : okm σ) {i : Nat} {n : Nat} {x : List (Option Nat)} (hk : kd i = (4, n, x)) {j : Nat} {v : Int} (hv : inL v) : okm (up2 σ i j v) := by
  refine okm_A h (fun a => ?_)
  rw [hk]
  simp only [if_true]
  unfold up1
  split
  · exact hv
  · exact okm_l h hk a
theorem id_of {i : Nat} {t n : Nat} {x : List (Option Nat)} (hk : kd i = (t, n, x)) (h : t ≠ 9) : i ∈ ids := ids_of (by rw [hk]; exact h)
theorem upd_of {g : Nat → Int} {j : Nat} {v : Int} : upd (fun q => Int32.ofInt (g q)) j (Int32.ofInt v) = fun q => Int32.ofInt (up1 g j v q) := by
  funext q
  unfold upd up1
  split <;> rfl
theorem updL_of {g : Nat → Int} {j : Nat} {v : Int} : vp_updL (fun q => Int64.ofInt (g q)) j (Int64.ofInt v) = fun q => Int64.ofInt (up1 g j v q) := by
  funext q
  unfold vp_updL up1
  split <;> rfl
section GROWS2
variable {E : TE} {cc : ByteArray} {nL : Nat} {own : String} {fr lo : Nat} {σ : Mem} {pc : Nat} {lv lv' : List (Nat × AV)} {st : List AV}
theorem g_if_eq {a : Int} {off : Int} {tgt : Nat} (hd : decode cc pc = .ok (.ifCond .eq off, 3)) (ht : (pc : Int) + off = (tgt : Int)) (kt : a = 0 → GW E cc nL own fr lo σ tgt lv st) (kf : ¬ a = 0 → GW E cc nL own fr lo σ (pc + 3) lv st) : GW E cc nL own fr lo σ pc lv (vI a :: st) := by
  obtain ⟨p, l, e, R, s, m, args, below, meth, c, Q, D, cy, ad, A, k0, n0⟩ := E
  intro H locs ls F I
  have I0 := I
  obtain ⟨hm, hlv, hst, hP, hS, hl⟩ := I
  obtain ⟨hx, hb, hml, hown, hts, hK, hN, hap, hAi, hA, hfr, hlo⟩ := id F
  have ha0 : inI a := okv_h hst
  have II : In s D cy ad A nL σ lv st H locs ls := ⟨hm, hlv, okv_t hst, hP, hS, hl⟩
  exact lv_if_eq hx hb hd ht (fun z => kt ((oi_eq ha0 inI_0).mp z) H locs ls F II) (fun z => kf (fun z2 => z ((oi_eq ha0 inI_0).mpr z2)) H locs ls F II)
theorem g_if_ne {a : Int} {off : Int} {tgt : Nat} (hd : decode cc pc = .ok (.ifCond .ne off, 3)) (ht : (pc : Int) + off = (tgt : Int)) (kt : ¬ a = 0 → GW E cc nL own fr lo σ tgt lv st) (kf : a = 0 → GW E cc nL own fr lo σ (pc + 3) lv st) : GW E cc nL own fr lo σ pc lv (vI a :: st) := by
  obtain ⟨p, l, e, R, s, m, args, below, meth, c, Q, D, cy, ad, A, k0, n0⟩ := E
  intro H locs ls F I
  have I0 := I
  obtain ⟨hm, hlv, hst, hP, hS, hl⟩ := I
  obtain ⟨hx, hb, hml, hown, hts, hK, hN, hap, hAi, hA, hfr, hlo⟩ := id F
  have ha0 : inI a := okv_h hst
  have II : In s D cy ad A nL σ lv st H locs ls := ⟨hm, hlv, okv_t hst, hP, hS, hl⟩
  exact lv_if_ne hx hb hd ht (fun z => kt (fun z2 => z ((oi_eq ha0 inI_0).mpr z2)) H locs ls F II) (fun z => kf ((oi_eq ha0 inI_0).mp z) H locs ls F II)
theorem g_if_lt {a : Int} {off : Int} {tgt : Nat} (hd : decode cc pc = .ok (.ifCond .lt off, 3)) (ht : (pc : Int) + off = (tgt : Int)) (kt : a < 0 → GW E cc nL own fr lo σ tgt lv st) (kf : ¬ a < 0 → GW E cc nL own fr lo σ (pc + 3) lv st) : GW E cc nL own fr lo σ pc lv (vI a :: st) := by
  obtain ⟨p, l, e, R, s, m, args, below, meth, c, Q, D, cy, ad, A, k0, n0⟩ := E
  intro H locs ls F I
  have I0 := I
  obtain ⟨hm, hlv, hst, hP, hS, hl⟩ := I
  obtain ⟨hx, hb, hml, hown, hts, hK, hN, hap, hAi, hA, hfr, hlo⟩ := id F
  have ha0 : inI a := okv_h hst
  have II : In s D cy ad A nL σ lv st H locs ls := ⟨hm, hlv, okv_t hst, hP, hS, hl⟩
  exact lv_if_lt hx hb hd ht (fun z => kt ((oi_lt ha0 inI_0).mp z) H locs ls F II) (fun z => kf (fun z2 => z ((oi_lt ha0 inI_0).mpr z2)) H locs ls F II)
theorem g_if_ge {a : Int} {off : Int} {tgt : Nat} (hd : decode cc pc = .ok (.ifCond .ge off, 3)) (ht : (pc : Int) + off = (tgt : Int)) (kt : 0 ≤ a → GW E cc nL own fr lo σ tgt lv st) (kf : ¬ 0 ≤ a → GW E cc nL own fr lo σ (pc + 3) lv st) : GW E cc nL own fr lo σ pc lv (vI a :: st) := by
  obtain ⟨p, l, e, R, s, m, args, below, meth, c, Q, D, cy, ad, A, k0, n0⟩ := E
  intro H locs ls F I
  have I0 := I
  obtain ⟨hm, hlv, hst, hP, hS, hl⟩ := I
  obtain ⟨hx, hb, hml, hown, hts, hK, hN, hap, hAi, hA, hfr, hlo⟩ := id F
  have ha0 : inI a := okv_h hst
  have II : In s D cy ad A nL σ lv st H locs ls := ⟨hm, hlv, okv_t hst, hP, hS, hl⟩
  exact lv_if_ge hx hb hd ht (fun z => kt ((oi_le inI_0 ha0).mp z) H locs ls F II) (fun z => kf (fun z2 => z ((oi_le inI_0 ha0).mpr z2)) H locs ls F II)
theorem g_if_gt {a : Int} {off : Int} {tgt : Nat} (hd : decode cc pc = .ok (.ifCond .gt off, 3)) (ht : (pc : Int) + off = (tgt : Int)) (kt : 0 < a → GW E cc nL own fr lo σ tgt lv st) (kf : ¬ 0 < a → GW E cc nL own fr lo σ (pc + 3) lv st) : GW E cc nL own fr lo σ pc lv (vI a :: st) := by
  obtain ⟨p, l, e, R, s, m, args, below, meth, c, Q, D, cy, ad, A, k0, n0⟩ := E
  intro H locs ls F I
  have I0 := I
  obtain ⟨hm, hlv, hst, hP, hS, hl⟩ := I
  obtain ⟨hx, hb, hml, hown, hts, hK, hN, hap, hAi, hA, hfr, hlo⟩ := id F
  have ha0 : inI a := okv_h hst
  have II : In s D cy ad A nL σ lv st H locs ls := ⟨hm, hlv, okv_t hst, hP, hS, hl⟩
  exact lv_if_gt hx hb hd ht (fun z => kt ((oi_lt inI_0 ha0).mp z) H locs ls F II) (fun z => kf (fun z2 => z ((oi_lt inI_0 ha0).mpr z2)) H locs ls F II)
theorem g_if_le {a : Int} {off : Int} {tgt : Nat} (hd : decode cc pc = .ok (.ifCond .le off, 3)) (ht : (pc : Int) + off = (tgt : Int)) (kt : a ≤ 0 → GW E cc nL own fr lo σ tgt lv st) (kf : ¬ a ≤ 0 → GW E cc nL own fr lo σ (pc + 3) lv st) : GW E cc nL own fr lo σ pc lv (vI a :: st) := by
  obtain ⟨p, l, e, R, s, m, args, below, meth, c, Q, D, cy, ad, A, k0, n0⟩ := E
  intro H locs ls F I
  have I0 := I
  obtain ⟨hm, hlv, hst, hP, hS, hl⟩ := I
  obtain ⟨hx, hb, hml, hown, hts, hK, hN, hap, hAi, hA, hfr, hlo⟩ := id F
  have ha0 : inI a := okv_h hst
  have II : In s D cy ad A nL σ lv st H locs ls := ⟨hm, hlv, okv_t hst, hP, hS, hl⟩
  exact lv_if_le hx hb hd ht (fun z => kt ((oi_le ha0 inI_0).mp z) H locs ls F II) (fun z => kf (fun z2 => z ((oi_le ha0 inI_0).mpr z2)) H locs ls F II)
theorem g_dup2 {v u : AV} (hd : decode cc pc = .ok (.dup2, 1)) (hc : cat2 v = false) (hc2 : cat2 u = false) (k : GW E cc nL own fr lo σ (pc + 1) lv (v :: u :: v :: u :: st)) : GW E cc nL own fr lo σ pc lv (v :: u :: st) := by
  obtain ⟨p, l, e, R, s, m, args, below, meth, c, Q, D, cy, ad, A, k0, n0⟩ := E
  intro H locs ls F I
  have I0 := I
  obtain ⟨hm, hlv, hst, hP, hS, hl⟩ := I
  obtain ⟨hx, hb, hml, hown, hts, hK, hN, hap, hAi, hA, hfr, hlo⟩ := id F
  exact lv_dup2_11 hx hb hd (by rw [mkv_cat, hc]; rfl) (by rw [mkv_cat, hc2]; rfl) (k H locs ls F ⟨hm, hlv, okv_c (okv_h hst) (okv_c (okv_h (okv_t hst)) hst), hP, hS, hl⟩)
def lcmpI (a b : Int) : Int := if b < a then 1 else if a = b then 0 else -1
theorem lcmp_eq {a b : Int} (ha : inL a) (hb : inL b) : lg_cmp (Int64.ofInt a) (Int64.ofInt b) = Int32.ofInt (lcmpI a b) := by
  unfold lg_cmp lcmpI
  have e1 : (Int64.ofInt a > Int64.ofInt b) ↔ b < a := by rw [gt_iff_lt, Int64.lt_iff_toInt_lt, ol_t ha, ol_t hb]
  have e2 : (Int64.ofInt a = Int64.ofInt b) ↔ a = b := by
    constructor
    · intro h; rw [← ol_t ha, ← ol_t hb, h]
    · intro h; rw [h]
  by_cases c1 : b < a
  · rw [if_pos (e1.mpr c1), if_pos c1]; rfl
  · rw [if_neg (fun q => c1 (e1.mp q)), if_neg c1]
    by_cases c2 : a = b
    · rw [if_pos (e2.mpr c2), if_pos c2]; rfl
    · rw [if_neg (fun q => c2 (e2.mp q)), if_neg c2]; rfl
theorem g_lcmp {a b : Int} (hd : decode cc pc = .ok (.lcmp, 1)) (k : GW E cc nL own fr lo σ (pc + 1) lv (vI (lcmpI a b) :: st)) : GW E cc nL own fr lo σ pc lv (vL b :: vL a :: st) := by
  obtain ⟨p, l, e, R, s, m, args, below, meth, c, Q, D, cy, ad, A, k0, n0⟩ := E
  intro H locs ls F I
  have I0 := I
  obtain ⟨hm, hlv, hst, hP, hS, hl⟩ := I
  obtain ⟨hx, hb, hml, hown, hts, hK, hN, hap, hAi, hA, hfr, hlo⟩ := id F
  refine W.lcmp hx hb hd ?_
  rw [lcmp_eq (okv_h (okv_t hst)) (okv_h hst)]
  refine k H locs ls F ⟨hm, hlv, okv_c ?_ (okv_t (okv_t hst)), hP, hS, hl⟩
  show inI (lcmpI a b)
  unfold lcmpI
  split
  · exact ⟨by decide, by decide⟩
  · split <;> exact ⟨by decide, by decide⟩
theorem g_tswOut {a : Int} {dflt lo1 hi : Int} {offs : Array Int} {len tgt : Nat} (hd : decode cc pc = .ok (.tableswitch dflt lo1 hi offs, len)) (h : a < lo1 ∨ hi < a) (ht : (pc : Int) + dflt = (tgt : Int)) (k : GW E cc nL own fr lo σ tgt lv st) : GW E cc nL own fr lo σ pc lv (vI a :: st) := by
  obtain ⟨p, l, e, R, s, m, args, below, meth, c, Q, D, cy, ad, A, k0, n0⟩ := E
  intro H locs ls F I
  have I0 := I
  obtain ⟨hm, hlv, hst, hP, hS, hl⟩ := I
  obtain ⟨hx, hb, hml, hown, hts, hK, hN, hap, hAi, hA, hfr, hlo⟩ := id F
  exact lv_tableOut hx hb hd (by rw [oi_t (okv_h hst)]; exact h) ht (k H locs ls F ⟨hm, hlv, okv_t hst, hP, hS, hl⟩)
theorem g_tswIn {a : Int} {dflt lo1 hi off : Int} {offs : Array Int} {len tgt : Nat} (hd : decode cc pc = .ok (.tableswitch dflt lo1 hi offs, len)) (j : Int) (ha : a = j) (h1 : ¬ j < lo1) (h2 : ¬ hi < j) (ho : offs[(j - lo1).toNat]? = some off) (ht : (pc : Int) + off = (tgt : Int)) (k : GW E cc nL own fr lo σ tgt lv st) : GW E cc nL own fr lo σ pc lv (vI a :: st) := by
  obtain ⟨p, l, e, R, s, m, args, below, meth, c, Q, D, cy, ad, A, k0, n0⟩ := E
  intro H locs ls F I
  have I0 := I
  obtain ⟨hm, hlv, hst, hP, hS, hl⟩ := I
  obtain ⟨hx, hb, hml, hown, hts, hK, hN, hap, hAi, hA, hfr, hlo⟩ := id F
  subst ha
  have e := oi_t (okv_h hst)
  exact lv_tableIn hx hb hd (by rw [e]; exact h1) (by rw [e]; exact h2) (by rw [e]; exact ho) ht (k H locs ls F ⟨hm, hlv, okv_t hst, hP, hS, hl⟩)
theorem g_getI {i index ci k : Nat} {fs : List (Option Nat)} (hf : FLd own index ci k) (hk : kd i = (0, ci, fs)) (hfs : fs[k]? = some none) (hd : decode cc pc = .ok (.getfield index, 3)) (kk : GW E cc nL own fr lo σ (pc + 3) lv (vI (σ i k) :: st)) : GW E cc nL own fr lo σ pc lv (vR i :: st) := by
  obtain ⟨p, l, e, R, s, m, args, below, meth, c, Q, D, cy, ad, A, k0, n0⟩ := E
  intro H locs ls F I
  have I0 := I
  obtain ⟨hm, hlv, hst, hP, hS, hl⟩ := I
  obtain ⟨hx, hb, hml, hown, hts, hK, hN, hap, hAi, hA, hfr, hlo⟩ := id F
  obtain ⟨C, T, N, f1, f2, f3, f4⟩ := hf
  obtain ⟨q, -, hq⟩ := wd_at (ad := ad) (cy := cy) (σ := σ) (id_of hk (by decide))
  rw [cel_o ad cy hk] at hq
  exact va_get (D := D) (ci := ci) (C := C) (T := T) (N := N) hx hb hts f2 hown hK hP q hq f1 k f3 (hts _ f4) (fun _ h => h) (fv_at ad (σ i) fs hfs) hd (kk H locs ls F ⟨hm, hlv, okv_c (okm_i hm hk (by decide) k) (okv_t hst), hP, hS, hl⟩)
theorem g_getR {i r index ci k : Nat} {fs : List (Option Nat)} (hf : FLd own index ci k) (hk : kd i = (0, ci, fs)) (hfs : fs[k]? = some (some r)) (hd : decode cc pc = .ok (.getfield index, 3)) (kk : GW E cc nL own fr lo σ (pc + 3) lv (vR r :: st)) : GW E cc nL own fr lo σ pc lv (vR i :: st) := by
  obtain ⟨p, l, e, R, s, m, args, below, meth, c, Q, D, cy, ad, A, k0, n0⟩ := E
  intro H locs ls F I
  have I0 := I
  obtain ⟨hm, hlv, hst, hP, hS, hl⟩ := I
  obtain ⟨hx, hb, hml, hown, hts, hK, hN, hap, hAi, hA, hfr, hlo⟩ := id F
  obtain ⟨C, T, N, f1, f2, f3, f4⟩ := hf
  obtain ⟨q, -, hq⟩ := wd_at (ad := ad) (cy := cy) (σ := σ) (id_of hk (by decide))
  rw [cel_o ad cy hk] at hq
  exact va_get (D := D) (ci := ci) (C := C) (T := T) (N := N) hx hb hts f2 hown hK hP q hq f1 k f3 (hts _ f4) (fun _ h => h) (fv_at ad (σ i) fs hfs) hd (kk H locs ls F ⟨hm, hlv, okv_c trivial (okv_t hst), hP, hS, hl⟩)
theorem g_putI {i index ci k : Nat} {fs : List (Option Nat)} {a : Int} (hf : FLp own index ci k) (hk : kd i = (0, ci, fs)) (hfs : fs[k]? = some none) (hd : decode cc pc = .ok (.putfield index, 3)) (kk : GW E cc nL own fr lo (up2 σ i k a) (pc + 3) lv st) : GW E cc nL own fr lo σ pc lv (vI a :: vR i :: st) := by
  obtain ⟨p, l, e, R, s, m, args, below, meth, c, Q, D, cy, ad, A, k0, n0⟩ := E
  intro H locs ls F I
  have I0 := I
  obtain ⟨hm, hlv, hst, hP, hS, hl⟩ := I
  obtain ⟨hx, hb, hml, hown, hts, hK, hN, hap, hAi, hA, hfr, hlo⟩ := id F
  obtain ⟨C, T, N, f1, f2, f3, f4, f5, f6, ⟨ty0, f7⟩, f8⟩ := hf
  obtain ⟨q, hq0, hq⟩ := wd_at (ad := ad) (cy := cy) (σ := σ) (id_of hk (by decide))
  rw [cel_o ad cy hk] at hq
  have hlen : k < (fs.zipIdx.map (fvl ad (σ i))).length := by
    rw [List.length_map, List.length_zipIdx]
    exact (List.getElem?_eq_some_iff.mp hfs).1
  refine va_put (D := D) (ci := ci) (C := C) (T := T) (N := N) (ty := .int) hx hb hts f2 ty0 f7 f8 hown hK hP (wd_D hap hAi) hS q hq f1 k f3 (hts _ f4) (fun _ h => h) f5 f6 rfl rfl hlen hd (fun H1 locs1 hP1 _ hS1 => ?_)
  rw [show mkv ad (vI a) = .int (Int32.ofInt a) from rfl, fv_set ad (σ i) fs a hfs, wd_set (σ' := up2 σ i k a) hq0 (by rw [cel_o ad cy hk]; rw [up2, upA_eq]) (fun j hj => upA_ne hj)] at hP1
  exact kk H1 locs1 ls F ⟨okm_u hm hk (by decide) (okv_h hst), hlv, okv_t (okv_t hst), hP1, hS1, hl⟩
theorem g_iald {i n : Nat} {x : List (Option Nat)} {a : Int} (hk : kd i = (1, n, x)) (hin : 0 ≤ a ∧ a < n) (hd : decode cc pc = .ok (.iaload, 1)) (kk : GW E cc nL own fr lo σ (pc + 1) lv (vI (σ i a.toNat) :: st)) : GW E cc nL own fr lo σ pc lv (vI a :: vR i :: st) := by
  obtain ⟨p, l, e, R, s, m, args, below, meth, c, Q, D, cy, ad, A, k0, n0⟩ := E
  intro H locs ls F I
  have I0 := I
  obtain ⟨hm, hlv, hst, hP, hS, hl⟩ := I
  obtain ⟨hx, hb, hml, hown, hts, hK, hN, hap, hAi, hA, hfr, hlo⟩ := id F
  obtain ⟨q, -, hq⟩ := wd_at (ad := ad) (cy := cy) (σ := σ) (id_of hk (by decide))
  rw [cel_i ad cy hk (by decide) (by decide)] at hq
  refine va_iald hx hb hK hP q 0 hq rfl (oi_vin (okv_h hst) hin) hd ?_
  rw [oi_cl (okv_h hst)]
  exact kk H locs ls F ⟨hm, hlv, okv_c (okm_i hm hk (by decide) _) (okv_t (okv_t hst)), hP, hS, hl⟩
theorem g_bald {i n : Nat} {x : List (Option Nat)} {a : Int} (hk : kd i = (2, n, x)) (hin : 0 ≤ a ∧ a < n) (hd : decode cc pc = .ok (.baload, 1)) (kk : GW E cc nL own fr lo σ (pc + 1) lv (vI (σ i a.toNat) :: st)) : GW E cc nL own fr lo σ pc lv (vI a :: vR i :: st) := by
  obtain ⟨p, l, e, R, s, m, args, below, meth, c, Q, D, cy, ad, A, k0, n0⟩ := E
  intro H locs ls F I
  have I0 := I
  obtain ⟨hm, hlv, hst, hP, hS, hl⟩ := I
  obtain ⟨hx, hb, hml, hown, hts, hK, hN, hap, hAi, hA, hfr, hlo⟩ := id F
  obtain ⟨q, -, hq⟩ := wd_at (ad := ad) (cy := cy) (σ := σ) (id_of hk (by decide))
  rw [cel_i ad cy hk (by decide) (by decide)] at hq
  refine va_bald hx hb hK hP q 1 hq rfl (oi_vin (okv_h hst) hin) hd ?_
  rw [oi_cl (okv_h hst)]
  exact kk H locs ls F ⟨hm, hlv, okv_c (okm_i hm hk (by decide) _) (okv_t (okv_t hst)), hP, hS, hl⟩
theorem g_zald {i n : Nat} {x : List (Option Nat)} {a : Int} (hk : kd i = (3, n, x)) (hin : 0 ≤ a ∧ a < n) (hd : decode cc pc = .ok (.baload, 1)) (kk : GW E cc nL own fr lo σ (pc + 1) lv (vI (σ i a.toNat) :: st)) : GW E cc nL own fr lo σ pc lv (vI a :: vR i :: st) := by
  obtain ⟨p, l, e, R, s, m, args, below, meth, c, Q, D, cy, ad, A, k0, n0⟩ := E
  intro H locs ls F I
  have I0 := I
  obtain ⟨hm, hlv, hst, hP, hS, hl⟩ := I
  obtain ⟨hx, hb, hml, hown, hts, hK, hN, hap, hAi, hA, hfr, hlo⟩ := id F
  obtain ⟨q, -, hq⟩ := wd_at (ad := ad) (cy := cy) (σ := σ) (id_of hk (by decide))
  rw [cel_i ad cy hk (by decide) (by decide)] at hq
  refine va_zald hx hb hK hP q 2 hq rfl (oi_vin (okv_h hst) hin) hd ?_
  rw [oi_cl (okv_h hst)]
  exact kk H locs ls F ⟨hm, hlv, okv_c (okm_i hm hk (by decide) _) (okv_t (okv_t hst)), hP, hS, hl⟩
theorem g_lald {i n : Nat} {x : List (Option Nat)} {a : Int} (hk : kd i = (4, n, x)) (hin : 0 ≤ a ∧ a < n) (hd : decode cc pc = .ok (.laload, 1)) (kk : GW E cc nL own fr lo σ (pc + 1) lv (vL (σ i a.toNat) :: st)) : GW E cc nL own fr lo σ pc lv (vI a :: vR i :: st) := by
  obtain ⟨p, l, e, R, s, m, args, below, meth, c, Q, D, cy, ad, A, k0, n0⟩ := E
  intro H locs ls F I
  have I0 := I
  obtain ⟨hm, hlv, hst, hP, hS, hl⟩ := I
  obtain ⟨hx, hb, hml, hown, hts, hK, hN, hap, hAi, hA, hfr, hlo⟩ := id F
  obtain ⟨q, -, hq⟩ := wd_at (ad := ad) (cy := cy) (σ := σ) (id_of hk (by decide))
  rw [cel_l ad cy hk] at hq
  refine va_lald hx hb hK hP q 3 hq rfl (oi_vin (okv_h hst) hin) hd ?_
  rw [oi_cl (okv_h hst)]
  exact kk H locs ls F ⟨hm, hlv, okv_c (okm_l hm hk _) (okv_t (okv_t hst)), hP, hS, hl⟩
theorem g_iast {i n : Nat} {x : List (Option Nat)} {a v : Int} (hk : kd i = (1, n, x)) (hin : 0 ≤ a ∧ a < n) (hd : decode cc pc = .ok (.iastore, 1)) (kk : GW E cc nL own fr lo (up2 σ i a.toNat (v)) (pc + 1) lv st) : GW E cc nL own fr lo σ pc lv (vI v :: vI a :: vR i :: st) := by
  obtain ⟨p, l, e, R, s, m, args, below, meth, c, Q, D, cy, ad, A, k0, n0⟩ := E
  intro H locs ls F I
  have I0 := I
  obtain ⟨hm, hlv, hst, hP, hS, hl⟩ := I
  obtain ⟨hx, hb, hml, hown, hts, hK, hN, hap, hAi, hA, hfr, hlo⟩ := id F
  obtain ⟨q, hq0, hq⟩ := wd_at (ad := ad) (cy := cy) (σ := σ) (id_of hk (by decide))
  rw [cel_i ad cy hk (by decide) (by decide)] at hq
  refine va_iast hx hb hK hP (wd_D hap hAi) hS q 0 hq rfl (oi_vin (okv_h (okv_t hst)) hin) hd (fun H1 locs1 hP1 _ hS1 => ?_)
  rw [oi_cl (okv_h (okv_t hst)), upd_of, wd_set (σ' := up2 σ i a.toNat (v)) hq0 (by rw [cel_i ad cy hk (by decide) (by decide)]; rw [up2, upA_eq]) (fun j hj => upA_ne hj)] at hP1
  exact kk H1 locs1 ls F ⟨okm_u hm hk (by decide) (okv_h hst), hlv, okv_t (okv_t (okv_t hst)), hP1, hS1, hl⟩
theorem g_bast {i n : Nat} {x : List (Option Nat)} {a v : Int} (hk : kd i = (2, n, x)) (hin : 0 ≤ a ∧ a < n) (hd : decode cc pc = .ok (.bastore, 1)) (kk : GW E cc nL own fr lo (up2 σ i a.toNat (i8 v)) (pc + 1) lv st) : GW E cc nL own fr lo σ pc lv (vI v :: vI a :: vR i :: st) := by
  obtain ⟨p, l, e, R, s, m, args, below, meth, c, Q, D, cy, ad, A, k0, n0⟩ := E
  intro H locs ls F I
  have I0 := I
  obtain ⟨hm, hlv, hst, hP, hS, hl⟩ := I
  obtain ⟨hx, hb, hml, hown, hts, hK, hN, hap, hAi, hA, hfr, hlo⟩ := id F
  obtain ⟨q, hq0, hq⟩ := wd_at (ad := ad) (cy := cy) (σ := σ) (id_of hk (by decide))
  rw [cel_i ad cy hk (by decide) (by decide)] at hq
  refine va_bast hx hb hK hP (wd_D hap hAi) hS q 1 hq rfl (oi_vin (okv_h (okv_t hst)) hin) hd (fun H1 locs1 hP1 _ hS1 => ?_)
  rw [vp_nar_byte, show (Int32.ofInt v).toInt8.toInt32 = Int32.ofInt (i8 v) from (Int32.ofInt_toInt _).symm] at hP1
  rw [oi_cl (okv_h (okv_t hst)), upd_of, wd_set (σ' := up2 σ i a.toNat (i8 v)) hq0 (by rw [cel_i ad cy hk (by decide) (by decide)]; rw [up2, upA_eq]) (fun j hj => upA_ne hj)] at hP1
  exact kk H1 locs1 ls F ⟨okm_u hm hk (by decide) (inI_t _), hlv, okv_t (okv_t (okv_t hst)), hP1, hS1, hl⟩
theorem g_zast {i n : Nat} {x : List (Option Nat)} {a v : Int} (hk : kd i = (3, n, x)) (hin : 0 ≤ a ∧ a < n) (hd : decode cc pc = .ok (.bastore, 1)) (kk : GW E cc nL own fr lo (up2 σ i a.toNat (z1 v)) (pc + 1) lv st) : GW E cc nL own fr lo σ pc lv (vI v :: vI a :: vR i :: st) := by
  obtain ⟨p, l, e, R, s, m, args, below, meth, c, Q, D, cy, ad, A, k0, n0⟩ := E
  intro H locs ls F I
  have I0 := I
  obtain ⟨hm, hlv, hst, hP, hS, hl⟩ := I
  obtain ⟨hx, hb, hml, hown, hts, hK, hN, hap, hAi, hA, hfr, hlo⟩ := id F
  obtain ⟨q, hq0, hq⟩ := wd_at (ad := ad) (cy := cy) (σ := σ) (id_of hk (by decide))
  rw [cel_i ad cy hk (by decide) (by decide)] at hq
  refine va_zast hx hb hK hP (wd_D hap hAi) hS q 2 hq rfl (oi_vin (okv_h (okv_t hst)) hin) hd (fun H1 locs1 hP1 _ hS1 => ?_)
  rw [show vp_nar .boolean (Int32.ofInt v) = Int32.ofInt (z1 v) from (Int32.ofInt_toInt _).symm] at hP1
  rw [oi_cl (okv_h (okv_t hst)), upd_of, wd_set (σ' := up2 σ i a.toNat (z1 v)) hq0 (by rw [cel_i ad cy hk (by decide) (by decide)]; rw [up2, upA_eq]) (fun j hj => upA_ne hj)] at hP1
  exact kk H1 locs1 ls F ⟨okm_u hm hk (by decide) (inI_t _), hlv, okv_t (okv_t (okv_t hst)), hP1, hS1, hl⟩
theorem g_last {i n : Nat} {x : List (Option Nat)} {a v : Int} (hk : kd i = (4, n, x)) (hin : 0 ≤ a ∧ a < n) (hd : decode cc pc = .ok (.lastore, 1)) (kk : GW E cc nL own fr lo (up2 σ i a.toNat v) (pc + 1) lv st) : GW E cc nL own fr lo σ pc lv (vL v :: vI a :: vR i :: st) := by
  obtain ⟨p, l, e, R, s, m, args, below, meth, c, Q, D, cy, ad, A, k0, n0⟩ := E
  intro H locs ls F I
  have I0 := I
  obtain ⟨hm, hlv, hst, hP, hS, hl⟩ := I
  obtain ⟨hx, hb, hml, hown, hts, hK, hN, hap, hAi, hA, hfr, hlo⟩ := id F
  obtain ⟨q, hq0, hq⟩ := wd_at (ad := ad) (cy := cy) (σ := σ) (id_of hk (by decide))
  rw [cel_l ad cy hk] at hq
  refine va_last hx hb hK hP (wd_D hap hAi) hS q 3 hq rfl (oi_vin (okv_h (okv_t hst)) hin) hd (fun H1 locs1 hP1 _ hS1 => ?_)
  rw [oi_cl (okv_h (okv_t hst)), updL_of, wd_set (σ' := up2 σ i a.toNat v) hq0 (by rw [cel_l ad cy hk]; rw [up2, upA_eq]) (fun j hj => upA_ne hj)] at hP1
  exact kk H1 locs1 ls F ⟨okm_ul hm hk (okv_h hst), hlv, okv_t (okv_t (okv_t hst)), hP1, hS1, hl⟩
theorem g_aald {i t n r : Nat} {x : List (Option Nat)} {a : Int} (hk : kd i = (t, n, x)) (h5 : t = 5 ∨ t = 6) (hin : 0 ≤ a ∧ a < n) (hr : x[a.toNat]? = some (some r)) (hd : decode cc pc = .ok (.aaload, 1)) (kk : GW E cc nL own fr lo σ (pc + 1) lv (vR r :: st)) : GW E cc nL own fr lo σ pc lv (vI a :: vR i :: st) := by
  obtain ⟨p, l, e, R, s, m, args, below, meth, c, Q, D, cy, ad, A, k0, n0⟩ := E
  intro H locs ls F I
  have I0 := I
  obtain ⟨hm, hlv, hst, hP, hS, hl⟩ := I
  obtain ⟨hx, hb, hml, hown, hts, hK, hN, hap, hAi, hA, hfr, hlo⟩ := id F
  obtain ⟨q, -, hq⟩ := wd_at (ad := ad) (cy := cy) (σ := σ) (id_of hk (by omega))
  rw [cel_r ad cy hk (by omega) (by omega)] at hq
  have e : (x.getD a.toNat none).map ad = some (ad r) := by rw [List.getD_eq_getElem?_getD, hr]; rfl
  have h := kk H locs ls F ⟨hm, hlv, okv_c trivial (okv_t (okv_t hst)), hP, hS, hl⟩
  rcases h5 with rfl | rfl
  · refine va_aldq hx hb hK hP q 4 hq rfl (oi_vin (okv_h hst) hin) hd ?_
    rw [oi_cl (okv_h hst), e]
    exact h
  · refine va_aldq hx hb hK hP q 5 hq rfl (oi_vin (okv_h hst) hin) hd ?_
    rw [oi_cl (okv_h hst), e]
    exact h
theorem g_aald7 {i n r : Nat} {x : List (Option Nat)} {a : Int} (hk : kd i = (7, n, x)) (hin : 0 ≤ a ∧ a < n) (hr : x[a.toNat]? = some (some r)) (hd : decode cc pc = .ok (.aaload, 1)) (kk : GW E cc nL own fr lo σ (pc + 1) lv (vR r :: st)) : GW E cc nL own fr lo σ pc lv (vI a :: vR i :: st) := by
  obtain ⟨p, l, e, R, s, m, args, below, meth, c, Q, D, cy, ad, A, k0, n0⟩ := E
  intro H locs ls F I
  have I0 := I
  obtain ⟨hm, hlv, hst, hP, hS, hl⟩ := I
  obtain ⟨hx, hb, hml, hown, hts, hK, hN, hap, hAi, hA, hfr, hlo⟩ := id F
  obtain ⟨q, -, hq⟩ := wd_at (ad := ad) (cy := cy) (σ := σ) (id_of hk (by decide))
  rw [cel_r ad cy hk (by decide) (by decide)] at hq
  have e : (x.getD a.toNat none).map ad = some (ad r) := by rw [List.getD_eq_getElem?_getD, hr]; rfl
  have h := kk H locs ls F ⟨hm, hlv, okv_c trivial (okv_t (okv_t hst)), hP, hS, hl⟩
  have hin2 := oi_vin (okv_h hst) hin
  have hlt : (Int32.ofInt a).toNatClampNeg < n := Nat.not_le.mp fun q => hin2 (Or.inr q)
  have ht : (tysL cy)[6]? = some (cy 6, .array .int) := rfl
  refine W.aald (v := va_rf ((x.getD (Int32.ofInt a).toNatClampNeg none).map ad)) (ty := .array .int) hx hb (hP q _ hq) ((hK.2 6 _ ht).1 n (fun j => va_rf ((x.getD j none).map ad))) rfl (fun q => by cases q) (by show ¬ (_ < 0 ∨ (arrV _ _ _).slots.size ≤ _); rw [arrV_size]; exact hin2) (by show (arrV _ _ _).slots[_]? = _; rw [arrV_read _ _ hlt]) rfl rfl hd ?_
  rw [oi_cl (okv_h hst), e]
  exact h
theorem g_aald8 {i n : Nat} {x : List (Option Nat)} {a : Int} (hk : kd i = (8, n, x)) (hin : 0 ≤ a ∧ a < n) (hd : decode cc pc = .ok (.aaload, 1)) (kk : GW E cc nL own fr lo σ (pc + 1) lv (vR (σ i a.toNat).toNat :: st)) : GW E cc nL own fr lo σ pc lv (vI a :: vR i :: st) := by
  obtain ⟨p, l, e, R, s, m, args, below, meth, c, Q, D, cy, ad, A, k0, n0⟩ := E
  intro H locs ls F I
  have I0 := I
  obtain ⟨hm, hlv, hst, hP, hS, hl⟩ := I
  obtain ⟨hx, hb, hml, hown, hts, hK, hN, hap, hAi, hA, hfr, hlo⟩ := id F
  obtain ⟨q, -, hq⟩ := wd_at (ad := ad) (cy := cy) (σ := σ) (id_of hk (by decide))
  rw [cel_8 ad cy hk] at hq
  refine va_aldq hx hb hK hP q 4 hq rfl (oi_vin (okv_h hst) hin) hd ?_
  rw [oi_cl (okv_h hst)]
  exact kk H locs ls F ⟨hm, hlv, okv_c trivial (okv_t (okv_t hst)), hP, hS, hl⟩
theorem g_aast8 {i n r : Nat} {x fs : List (Option Nat)} {a : Int} (hk : kd i = (8, n, x)) (hin : 0 ≤ a ∧ a < n) (hr : kd r = (0, 1, fs)) (hr2 : inI (r : Int)) (hd : decode cc pc = .ok (.aastore, 1)) (kk : GW E cc nL own fr lo (up2 σ i a.toNat (r : Int)) (pc + 1) lv st) : GW E cc nL own fr lo σ pc lv (vR r :: vI a :: vR i :: st) := by
  obtain ⟨p, l, e, R, s, m, args, below, meth, c, Q, D, cy, ad, A, k0, n0⟩ := E
  intro H locs ls F I
  have I0 := I
  obtain ⟨hm, hlv, hst, hP, hS, hl⟩ := I
  obtain ⟨hx, hb, hml, hown, hts, hK, hN, hap, hAi, hA, hfr, hlo⟩ := id F
  obtain ⟨q, hq0, hq⟩ := wd_at (ad := ad) (cy := cy) (σ := σ) (id_of hk (by decide))
  rw [cel_8 ad cy hk] at hq
  obtain ⟨q2, -, hq2⟩ := wd_at (ad := ad) (cy := cy) (σ := σ) (id_of hr (by decide))
  rw [cel_o ad cy hr] at hq2
  refine va_astq hx hb hK hP (wd_D hap hAi) hS q 4 q2 1 (r := (RX1, TX1, 5)) hq rfl hq2 rfl (oi_vin (okv_h (okv_t hst)) hin) hd (fun H1 locs1 hP1 _ hS1 => ?_)
  have e : va_up (fun j => some (ad (σ i j).toNat)) a.toNat (some (ad r)) = fun j => some (ad (up1 (σ i) a.toNat (r : Int) j).toNat) := by
    funext j
    unfold va_up up1
    split <;> simp
  rw [oi_cl (okv_h (okv_t hst)), e, wd_set (σ' := up2 σ i a.toNat (r : Int)) hq0 (by rw [cel_8 ad cy hk]; rw [up2, upA_eq]) (fun j hj => upA_ne hj)] at hP1
  exact kk H1 locs1 ls F ⟨okm_u hm hk (by decide) hr2, hlv, okv_t (okv_t (okv_t hst)), hP1, hS1, hl⟩
theorem mk_cat (ad : Nat → Nat) (st : List AV) : ((st.map (mkv ad)).map fun v => v.category).sum = (st.map fun v => if cat2 v then 2 else 1).sum := by
  rw [List.map_map]
  congr 1
  apply List.map_congr_left
  intro v _
  exact mkv_cat ad v
theorem g_mmax {index : Nat} {a b : Int} (h1 : Cond.methodLink own index Lib.Math.max.name ∈ gtw) (h2 : Cond.static Lib.Math.max.name ∈ gtw) (h3 : Cond.initialized "java/lang/Math" ∈ gtw) (h4 : Cond.code Lib.Math.max.name Lib.Math.max.code 2 (some .int) ∈ gtw) (hf1 : 1 ≤ fr) (hf2 : (st.map fun v => if cat2 v then 2 else 1).sum + 13 ≤ lo) (hd : decode cc pc = .ok (.invokestatic index, 3)) (k : GW E cc nL own fr lo σ (pc + 3) lv (vI (max a b) :: st)) : GW E cc nL own fr lo σ pc lv (vI b :: vI a :: st) := by
  obtain ⟨p, l, e, R, s, m, args, below, meth, c, Q, D, cy, ad, A, k0, n0⟩ := E
  intro H locs ls F I
  have I0 := I
  obtain ⟨hm, hlv, hst, hP, hS, hl⟩ := I
  obtain ⟨hx, hb, hml, hown, hts, hK, hN, hap, hAi, hA, hfr, hlo⟩ := id F
  have hb0 : inI b := okv_h hst
  have ha0 : inI a := okv_h (okv_t hst)
  refine va_mmax hx hb (hml.trans hl.1.symm) hown (hts _ h1) (hts _ h2) (hts _ h3) (hts _ h4) (by rw [hfr]; exact hf1) (by rw [mk_cat, hlo]; exact hf2) hN.2.2.1 hN.2.2.2 hd ?_
  have e : (if Int32.ofInt a < Int32.ofInt b then Int32.ofInt b else Int32.ofInt a) = Int32.ofInt (max a b) := by
    by_cases q : a < b
    · rw [if_pos ((oi_lt ha0 hb0).mpr q), Int.max_def, if_pos (Int.le_of_lt q)]
    · rw [if_neg (fun z => q ((oi_lt ha0 hb0).mp z)), Int.max_def]
      split
      · have : a = b := by omega
        rw [this]
      · rfl
  rw [e]
  refine k H locs ls F ⟨hm, hlv, okv_c ?_ (okv_t (okv_t hst)), hP, hS, hl⟩
  show inI (max a b)
  rw [Int.max_def]
  split
  · exact hb0
  · exact ha0
theorem g_mmin {index : Nat} {a b : Int} (h1 : Cond.methodLink own index Lib.Math.min.name ∈ gtw) (h2 : Cond.static Lib.Math.min.name ∈ gtw) (h3 : Cond.initialized "java/lang/Math" ∈ gtw) (h4 : Cond.code Lib.Math.min.name Lib.Math.min.code 2 (some .int) ∈ gtw) (hf1 : 1 ≤ fr) (hf2 : (st.map fun v => if cat2 v then 2 else 1).sum + 13 ≤ lo) (hd : decode cc pc = .ok (.invokestatic index, 3)) (k : GW E cc nL own fr lo σ (pc + 3) lv (vI (min a b) :: st)) : GW E cc nL own fr lo σ pc lv (vI b :: vI a :: st) := by
  obtain ⟨p, l, e, R, s, m, args, below, meth, c, Q, D, cy, ad, A, k0, n0⟩ := E
  intro H locs ls F I
  have I0 := I
  obtain ⟨hm, hlv, hst, hP, hS, hl⟩ := I
  obtain ⟨hx, hb, hml, hown, hts, hK, hN, hap, hAi, hA, hfr, hlo⟩ := id F
  have hb0 : inI b := okv_h hst
  have ha0 : inI a := okv_h (okv_t hst)
  refine va_mmin hx hb (hml.trans hl.1.symm) hown (hts _ h1) (hts _ h2) (hts _ h3) (hts _ h4) (by rw [hfr]; exact hf1) (by rw [mk_cat, hlo]; exact hf2) hN.2.2.1 hN.2.2.2 hd ?_
  have h := k H locs ls F ⟨hm, hlv, okv_c (show inI (min a b) by rw [Int.min_def]; split; exact ha0; exact hb0) (okv_t (okv_t hst)), hP, hS, hl⟩
  rw [List.map_cons, show mkv ad (vI (min a b)) = .int (Int32.ofInt (min a b)) from rfl, show Int32.ofInt (min a b) = if Int32.ofInt b < Int32.ofInt a then Int32.ofInt b else Int32.ofInt a by
    by_cases q : b < a
    · rw [if_pos ((oi_lt hb0 ha0).mpr q), Int.min_def, if_neg (by omega)]
    · rw [if_neg (fun z => q ((oi_lt hb0 ha0).mp z)), Int.min_def, if_pos (by omega)]] at h
  exact h
theorem g_acopy {index i0 i1 n0 n1 : Nat} {x0 x1 : List (Option Nat)} {sp dp n : Int} (h1 : Cond.methodLink own index arraycopyName ∈ gtw) (h2 : Cond.native arraycopyName ∈ gtw) (h3 : Cond.static arraycopyName ∈ gtw) (h4 : Cond.initialized "java/lang/System" ∈ gtw) (hk0 : kd i0 = (1, n0, x0)) (hk1 : kd i1 = (1, n1, x1)) (hr : 0 ≤ sp ∧ 0 ≤ dp ∧ 0 ≤ n ∧ sp + n ≤ n0 ∧ dp + n ≤ n1) (hf1 : 1 ≤ fr) (hf2 : (st.map fun v => if cat2 v then 2 else 1).sum + (nativeFrameWords "java/lang/System" "arraycopy" 5 + 11) ≤ lo) (hd : decode cc pc = .ok (.invokestatic index, 3)) (k : GW E cc nL own fr lo (upA σ i1 (acp (σ i0) (σ i1) sp.toNat dp.toNat n.toNat)) (pc + 3) lv st) : GW E cc nL own fr lo σ pc lv (vI n :: vI dp :: vR i1 :: vI sp :: vR i0 :: st) := by
  obtain ⟨p, l, e, R, s, m, args, below, meth, c, Q, D, cy, ad, A, k0, n0⟩ := E
  intro H locs ls F I
  have I0 := I
  obtain ⟨hm, hlv, hst, hP, hS, hl⟩ := I
  obtain ⟨hx, hb, hml, hown, hts, hK, hN, hap, hAi, hA, hfr, hlo⟩ := id F
  have hn0 : inI n := okv_h hst
  have hd0 : inI dp := okv_h (okv_t hst)
  have hs0 : inI sp := okv_h (okv_t (okv_t (okv_t hst)))
  obtain ⟨r1, r2, r3, r4, r5⟩ := hr
  obtain ⟨q0, -, hq0⟩ := wd_at (ad := ad) (cy := cy) (σ := σ) (id_of hk0 (by decide))
  rw [cel_i ad cy hk0 (by decide) (by decide)] at hq0
  obtain ⟨q1, hq1i, hq1⟩ := wd_at (ad := ad) (cy := cy) (σ := σ) (id_of hk1 (by decide))
  rw [cel_i ad cy hk1 (by decide) (by decide)] at hq1
  refine va_copyi hx hb (hml.trans hl.1.symm) hown (hts _ h1) (hts _ h2) (hts _ h3) (hts _ h4) hK hP (wd_D hap hAi) hS q0 q1 0 0 (ty := .int) hq0 hq1 rfl rfl rfl (by rw [show (0 : Int32) = Int32.ofInt 0 from rfl, oi_lt hs0 inI_0]; omega) (by rw [show (0 : Int32) = Int32.ofInt 0 from rfl, oi_lt hd0 inI_0]; omega) (by rw [show (0 : Int32) = Int32.ofInt 0 from rfl, oi_lt hn0 inI_0]; omega) (by rw [oi_cl hs0, oi_cl hn0]; omega) (by rw [oi_cl hd0, oi_cl hn0]; omega) (fun _ _ => rfl) (by rw [hfr]; exact hf1) (by rw [mk_cat, hlo]; exact hf2) hd (fun H1 locs1 hP1 _ hS1 => ?_)
  have e : va_cpy (fun j => Int32.ofInt (σ i0 j)) (fun j => Int32.ofInt (σ i1 j)) sp.toNat dp.toNat n.toNat = fun j => Int32.ofInt (acp (σ i0) (σ i1) sp.toNat dp.toNat n.toNat j) := by
    funext j
    unfold va_cpy acp
    split <;> rfl
  rw [oi_cl hs0, oi_cl hd0, oi_cl hn0, e, wd_set (σ' := upA σ i1 (acp (σ i0) (σ i1) sp.toNat dp.toNat n.toNat)) hq1i (by rw [cel_i ad cy hk1 (by decide) (by decide)]; rw [upA_eq]) (fun j hj => upA_ne hj)] at hP1
  refine k H1 locs1 ls F ⟨okm_A hm (fun j => ?_), hlv, okv_t (okv_t (okv_t (okv_t (okv_t hst)))), hP1, hS1, hl⟩
  rw [hk1]
  simp only [show ¬ (1 : Nat) = 4 by decide, if_false]
  unfold acp
  split
  · exact okm_i hm hk0 (by decide) _
  · exact okm_i hm hk1 (by decide) _
end GROWS2
