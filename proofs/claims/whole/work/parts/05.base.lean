/-! numbers: ints as Int, wrapped -/
def w32 (x : Int) : Int := (Int32.ofInt x).toInt
abbrev inI (a : Int) : Prop := -2147483648 ≤ a ∧ a < 2147483648
abbrev inL (a : Int) : Prop := -9223372036854775808 ≤ a ∧ a < 9223372036854775808
theorem tc_bm {z : Int} (h1 : -2147483648 ≤ z) (h2 : z < 2147483648) : z.bmod (2 ^ 32) = z := by
  rw [Int.bmod_def]
  have e : ((2 ^ 32 : Nat) : Int) = 4294967296 := by decide
  rw [e]
  split <;> omega
theorem tc_bmL {z : Int} (h1 : -9223372036854775808 ≤ z) (h2 : z < 9223372036854775808) : z.bmod (2 ^ 64) = z := by
  rw [Int.bmod_def]
  have e : ((2 ^ 64 : Nat) : Int) = 18446744073709551616 := by decide
  rw [e]
  split <;> omega
theorem oi_t {a : Int} (h : inI a) : (Int32.ofInt a).toInt = a := by
  rw [Int32.toInt_ofInt]
  exact tc_bm h.1 h.2
theorem ol_t {a : Int} (h : inL a) : (Int64.ofInt a).toInt = a := by
  rw [Int64.toInt_ofInt]
  exact tc_bmL h.1 h.2
theorem w32_id {a : Int} (h1 : -2147483648 ≤ a) (h2 : a < 2147483648) : w32 a = a := oi_t ⟨h1, h2⟩
theorem inI_t (x : Int32) : inI x.toInt := by
  have h1 := Int32.le_toInt x
  have h2 := Int32.toInt_lt x
  constructor
  · exact h1
  · exact h2
theorem inL_t (x : Int64) : inL x.toInt := by
  have h1 := Int64.le_toInt x
  have h2 := Int64.toInt_lt x
  constructor
  · exact h1
  · exact h2
theorem inI_w (x : Int) : inI (w32 x) := inI_t _
theorem oi_w (x : Int) : Int32.ofInt (w32 x) = Int32.ofInt x := Int32.ofInt_toInt _
def band (a b : Int) : Int := (Int32.ofInt a &&& Int32.ofInt b).toInt
def bor (a b : Int) : Int := (Int32.ofInt a ||| Int32.ofInt b).toInt
def bxor (a b : Int) : Int := (Int32.ofInt a ^^^ Int32.ofInt b).toInt
def bshl (a b : Int) : Int := (Int32.ofInt a <<< (Int32.ofInt b &&& 31)).toInt
def bshr (a b : Int) : Int := (Int32.ofInt a >>> (Int32.ofInt b &&& 31)).toInt
def bushr (a b : Int) : Int := ((Int32.ofInt a).toUInt32 >>> ((Int32.ofInt b).toUInt32 &&& Int32.toUInt32 31)).toInt32.toInt
def bdiv (a b : Int) : Int := (Int32.ofInt a / Int32.ofInt b).toInt
def brem (a b : Int) : Int := (Int32.ofInt a - Int32.ofInt a / Int32.ofInt b * Int32.ofInt b).toInt
def i8 (a : Int) : Int := (Int32.ofInt a).toInt8.toInt32.toInt
def i16 (a : Int) : Int := (Int32.ofInt a).toInt16.toInt32.toInt
def u16 (a : Int) : Int := ((Int32.ofInt a).toUInt32 % 65536).toInt32.toInt
def z1 (a : Int) : Int := (vp_nar .boolean (Int32.ofInt a)).toInt
def lband (a b : Int) : Int := (Int64.ofInt a &&& Int64.ofInt b).toInt
def lbor (a b : Int) : Int := (Int64.ofInt a ||| Int64.ofInt b).toInt
def lshl (a b : Int) : Int := (Int64.ofInt a <<< ((Int32.ofInt b).toInt64 &&& 63)).toInt
def lushr (a b : Int) : Int := ((Int64.ofInt a).toUInt64 >>> ((Int32.ofInt b).toInt64.toUInt64 &&& Int64.toUInt64 63)).toInt64.toInt
/-! values -/
abbrev AV : Type := Int ⊕ (Int ⊕ (Nat ⊕ Nat))
abbrev vI (a : Int) : AV := Sum.inl a
abbrev vL (a : Int) : AV := Sum.inr (Sum.inl a)
abbrev vR (i : Nat) : AV := Sum.inr (Sum.inr (Sum.inl i))
abbrev vX (i : Nat) : AV := Sum.inr (Sum.inr (Sum.inr i))
def okv (v : AV) : Prop := match v with
  | .inl a => inI a
  | .inr (.inl a) => inL a
  | .inr (.inr _) => True
def mkv (ad : Nat → Nat) (v : AV) : Value := match v with
  | .inl a => .int (Int32.ofInt a)
  | .inr (.inl a) => .long (Int64.ofInt a)
  | .inr (.inr (.inl i)) => .ref (ad i)
  | .inr (.inr (.inr a)) => .ref a
def cat2 (v : AV) : Bool := match v with
  | .inr (.inl _) => true
  | _ => false
theorem mkv_cat (ad : Nat → Nat) (v : AV) : (mkv ad v).category = if cat2 v then 2 else 1 := by
  rcases v with a | a | a | a <;> rfl
def mkl (ad : Nat → Nat) (lv : List (Nat × AV)) : List (Nat × Value) := lv.map (fun q => (q.1, mkv ad q.2))
def lst1 (lv : List (Nat × AV)) (i : Nat) (v : AV) : List (Nat × AV) := (i, v) :: lv.filter (fun q => !(q.1 == i) && !(q.1 + 1 == i && cat2 q.2))
def lst2 (lv : List (Nat × AV)) (i : Nat) (v : AV) : List (Nat × AV) := (i, v) :: lv.filter (fun q => !(q.1 == i) && (!(q.1 == i + 1) && !(q.1 + 1 == i && cat2 q.2)))
theorem mkv_c2 (ad : Nat → Nat) (v : AV) : ((mkv ad v).category == 2) = cat2 v := by
  rcases v with a | a | a | a <;> rfl
theorem mkl_1 (ad : Nat → Nat) (lv : List (Nat × AV)) (i : Nat) (v : AV) : (i, mkv ad v) :: (mkl ad lv).filter (fun q => !(q.1 == i) && !(q.1 + 1 == i && q.2.category == 2)) = mkl ad (lst1 lv i v) := by
  unfold mkl lst1
  rw [List.map_cons, List.filter_map]
  refine congrArg (List.cons _) (congrArg _ (List.filter_congr (fun q _ => ?_)))
  simp only [Function.comp, mkv_c2]
theorem mkl_2 (ad : Nat → Nat) (lv : List (Nat × AV)) (i : Nat) (v : AV) : (i, mkv ad v) :: (mkl ad lv).filter (fun q => !(q.1 == i) && (!(q.1 == i + 1) && !(q.1 + 1 == i && q.2.category == 2))) = mkl ad (lst2 lv i v) := by
  unfold mkl lst2
  rw [List.map_cons, List.filter_map]
  refine congrArg (List.cons _) (congrArg _ (List.filter_congr (fun q _ => ?_)))
  simp only [Function.comp, mkv_c2]
/-! memory: cells by number; a cell's kind: 0 an object (its kind of object, its fields: none an int, some a cell), 1 int[], 2 byte[], 3 boolean[], 4 long[], 5 Books[], 6 Holding[], 7 int[][], 8 Books[] that changes -/
abbrev Mem : Type := Nat → Nat → Int
def upA (σ : Mem) (i : Nat) (f : Nat → Int) : Mem := fun a => if a = i then f else σ a
def up1 (f : Nat → Int) (j : Nat) (v : Int) : Nat → Int := fun b => if b = j then v else f b
def up2 (σ : Mem) (i j : Nat) (v : Int) : Mem := upA σ i (up1 (σ i) j v)
def acp (f g : Nat → Int) (sp dp n : Nat) : Nat → Int := fun j => if dp ≤ j ∧ j < dp + n then f (sp + (j - dp)) else g j
abbrev KD : Type := Nat × Nat × List (Option Nat)
def bkK (b : Nat) : List (Nat × KD) := [(b, 0, 1, [none, some (b + 1), some (b + 2), some (b + 3), some (b + 4)]), (b + 1, 1, 64, []), (b + 2, 1, 64, []), (b + 3, 1, 8, []), (b + 4, 6, 4, [some (b + 5), some (b + 6), some (b + 7), some (b + 8)]),
  (b + 5, 0, 3, [none, none, none, some (b + 9)]), (b + 6, 0, 3, [none, none, none, some (b + 10)]), (b + 7, 0, 3, [none, none, none, some (b + 11)]), (b + 8, 0, 3, [none, none, none, some (b + 12)]), (b + 9, 1, 64, []), (b + 10, 1, 64, []), (b + 11, 1, 64, []), (b + 12, 1, 64, [])]
def bks : List Nat := [40, 56, 72, 88, 104, 120, 136, 152, 168, 184, 200, 216, 232]
def tcK : List (Nat × KD) := [(0, 0, 10, [some 40, some 56, some 72, some 1, some 2, some 3, some 5, some 7, some 12, some 14, some 23, some 32, some 36]),
  (1, 5, 2, [some 88, some 104]), (2, 3, 2, []), (3, 0, 6, [some 4, none]), (4, 8, 8, []), (5, 0, 9, [some 6, none]), (6, 1, 80, []), (7, 0, 0, [some 8, some 9, some 10, some 11, none]), (8, 1, 80, []), (9, 1, 80, []), (10, 1, 80, []), (11, 1, 80, []),
  (12, 0, 5, [some 13, none]), (13, 4, 512, []), (14, 0, 4, [none, some 15, some 16, some 17, some 18, some 19, some 20, none, some 21, some 22, none]), (15, 1, 64, []), (16, 1, 64, []), (17, 1, 64, []), (18, 1, 8, []), (19, 1, 8, []), (20, 1, 8, []), (21, 1, 256, []), (22, 1, 256, []),
  (23, 0, 8, [some 24, some 30, some 31, none]), (24, 7, 5, [some 25, some 26, some 27, some 28, some 29]), (25, 1, 64, []), (26, 1, 64, []), (27, 1, 64, []), (28, 1, 64, []), (29, 1, 64, []), (30, 1, 5, []), (31, 1, 5, []),
  (32, 0, 7, [some 33, some 34, some 35, none, none]), (33, 1, 8, []), (34, 1, 8, []), (35, 1, 8, []), (36, 0, 2, [none, none, none, none])]
def mdK : List (Nat × KD) := [(300, 0, 11, [some 301, some 302, none, some 304, none, none, none, none, none, some 310, some 311, some 312, some 313, none, none, some 316, none, none, none, some 320, some 321, some 322, some 323, none, some 325, none, some 327, some 328, none, none, some 331, some 332]),
  (301, 1, 405, []), (302, 2, 80, []), (304, 4, 2400, []), (310, 1, 320, []), (311, 1, 64, []), (312, 1, 8, []), (313, 1, 8, []), (316, 1, 1620, []), (320, 1, 8, []), (321, 1, 5, []), (322, 1, 5, []), (323, 1, 2430, []), (325, 1, 64, []), (327, 1, 3240, []), (328, 1, 405, []), (331, 1, 810, []), (332, 3, 2, []), (340, 4, 1, [])]
def allK : List (Nat × KD) := tcK ++ (bks.flatMap bkK ++ mdK)
def kd (i : Nat) : KD := (allK.lookup i).getD (9, 0, [])
def ids : List Nat := allK.map (fun q => q.1)
theorem ids_nd : va_nd ids = true := by decide +kernel
/-- the value of a field -/
def fvl (ad : Nat → Nat) (g : Nat → Int) (q : Option Nat × Nat) : Value := match q.1 with
  | none => .int (Int32.ofInt (g q.2))
  | some r => .ref (ad r)
def cel (ad : Nat → Nat) (cy : Nat → ClassId) (k : KD) (g : Nat → Int) : va_E :=
  if k.1 = 0 then .inr (k.2.1, k.2.2.zipIdx.map (fvl ad g))
  else if k.1 = 4 then .inl (cy 3, k.2.1, .inr (.inl (fun j => Int64.ofInt (g j))))
  else if k.1 < 4 then .inl (cy (k.1 - 1), k.2.1, .inl (fun j => Int32.ofInt (g j)))
  else if k.1 = 8 then .inl (cy 4, k.2.1, .inr (.inr (.inr (.inr (fun j => some (ad (g j).toNat))))))
  else .inl (cy (k.1 - 1), k.2.1, .inr (.inr (.inr (.inr (fun j => (k.2.2.getD j none).map ad)))))
def wd (ad : Nat → Nat) (cy : Nat → ClassId) (σ : Mem) : va_W := ids.map (fun i => (ad i, cel ad cy (kd i) (σ i)))
def apart (ad : Nat → Nat) : Prop := ∀ i j, i ∈ ids → j ∈ ids → ad i = ad j → i = j
def okm (σ : Mem) : Prop := ∀ i j, (if (kd i).1 = 4 then inL (σ i j) else inI (σ i j))
def tysL (cy : Nat → ClassId) : List (ClassId × FieldType) := [(cy 0, .int), (cy 1, .byte), (cy 2, .boolean), (cy 3, .long), (cy 4, .object "TrustClub$Books"), (cy 5, .object "TrustClub$Holding"), (cy 6, .array .int)]
theorem wd_at {ad : Nat → Nat} {cy : Nat → ClassId} {σ : Mem} {i : Nat} (h : i ∈ ids) : ∃ k : Nat, ids[k]? = some i ∧ (wd ad cy σ)[k]? = some (ad i, cel ad cy (kd i) (σ i)) := by
  obtain ⟨k, hk⟩ := List.mem_iff_getElem?.mp h
  exact ⟨k, hk, by unfold wd; rw [List.getElem?_map, hk]; rfl⟩
theorem ids_of {i : Nat} (h : (kd i).1 ≠ 9) : i ∈ ids := by
  unfold kd at h
  unfold ids
  cases e : allK.lookup i with
  | none => rw [e] at h; exact absurd rfl h
  | some x =>
    have hm : (i, x) ∈ allK := by
      clear h
      revert e
      generalize allK = L
      induction L with
      | nil => intro e; simp at e
      | cons q t ih =>
        intro e
        obtain ⟨a, b⟩ := q
        rw [List.lookup_cons] at e
        by_cases c : i == a
        · simp only [c] at e
          have c2 : i = a := by simpa using c
          cases e
          subst c2
          exact List.mem_cons_self
        · have c3 : (i == a) = false := by simpa using c
          simp only [c3] at e
          exact List.mem_cons_of_mem _ (ih e)
    exact List.mem_map.mpr ⟨(i, x), hm, rfl⟩
theorem wd_set {ad : Nat → Nat} {cy : Nat → ClassId} {σ σ' : Mem} {i k : Nat} {e : va_E} (hk : ids[k]? = some i) (he : e = cel ad cy (kd i) (σ' i)) (ho : ∀ j, j ≠ i → σ' j = σ j) : (wd ad cy σ).set k (ad i, e) = wd ad cy σ' := by
  unfold wd
  apply List.ext_getElem?
  intro j
  rw [List.getElem?_set, List.getElem?_map, List.getElem?_map]
  by_cases c : k = j
  · subst c
    have hl : k < ids.length := (List.getElem?_eq_some_iff.mp hk).1
    rw [List.length_map, if_pos hl, hk, he]
    simp
  · simp only [c, if_false]
    cases e2 : ids[j]? with
    | none => rfl
    | some x =>
      have hx : x ≠ i := fun h => c (va_nd_inj ids ids_nd k j i hk (by rw [e2, h]))
      simp [ho x hx]
theorem wd_D {ad : Nat → Nat} {cy : Nat → ClassId} {σ : Mem} {A : Nat → Prop} (h : apart ad) (hA : ∀ i, i ∈ ids → A (ad i)) : va_D A (wd ad cy σ) := by
  constructor
  · intro i j p q hp hq e
    unfold wd at hp hq
    rw [List.getElem?_map] at hp hq
    cases e1 : ids[i]? with
    | none => rw [e1] at hp; simp at hp
    | some x =>
      cases e2 : ids[j]? with
      | none => rw [e2] at hq; simp at hq
      | some y =>
        rw [e1] at hp
        rw [e2] at hq
        simp at hp hq
        rw [← hp, ← hq] at e
        have := h x y (List.mem_of_getElem? e1) (List.mem_of_getElem? e2) e
        subst this
        exact va_nd_inj ids ids_nd i j x e1 e2
  · intro k q hq
    unfold wd at hq
    rw [List.getElem?_map] at hq
    cases e1 : ids[k]? with
    | none => rw [e1] at hq; simp at hq
    | some x =>
      rw [e1] at hq
      simp at hq
      rw [← hq]
      exact hA x (List.mem_of_getElem? e1)
theorem upA_ne {σ : Mem} {i : Nat} {f : Nat → Int} {j : Nat} (h : j ≠ i) : upA σ i f j = σ j := if_neg h
theorem upA_eq {σ : Mem} {i : Nat} {f : Nat → Int} : upA σ i f i = f := if_pos rfl
theorem okm_A {σ : Mem} {i : Nat} {f : Nat → Int} (h : okm σ) (hf : ∀ j, (if (kd i).1 = 4 then inL (f j) else inI (f j))) : okm (upA σ i f) := by
  intro a j
  by_cases c : a = i
  · subst c
    rw [upA_eq]
    exact hf j
  · rw [upA_ne c]
    exact h a j
