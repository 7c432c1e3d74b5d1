def isBk (b : Nat) : Prop := b ∈ bks
def hos : List Nat := bks.flatMap (fun b => [b + 5, b + 6, b + 7, b + 8])
def isHo (h : Nat) : Prop := h ∈ hos
theorem kd_bkA : ∀ b ∈ bks, kd b = (0, 1, [none, some (b + 1), some (b + 2), some (b + 3), some (b + 4)]) ∧ kd (b + 1) = (1, 64, []) ∧ kd (b + 2) = (1, 64, []) ∧ kd (b + 3) = (1, 8, []) ∧ kd (b + 4) = (6, 4, [some (b + 5), some (b + 6), some (b + 7), some (b + 8)]) ∧ b < 300 := by decide +kernel
theorem kd_bk0 {b : Nat} (h : isBk b) : kd b = (0, 1, [none, some (b + 1), some (b + 2), some (b + 3), some (b + 4)]) := (kd_bkA b h).1
theorem kd_bk1 {b : Nat} (h : isBk b) : kd (b + 1) = (1, 64, []) := (kd_bkA b h).2.1
theorem kd_bk2 {b : Nat} (h : isBk b) : kd (b + 2) = (1, 64, []) := (kd_bkA b h).2.2.1
theorem kd_bk3 {b : Nat} (h : isBk b) : kd (b + 3) = (1, 8, []) := (kd_bkA b h).2.2.2.1
theorem kd_bk4 {b : Nat} (h : isBk b) : kd (b + 4) = (6, 4, [some (b + 5), some (b + 6), some (b + 7), some (b + 8)]) := (kd_bkA b h).2.2.2.2.1
theorem bk_in {b : Nat} (h : isBk b) : inI (b : Int) := by
  have := (kd_bkA b h).2.2.2.2.2
  constructor <;> omega
theorem kd_hoA : ∀ h ∈ hos, kd h = (0, 3, [none, none, none, some (h + 4)]) ∧ kd (h + 4) = (1, 64, []) := by decide +kernel
theorem kd_ho {h : Nat} (q : isHo h) : kd h = (0, 3, [none, none, none, some (h + 4)]) := (kd_hoA h q).1
theorem kd_fl {h : Nat} (q : isHo h) : kd (h + 4) = (1, 64, []) := (kd_hoA h q).2
theorem ho_A : ∀ b ∈ bks, ∀ k, k < 4 → b + 5 + k ∈ hos := by decide +kernel
theorem ho_of {b : Nat} {a : Int} (h : isBk b) (hin : 0 ≤ a ∧ a < 4) : isHo (b + 5 + a.toNat) := ho_A b h _ (by omega)
theorem ho_r {b : Nat} {a : Int} (hin : 0 ≤ a ∧ a < 4) : [some (b + 5), some (b + 6), some (b + 7), some (b + 8)][a.toNat]? = some (some (b + 5 + a.toNat)) := by
  have h : a.toNat < 4 := by omega
  generalize a.toNat = k at h
  match k, h with
  | 0, _ => rfl
  | 1, _ => rfl
  | 2, _ => rfl
  | 3, _ => rfl
theorem kept_bk {a : Int} (hin : 0 ≤ a ∧ a < 2) : isBk (88 + 16 * a.toNat) := by
  have h : a.toNat < 2 := by omega
  generalize a.toNat = k at h
  match k, h with
  | 0, _ => show 88 ∈ bks; decide
  | 1, _ => show 104 ∈ bks; decide
theorem kept_r {a : Int} (hin : 0 ≤ a ∧ a < 2) : [some 88, some 104][a.toNat]? = some (some (88 + 16 * a.toNat)) := by
  have h : a.toNat < 2 := by omega
  generalize a.toNat = k at h
  match k, h with
  | 0, _ => rfl
  | 1, _ => rfl
theorem sa_A : ∀ k, k < 5 → kd (25 + k) = (1, 64, []) := by decide +kernel
theorem sa_kd {a : Int} (hin : 0 ≤ a ∧ a < 5) : kd (25 + a.toNat) = (1, 64, []) := sa_A _ (by omega)
theorem sa_r {a : Int} (hin : 0 ≤ a ∧ a < 5) : [some 25, some 26, some 27, some 28, some 29][a.toNat]? = some (some (25 + a.toNat)) := by
  have h : a.toNat < 5 := by omega
  generalize a.toNat = k at h
  match k, h with
  | 0, _ => rfl
  | 1, _ => rfl
  | 2, _ => rfl
  | 3, _ => rfl
  | 4, _ => rfl
theorem bk_40 : isBk 40 := by show 40 ∈ bks; decide
theorem bk_56 : isBk 56 := by show 56 ∈ bks; decide
theorem bk_72 : isBk 72 := by show 72 ∈ bks; decide
/-! loops -/
def lp {α : Type} (F : (α → Mem → Prop) → α → Mem → Prop) : Nat → α → Mem → Prop
  | 0 => fun _ _ => False
  | n + 1 => F (lp F n)
theorem lp_GW {α : Type} {F : (α → Mem → Prop) → α → Mem → Prop} {P : α → Mem → Prop} (step : ∀ K : α → Mem → Prop, (∀ x σ, K x σ → P x σ) → ∀ x σ, F K x σ → P x σ) : ∀ (n : Nat) (x : α) (σ : Mem), lp F n x σ → P x σ
  | 0, _, _, h => h.elim
  | n + 1, x, σ, h => step (lp F n) (fun x σ h => lp_GW step n x σ h) x σ h
theorem lp_in {α : Type} {F : (α → Mem → Prop) → α → Mem → Prop} (I : α → Mem → Prop) (μ : α → Mem → Nat) (step : ∀ x σ, I x σ → ∀ K : α → Mem → Prop, (∀ x' σ', I x' σ' → μ x' σ' < μ x σ → K x' σ') → F K x σ) (x : α) (σ : Mem) (h : I x σ) : ∃ n, lp F n x σ := by
  have key : ∀ (n : Nat) (x : α) (σ : Mem), I x σ → μ x σ < n → lp F n x σ := by
    intro n
    induction n with
    | zero => intro x σ _ hn; exact absurd hn (Nat.not_lt_zero _)
    | succ n ih => intro x σ hI hn; exact step x σ hI (lp F n) (fun x' σ' hI' hl => ih x' σ' hI' (by omega))
  exact ⟨μ x σ + 1, key _ x σ h (Nat.lt_succ_self _)⟩
section GROWS4
variable {E : TE} {cc : ByteArray} {nL : Nat} {own : String} {fr lo : Nat} {σ : Mem} {pc : Nat} {lv lv' : List (Nat × AV)} {st : List AV}
theorem g_nm (k : ∀ m : Mem, m = σ → GW E cc nL own fr lo m pc lv st) : GW E cc nL own fr lo σ pc lv st := k σ rfl
theorem g_topI {a : Int} (k : ∀ x : Int, x = a → GW E cc nL own fr lo σ pc lv (vI x :: st)) : GW E cc nL own fr lo σ pc lv (vI a :: st) := k a rfl
theorem g_topL {a : Int} (k : ∀ x : Int, x = a → GW E cc nL own fr lo σ pc lv (vL x :: st)) : GW E cc nL own fr lo σ pc lv (vL a :: st) := k a rfl
theorem g_loc {a : Int} {i : Nat} (k : ∀ x : Int, x = a → GW E cc nL own fr lo σ pc ((i, vI x) :: lv) st) : GW E cc nL own fr lo σ pc ((i, vI a) :: lv) st := k a rfl
theorem g_alen {i n : Nat} {x : List (Option Nat)} {a : Int} (hk : kd i = (1, n, x)) (ha : a = (n : Int)) (ho : inI a) (hd : decode cc pc = .ok (.arraylength, 1)) (kk : GW E cc nL own fr lo σ (pc + 1) lv (vI a :: st)) : GW E cc nL own fr lo σ pc lv (vR i :: st) := by
  obtain ⟨p, l, e, R, s, m, args, below, meth, c, Q, D, cy, ad, A, k0, n0⟩ := E
  intro H locs ls F I
  obtain ⟨hm, hlv, hst, hP, hS, hl⟩ := I
  obtain ⟨hx, hb, hml, hown, hts, hK, hN, hap, hAi, hA, hfr, hlo⟩ := id F
  obtain ⟨q, -, hq⟩ := wd_at (ad := ad) (cy := cy) (σ := σ) (id_of hk (by decide))
  rw [cel_i ad cy hk (by decide) (by decide)] at hq
  refine va_alen hx hb hK hP q 0 hq (ty := .int) rfl (v := Int32.ofInt a) (by rw [ha]; rfl) hd ?_
  exact kk H locs ls F ⟨hm, hlv, okv_c ho (okv_t hst), hP, hS, hl⟩
end GROWS4
