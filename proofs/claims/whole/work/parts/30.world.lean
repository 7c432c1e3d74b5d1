def lmB (k : Nat) : Nat := if k ≤ 4 then k else if k ≤ 8 then 2 * k - 5 else 2 * k - 12
abbrev TS := (Nat → Nat) × (Nat → Nat → Nat) × ((Nat → Nat) × (Nat → Nat → Nat)) × ((Nat → Nat) × (Nat → Nat))
def adT (S : TS) : List Nat := [S.1 0, S.1 1, S.1 2, S.2.2.1.1 0, S.2.2.1.1 1, S.2.1 5 0, S.2.1 5 1, S.2.1 6 0, S.2.1 6 1, S.2.1 6 2, S.2.1 6 3, S.2.1 6 4, S.2.1 7 0, S.2.1 7 1, S.2.1 8 0, S.2.1 8 1, S.2.1 8 2, S.2.1 8 3, S.2.1 8 4, S.2.1 8 5, S.2.1 8 6, S.2.1 8 7, S.2.1 8 8, S.2.2.2.1 0, S.2.2.2.1 1, S.2.2.2.2 0, S.2.2.2.2 1, S.2.2.2.2 2, S.2.2.2.2 3, S.2.2.2.2 4, S.2.2.2.1 2, S.2.2.2.1 3, S.2.1 9 0, S.2.1 9 1, S.2.1 9 2, S.2.1 9 3, S.2.1 10 0]
def adB (S : TS) (j : Nat) : Nat → Nat := if j < 5 then S.2.1 j else S.2.2.1.2 (j - 5)
def mdI : List Nat := [0, 1, 2, 0, 3, 0, 0, 0, 0, 0, 4, 5, 6, 7, 0, 0, 8, 0, 0, 0, 9, 10, 11, 12, 0, 13, 0, 14, 15, 0, 0, 16, 17]
def adF (S : TS) (a : Nat → Nat) (q u v : Nat) (i : Nat) : Nat := if i < 40 then (adT S).getD i 0 else if i < 300 then adB S ((i - 40) / 16) (lmB ((i - 40) % 16)) else if i < 340 then a (mdI.getD (i - 300) 0) else if i = 340 then q else if i = 400 then u else v
def σ0 : Mem := fun i j => if i = 4 then (if j < 8 then 120 + 16 * (j : Int) else 0) else if i ∈ bks ∧ j = 0 then 2 else if i = 301 ∧ j = 0 then 2 else if i = 300 ∧ j = 14 then -1 else 0
theorem σ0_ok : okm σ0 := by
  intro i j
  have h : inI (σ0 i j) := by
    unfold σ0
    repeat' split
    all_goals (constructor <;> omega)
  split
  · exact ⟨by have := h.1; omega, by have := h.2; omega⟩
  · exact h
theorem σ0_z {i : Nat} (h : i ≠ 4 ∧ i ∉ bks ∧ i ≠ 301 ∧ i ≠ 300) : σ0 i = fun _ => 0 := by
  funext j
  unfold σ0
  rw [if_neg h.1, if_neg (fun z => h.2.1 z.1), if_neg (fun z => h.2.2.1 z.1), if_neg (fun z => h.2.2.2 z.1)]
theorem adF_b {S : TS} {a : Nat → Nat} {q u v : Nat} (j k : Nat) (hj : j < 13) (hk : k < 13) : adF S a q u v (40 + 16 * j + k) = adB S j (lmB k) := by
  unfold adF
  rw [if_neg (by omega), if_pos (by omega), show (40 + 16 * j + k - 40) / 16 = j by omega, show (40 + 16 * j + k - 40) % 16 = k by omega]
def bkW (b : Nat) : List Nat := [b, b + 1, b + 2, b + 3, b + 4, b + 5, b + 9, b + 6, b + 10, b + 7, b + 11, b + 8, b + 12]
theorem bk_z : ∀ b ∈ bks, ∀ k, k < 13 → k ≠ 0 → b + k ≠ 4 ∧ b + k ∉ bks ∧ b + k ≠ 301 ∧ b + k ≠ 300 := by decide +kernel
theorem bk_4 : ∀ b ∈ bks, b ≠ 4 := by decide +kernel
theorem bk_of : ∀ j, j < 13 → 40 + 16 * j ∈ bks := by decide +kernel
def Fw (S : TS) (a : Nat → Nat) (q u v : Nat) (cy : Nat → ClassId) (i : Nat) : Nat × va_E := (adF S a q u v i, cel (adF S a q u v) cy (kd i) (σ0 i))
theorem celI {ad : Nat → Nat} {cy : Nat → ClassId} {i n : Nat} (hk : kd i = (1, n, [])) (hz : i ≠ 4 ∧ i ∉ bks ∧ i ≠ 301 ∧ i ≠ 300) : cel ad cy (kd i) (σ0 i) = .inl (cy 0, n, .inl (fun _ => 0)) := by
  rw [hk, σ0_z hz]
  rfl
theorem bkE {S : TS} {a : Nat → Nat} {q u v : Nat} {cy : Nat → ClassId} (j : Nat) (hj : j < 13) : (bkW (40 + 16 * j)).map (Fw S a q u v cy) = blk_1 cy (adB S j) := by
  have hb := bk_of j hj
  have hz := fun k h1 h2 => bk_z _ hb k h1 h2
  have e0 : adF S a q u v (40 + 16 * j) = adB S j 0 := adF_b j 0 hj (by decide)
  have e1 : adF S a q u v (40 + 16 * j + 1) = adB S j 1 := adF_b j 1 hj (by decide)
  have e2 : adF S a q u v (40 + 16 * j + 2) = adB S j 2 := adF_b j 2 hj (by decide)
  have e3 : adF S a q u v (40 + 16 * j + 3) = adB S j 3 := adF_b j 3 hj (by decide)
  have e4 : adF S a q u v (40 + 16 * j + 4) = adB S j 4 := adF_b j 4 hj (by decide)
  have e5 : adF S a q u v (40 + 16 * j + 5) = adB S j 5 := adF_b j 5 hj (by decide)
  have e6 : adF S a q u v (40 + 16 * j + 6) = adB S j 7 := adF_b j 6 hj (by decide)
  have e7 : adF S a q u v (40 + 16 * j + 7) = adB S j 9 := adF_b j 7 hj (by decide)
  have e8 : adF S a q u v (40 + 16 * j + 8) = adB S j 11 := adF_b j 8 hj (by decide)
  have e9 : adF S a q u v (40 + 16 * j + 9) = adB S j 6 := adF_b j 9 hj (by decide)
  have e10 : adF S a q u v (40 + 16 * j + 10) = adB S j 8 := adF_b j 10 hj (by decide)
  have e11 : adF S a q u v (40 + 16 * j + 11) = adB S j 10 := adF_b j 11 hj (by decide)
  have e12 : adF S a q u v (40 + 16 * j + 12) = adB S j 12 := adF_b j 12 hj (by decide)
  have c0 : cel (adF S a q u v) cy (kd (40 + 16 * j)) (σ0 (40 + 16 * j)) = .inr (1, [.int 2, .ref (adB S j 1), .ref (adB S j 2), .ref (adB S j 3), .ref (adB S j 4)]) := by
    rw [kd_bk0 hb, ← e1, ← e2, ← e3, ← e4]
    have : σ0 (40 + 16 * j) 0 = 2 := by
      unfold σ0
      rw [if_neg (bk_4 _ hb), if_pos ⟨hb, rfl⟩]
    show Sum.inr (1, [Value.int (Int32.ofInt (σ0 (40 + 16 * j) 0)), _, _, _, _]) = _
    rw [this]
    rfl
  have c4 : cel (adF S a q u v) cy (kd (40 + 16 * j + 4)) (σ0 (40 + 16 * j + 4)) = .inl (cy 5, 4, .inr (.inr (.inr (.inr (va_up (va_up (va_up (va_up (fun _ => none) 0 (some (adB S j 5))) 1 (some (adB S j 7))) 2 (some (adB S j 9))) 3 (some (adB S j 11))))))) := by
    rw [kd_bk4 hb, ← e5, ← e6, ← e7, ← e8]
    refine congrArg (fun f => (Sum.inl (cy 5, 4, .inr (.inr (.inr (.inr f)))) : va_E)) (funext fun i => ?_)
    match i with
    | 0 => rfl
    | 1 => rfl
    | 2 => rfl
    | 3 => rfl
    | i + 4 => simp [va_up]
  have c5 : cel (adF S a q u v) cy (kd (40 + 16 * j + 5)) (σ0 (40 + 16 * j + 5)) = .inr (3, [.int 0, .int 0, .int 0, .ref (adB S j 6)]) := by
    rw [kd_ho (ho_A _ hb 0 (by decide)), σ0_z (hz 5 (by decide) (by decide)), ← e9]
    rfl
  have c6 : cel (adF S a q u v) cy (kd (40 + 16 * j + 6)) (σ0 (40 + 16 * j + 6)) = .inr (3, [.int 0, .int 0, .int 0, .ref (adB S j 8)]) := by
    rw [kd_ho (ho_A _ hb 1 (by decide)), σ0_z (hz 6 (by decide) (by decide)), ← e10]
    rfl
  have c7 : cel (adF S a q u v) cy (kd (40 + 16 * j + 7)) (σ0 (40 + 16 * j + 7)) = .inr (3, [.int 0, .int 0, .int 0, .ref (adB S j 10)]) := by
    rw [kd_ho (ho_A _ hb 2 (by decide)), σ0_z (hz 7 (by decide) (by decide)), ← e11]
    rfl
  have c8 : cel (adF S a q u v) cy (kd (40 + 16 * j + 8)) (σ0 (40 + 16 * j + 8)) = .inr (3, [.int 0, .int 0, .int 0, .ref (adB S j 12)]) := by
    rw [kd_ho (ho_A _ hb 3 (by decide)), σ0_z (hz 8 (by decide) (by decide)), ← e12]
    rfl
  unfold bkW blk_1 Fw
  simp only [List.map_cons, List.map_nil, e0, e1, e2, e3, e4, e5, e6, e7, e8, e9, e10, e11, e12, c0, c4, c5, c6, c7, c8, celI (kd_bk1 hb) (hz 1 (by decide) (by decide)), celI (kd_bk2 hb) (hz 2 (by decide) (by decide)), celI (kd_bk3 hb) (hz 3 (by decide) (by decide)), celI (kd_fl (ho_A _ hb 0 (by decide))) (hz 9 (by decide) (by decide)), celI (kd_fl (ho_A _ hb 1 (by decide))) (hz 10 (by decide) (by decide)), celI (kd_fl (ho_A _ hb 2 (by decide))) (hz 11 (by decide) (by decide)), celI (kd_fl (ho_A _ hb 3 (by decide))) (hz 12 (by decide) (by decide))]
def id6 : List Nat := ((((((((([3] ++ [4]) ++ bkW 120) ++ bkW 136) ++ bkW 152) ++ bkW 168) ++ bkW 184) ++ bkW 200) ++ bkW 216) ++ bkW 232)
def id10 : List Nat := ((((((((((((((([0] ++ bkW 40) ++ bkW 56) ++ bkW 72) ++ [1]) ++ bkW 88) ++ bkW 104) ++ [2]) ++ id6) ++ [5, 6]) ++ [7, 8, 9, 10, 11]) ++ [12, 13]) ++ [14, 15, 16, 17, 18, 19, 20, 21, 22]) ++ [23, 24, 25, 26, 27, 28, 29, 30, 31]) ++ [32, 33, 34, 35]) ++ [36])
def idsT : List Nat := (id10 ++ [300, 301, 302, 304, 310, 311, 312, 313, 316, 320, 321, 322, 323, 325, 327, 328, 331, 332]) ++ [340]
theorem idsT_in : ∀ i ∈ ids, i ∈ idsT := by decide +kernel
theorem idsT_nd : va_nd idsT = true := by decide +kernel
abbrev wsT (S : TS) (a : Nat → Nat) (q : Nat) (cy : Nat → ClassId) : va_W := (blk_10 cy S ++ blk_11 cy a) ++ [(q, .inl (cy 3, 1, .inr (.inl (fun _ => 0))))]
theorem Fe0 {S : TS} {a : Nat → Nat} {q u v : Nat} {cy : Nat → ClassId} : Fw S a q u v cy 0 = (S.1 0, .inr (10, [.ref (S.2.1 0 0), .ref (S.2.1 1 0), .ref (S.2.1 2 0), .ref (S.1 1), .ref (S.1 2), .ref (S.2.2.1.1 0), .ref (S.2.1 5 0), .ref (S.2.1 6 0), .ref (S.2.1 7 0), .ref (S.2.1 8 0), .ref (S.2.2.2.1 0), .ref (S.2.1 9 0), .ref (S.2.1 10 0)])) := by
  unfold Fw
  rw [show kd 0 = (0, 10, [some 40, some 56, some 72, some 1, some 2, some 3, some 5, some 7, some 12, some 14, some 23, some 32, some 36]) by decide +kernel, σ0_z (by decide)]
  rfl
theorem Fe2 {S : TS} {a : Nat → Nat} {q u v : Nat} {cy : Nat → ClassId} : Fw S a q u v cy 2 = (S.1 2, .inl (cy 2, 2, .inl (fun _ => 0))) := by
  unfold Fw
  rw [show kd 2 = (3, 2, []) by decide +kernel, σ0_z (by decide)]
  rfl
theorem Fe3 {S : TS} {a : Nat → Nat} {q u v : Nat} {cy : Nat → ClassId} : Fw S a q u v cy 3 = (S.2.2.1.1 0, .inr (6, [.ref (S.2.2.1.1 1), .int 0])) := by
  unfold Fw
  rw [show kd 3 = (0, 6, [some 4, none]) by decide +kernel, σ0_z (by decide)]
  rfl
theorem Fe5 {S : TS} {a : Nat → Nat} {q u v : Nat} {cy : Nat → ClassId} : Fw S a q u v cy 5 = (S.2.1 5 0, .inr (9, [.ref (S.2.1 5 1), .int 0])) := by
  unfold Fw
  rw [show kd 5 = (0, 9, [some 6, none]) by decide +kernel, σ0_z (by decide)]
  rfl
theorem Fe6 {S : TS} {a : Nat → Nat} {q u v : Nat} {cy : Nat → ClassId} : Fw S a q u v cy 6 = (S.2.1 5 1, .inl (cy 0, 80, .inl (fun _ => 0))) := by
  unfold Fw
  rw [show kd 6 = (1, 80, []) by decide +kernel, σ0_z (by decide)]
  rfl
theorem Fe7 {S : TS} {a : Nat → Nat} {q u v : Nat} {cy : Nat → ClassId} : Fw S a q u v cy 7 = (S.2.1 6 0, .inr (0, [.ref (S.2.1 6 1), .ref (S.2.1 6 2), .ref (S.2.1 6 3), .ref (S.2.1 6 4), .int 0])) := by
  unfold Fw
  rw [show kd 7 = (0, 0, [some 8, some 9, some 10, some 11, none]) by decide +kernel, σ0_z (by decide)]
  rfl
theorem Fe8 {S : TS} {a : Nat → Nat} {q u v : Nat} {cy : Nat → ClassId} : Fw S a q u v cy 8 = (S.2.1 6 1, .inl (cy 0, 80, .inl (fun _ => 0))) := by
  unfold Fw
  rw [show kd 8 = (1, 80, []) by decide +kernel, σ0_z (by decide)]
  rfl
theorem Fe9 {S : TS} {a : Nat → Nat} {q u v : Nat} {cy : Nat → ClassId} : Fw S a q u v cy 9 = (S.2.1 6 2, .inl (cy 0, 80, .inl (fun _ => 0))) := by
  unfold Fw
  rw [show kd 9 = (1, 80, []) by decide +kernel, σ0_z (by decide)]
  rfl
theorem Fe10 {S : TS} {a : Nat → Nat} {q u v : Nat} {cy : Nat → ClassId} : Fw S a q u v cy 10 = (S.2.1 6 3, .inl (cy 0, 80, .inl (fun _ => 0))) := by
  unfold Fw
  rw [show kd 10 = (1, 80, []) by decide +kernel, σ0_z (by decide)]
  rfl
theorem Fe11 {S : TS} {a : Nat → Nat} {q u v : Nat} {cy : Nat → ClassId} : Fw S a q u v cy 11 = (S.2.1 6 4, .inl (cy 0, 80, .inl (fun _ => 0))) := by
  unfold Fw
  rw [show kd 11 = (1, 80, []) by decide +kernel, σ0_z (by decide)]
  rfl
theorem Fe12 {S : TS} {a : Nat → Nat} {q u v : Nat} {cy : Nat → ClassId} : Fw S a q u v cy 12 = (S.2.1 7 0, .inr (5, [.ref (S.2.1 7 1), .int 0])) := by
  unfold Fw
  rw [show kd 12 = (0, 5, [some 13, none]) by decide +kernel, σ0_z (by decide)]
  rfl
theorem Fe13 {S : TS} {a : Nat → Nat} {q u v : Nat} {cy : Nat → ClassId} : Fw S a q u v cy 13 = (S.2.1 7 1, .inl (cy 3, 512, .inr (.inl (fun _ => 0)))) := by
  unfold Fw
  rw [show kd 13 = (4, 512, []) by decide +kernel, σ0_z (by decide)]
  rfl
theorem Fe14 {S : TS} {a : Nat → Nat} {q u v : Nat} {cy : Nat → ClassId} : Fw S a q u v cy 14 = (S.2.1 8 0, .inr (4, [.int 0, .ref (S.2.1 8 1), .ref (S.2.1 8 2), .ref (S.2.1 8 3), .ref (S.2.1 8 4), .ref (S.2.1 8 5), .ref (S.2.1 8 6), .int 0, .ref (S.2.1 8 7), .ref (S.2.1 8 8), .int 0])) := by
  unfold Fw
  rw [show kd 14 = (0, 4, [none, some 15, some 16, some 17, some 18, some 19, some 20, none, some 21, some 22, none]) by decide +kernel, σ0_z (by decide)]
  rfl
theorem Fe15 {S : TS} {a : Nat → Nat} {q u v : Nat} {cy : Nat → ClassId} : Fw S a q u v cy 15 = (S.2.1 8 1, .inl (cy 0, 64, .inl (fun _ => 0))) := by
  unfold Fw
  rw [show kd 15 = (1, 64, []) by decide +kernel, σ0_z (by decide)]
  rfl
theorem Fe16 {S : TS} {a : Nat → Nat} {q u v : Nat} {cy : Nat → ClassId} : Fw S a q u v cy 16 = (S.2.1 8 2, .inl (cy 0, 64, .inl (fun _ => 0))) := by
  unfold Fw
  rw [show kd 16 = (1, 64, []) by decide +kernel, σ0_z (by decide)]
  rfl
theorem Fe17 {S : TS} {a : Nat → Nat} {q u v : Nat} {cy : Nat → ClassId} : Fw S a q u v cy 17 = (S.2.1 8 3, .inl (cy 0, 64, .inl (fun _ => 0))) := by
  unfold Fw
  rw [show kd 17 = (1, 64, []) by decide +kernel, σ0_z (by decide)]
  rfl
theorem Fe18 {S : TS} {a : Nat → Nat} {q u v : Nat} {cy : Nat → ClassId} : Fw S a q u v cy 18 = (S.2.1 8 4, .inl (cy 0, 8, .inl (fun _ => 0))) := by
  unfold Fw
  rw [show kd 18 = (1, 8, []) by decide +kernel, σ0_z (by decide)]
  rfl
theorem Fe19 {S : TS} {a : Nat → Nat} {q u v : Nat} {cy : Nat → ClassId} : Fw S a q u v cy 19 = (S.2.1 8 5, .inl (cy 0, 8, .inl (fun _ => 0))) := by
  unfold Fw
  rw [show kd 19 = (1, 8, []) by decide +kernel, σ0_z (by decide)]
  rfl
theorem Fe20 {S : TS} {a : Nat → Nat} {q u v : Nat} {cy : Nat → ClassId} : Fw S a q u v cy 20 = (S.2.1 8 6, .inl (cy 0, 8, .inl (fun _ => 0))) := by
  unfold Fw
  rw [show kd 20 = (1, 8, []) by decide +kernel, σ0_z (by decide)]
  rfl
theorem Fe21 {S : TS} {a : Nat → Nat} {q u v : Nat} {cy : Nat → ClassId} : Fw S a q u v cy 21 = (S.2.1 8 7, .inl (cy 0, 256, .inl (fun _ => 0))) := by
  unfold Fw
  rw [show kd 21 = (1, 256, []) by decide +kernel, σ0_z (by decide)]
  rfl
theorem Fe22 {S : TS} {a : Nat → Nat} {q u v : Nat} {cy : Nat → ClassId} : Fw S a q u v cy 22 = (S.2.1 8 8, .inl (cy 0, 256, .inl (fun _ => 0))) := by
  unfold Fw
  rw [show kd 22 = (1, 256, []) by decide +kernel, σ0_z (by decide)]
  rfl
theorem Fe23 {S : TS} {a : Nat → Nat} {q u v : Nat} {cy : Nat → ClassId} : Fw S a q u v cy 23 = (S.2.2.2.1 0, .inr (8, [.ref (S.2.2.2.1 1), .ref (S.2.2.2.1 2), .ref (S.2.2.2.1 3), .int 0])) := by
  unfold Fw
  rw [show kd 23 = (0, 8, [some 24, some 30, some 31, none]) by decide +kernel, σ0_z (by decide)]
  rfl
theorem Fe25 {S : TS} {a : Nat → Nat} {q u v : Nat} {cy : Nat → ClassId} : Fw S a q u v cy 25 = (S.2.2.2.2 0, .inl (cy 0, 64, .inl (fun _ => 0))) := by
  unfold Fw
  rw [show kd 25 = (1, 64, []) by decide +kernel, σ0_z (by decide)]
  rfl
theorem Fe26 {S : TS} {a : Nat → Nat} {q u v : Nat} {cy : Nat → ClassId} : Fw S a q u v cy 26 = (S.2.2.2.2 1, .inl (cy 0, 64, .inl (fun _ => 0))) := by
  unfold Fw
  rw [show kd 26 = (1, 64, []) by decide +kernel, σ0_z (by decide)]
  rfl
theorem Fe27 {S : TS} {a : Nat → Nat} {q u v : Nat} {cy : Nat → ClassId} : Fw S a q u v cy 27 = (S.2.2.2.2 2, .inl (cy 0, 64, .inl (fun _ => 0))) := by
  unfold Fw
  rw [show kd 27 = (1, 64, []) by decide +kernel, σ0_z (by decide)]
  rfl
theorem Fe28 {S : TS} {a : Nat → Nat} {q u v : Nat} {cy : Nat → ClassId} : Fw S a q u v cy 28 = (S.2.2.2.2 3, .inl (cy 0, 64, .inl (fun _ => 0))) := by
  unfold Fw
  rw [show kd 28 = (1, 64, []) by decide +kernel, σ0_z (by decide)]
  rfl
theorem Fe29 {S : TS} {a : Nat → Nat} {q u v : Nat} {cy : Nat → ClassId} : Fw S a q u v cy 29 = (S.2.2.2.2 4, .inl (cy 0, 64, .inl (fun _ => 0))) := by
  unfold Fw
  rw [show kd 29 = (1, 64, []) by decide +kernel, σ0_z (by decide)]
  rfl
theorem Fe30 {S : TS} {a : Nat → Nat} {q u v : Nat} {cy : Nat → ClassId} : Fw S a q u v cy 30 = (S.2.2.2.1 2, .inl (cy 0, 5, .inl (fun _ => 0))) := by
  unfold Fw
  rw [show kd 30 = (1, 5, []) by decide +kernel, σ0_z (by decide)]
  rfl
theorem Fe31 {S : TS} {a : Nat → Nat} {q u v : Nat} {cy : Nat → ClassId} : Fw S a q u v cy 31 = (S.2.2.2.1 3, .inl (cy 0, 5, .inl (fun _ => 0))) := by
  unfold Fw
  rw [show kd 31 = (1, 5, []) by decide +kernel, σ0_z (by decide)]
  rfl
theorem Fe32 {S : TS} {a : Nat → Nat} {q u v : Nat} {cy : Nat → ClassId} : Fw S a q u v cy 32 = (S.2.1 9 0, .inr (7, [.ref (S.2.1 9 1), .ref (S.2.1 9 2), .ref (S.2.1 9 3), .int 0, .int 0])) := by
  unfold Fw
  rw [show kd 32 = (0, 7, [some 33, some 34, some 35, none, none]) by decide +kernel, σ0_z (by decide)]
  rfl
theorem Fe33 {S : TS} {a : Nat → Nat} {q u v : Nat} {cy : Nat → ClassId} : Fw S a q u v cy 33 = (S.2.1 9 1, .inl (cy 0, 8, .inl (fun _ => 0))) := by
  unfold Fw
  rw [show kd 33 = (1, 8, []) by decide +kernel, σ0_z (by decide)]
  rfl
theorem Fe34 {S : TS} {a : Nat → Nat} {q u v : Nat} {cy : Nat → ClassId} : Fw S a q u v cy 34 = (S.2.1 9 2, .inl (cy 0, 8, .inl (fun _ => 0))) := by
  unfold Fw
  rw [show kd 34 = (1, 8, []) by decide +kernel, σ0_z (by decide)]
  rfl
theorem Fe35 {S : TS} {a : Nat → Nat} {q u v : Nat} {cy : Nat → ClassId} : Fw S a q u v cy 35 = (S.2.1 9 3, .inl (cy 0, 8, .inl (fun _ => 0))) := by
  unfold Fw
  rw [show kd 35 = (1, 8, []) by decide +kernel, σ0_z (by decide)]
  rfl
theorem Fe36 {S : TS} {a : Nat → Nat} {q u v : Nat} {cy : Nat → ClassId} : Fw S a q u v cy 36 = (S.2.1 10 0, .inr (2, [.int 0, .int 0, .int 0, .int 0])) := by
  unfold Fw
  rw [show kd 36 = (0, 2, [none, none, none, none]) by decide +kernel, σ0_z (by decide)]
  rfl
theorem Fe302 {S : TS} {a : Nat → Nat} {q u v : Nat} {cy : Nat → ClassId} : Fw S a q u v cy 302 = (a 2, .inl (cy 1, 80, .inl (fun _ => 0))) := by
  unfold Fw
  rw [show kd 302 = (2, 80, []) by decide +kernel, σ0_z (by decide)]
  rfl
theorem Fe304 {S : TS} {a : Nat → Nat} {q u v : Nat} {cy : Nat → ClassId} : Fw S a q u v cy 304 = (a 3, .inl (cy 3, 2400, .inr (.inl (fun _ => 0)))) := by
  unfold Fw
  rw [show kd 304 = (4, 2400, []) by decide +kernel, σ0_z (by decide)]
  rfl
theorem Fe310 {S : TS} {a : Nat → Nat} {q u v : Nat} {cy : Nat → ClassId} : Fw S a q u v cy 310 = (a 4, .inl (cy 0, 320, .inl (fun _ => 0))) := by
  unfold Fw
  rw [show kd 310 = (1, 320, []) by decide +kernel, σ0_z (by decide)]
  rfl
theorem Fe311 {S : TS} {a : Nat → Nat} {q u v : Nat} {cy : Nat → ClassId} : Fw S a q u v cy 311 = (a 5, .inl (cy 0, 64, .inl (fun _ => 0))) := by
  unfold Fw
  rw [show kd 311 = (1, 64, []) by decide +kernel, σ0_z (by decide)]
  rfl
theorem Fe312 {S : TS} {a : Nat → Nat} {q u v : Nat} {cy : Nat → ClassId} : Fw S a q u v cy 312 = (a 6, .inl (cy 0, 8, .inl (fun _ => 0))) := by
  unfold Fw
  rw [show kd 312 = (1, 8, []) by decide +kernel, σ0_z (by decide)]
  rfl
theorem Fe313 {S : TS} {a : Nat → Nat} {q u v : Nat} {cy : Nat → ClassId} : Fw S a q u v cy 313 = (a 7, .inl (cy 0, 8, .inl (fun _ => 0))) := by
  unfold Fw
  rw [show kd 313 = (1, 8, []) by decide +kernel, σ0_z (by decide)]
  rfl
theorem Fe316 {S : TS} {a : Nat → Nat} {q u v : Nat} {cy : Nat → ClassId} : Fw S a q u v cy 316 = (a 8, .inl (cy 0, 1620, .inl (fun _ => 0))) := by
  unfold Fw
  rw [show kd 316 = (1, 1620, []) by decide +kernel, σ0_z (by decide)]
  rfl
theorem Fe320 {S : TS} {a : Nat → Nat} {q u v : Nat} {cy : Nat → ClassId} : Fw S a q u v cy 320 = (a 9, .inl (cy 0, 8, .inl (fun _ => 0))) := by
  unfold Fw
  rw [show kd 320 = (1, 8, []) by decide +kernel, σ0_z (by decide)]
  rfl
theorem Fe321 {S : TS} {a : Nat → Nat} {q u v : Nat} {cy : Nat → ClassId} : Fw S a q u v cy 321 = (a 10, .inl (cy 0, 5, .inl (fun _ => 0))) := by
  unfold Fw
  rw [show kd 321 = (1, 5, []) by decide +kernel, σ0_z (by decide)]
  rfl
theorem Fe322 {S : TS} {a : Nat → Nat} {q u v : Nat} {cy : Nat → ClassId} : Fw S a q u v cy 322 = (a 11, .inl (cy 0, 5, .inl (fun _ => 0))) := by
  unfold Fw
  rw [show kd 322 = (1, 5, []) by decide +kernel, σ0_z (by decide)]
  rfl
theorem Fe323 {S : TS} {a : Nat → Nat} {q u v : Nat} {cy : Nat → ClassId} : Fw S a q u v cy 323 = (a 12, .inl (cy 0, 2430, .inl (fun _ => 0))) := by
  unfold Fw
  rw [show kd 323 = (1, 2430, []) by decide +kernel, σ0_z (by decide)]
  rfl
theorem Fe325 {S : TS} {a : Nat → Nat} {q u v : Nat} {cy : Nat → ClassId} : Fw S a q u v cy 325 = (a 13, .inl (cy 0, 64, .inl (fun _ => 0))) := by
  unfold Fw
  rw [show kd 325 = (1, 64, []) by decide +kernel, σ0_z (by decide)]
  rfl
theorem Fe327 {S : TS} {a : Nat → Nat} {q u v : Nat} {cy : Nat → ClassId} : Fw S a q u v cy 327 = (a 14, .inl (cy 0, 3240, .inl (fun _ => 0))) := by
  unfold Fw
  rw [show kd 327 = (1, 3240, []) by decide +kernel, σ0_z (by decide)]
  rfl
theorem Fe328 {S : TS} {a : Nat → Nat} {q u v : Nat} {cy : Nat → ClassId} : Fw S a q u v cy 328 = (a 15, .inl (cy 0, 405, .inl (fun _ => 0))) := by
  unfold Fw
  rw [show kd 328 = (1, 405, []) by decide +kernel, σ0_z (by decide)]
  rfl
theorem Fe331 {S : TS} {a : Nat → Nat} {q u v : Nat} {cy : Nat → ClassId} : Fw S a q u v cy 331 = (a 16, .inl (cy 0, 810, .inl (fun _ => 0))) := by
  unfold Fw
  rw [show kd 331 = (1, 810, []) by decide +kernel, σ0_z (by decide)]
  rfl
theorem Fe332 {S : TS} {a : Nat → Nat} {q u v : Nat} {cy : Nat → ClassId} : Fw S a q u v cy 332 = (a 17, .inl (cy 2, 2, .inl (fun _ => 0))) := by
  unfold Fw
  rw [show kd 332 = (3, 2, []) by decide +kernel, σ0_z (by decide)]
  rfl
theorem Fe340 {S : TS} {a : Nat → Nat} {q u v : Nat} {cy : Nat → ClassId} : Fw S a q u v cy 340 = (q, .inl (cy 3, 1, .inr (.inl (fun _ => 0)))) := by
  unfold Fw
  rw [show kd 340 = (4, 1, []) by decide +kernel, σ0_z (by decide)]
  rfl
theorem Fe300 {S : TS} {a : Nat → Nat} {q u v : Nat} {cy : Nat → ClassId} : Fw S a q u v cy 300 = (a 0, .inr (11, [.ref (a 1), .ref (a 2), .int 0, .ref (a 3), .int 0, .int 0, .int 0, .int 0, .int 0, .ref (a 4), .ref (a 5), .ref (a 6), .ref (a 7), .int 0, .int (-1), .ref (a 8), .int 0, .int 0, .int 0, .ref (a 9), .ref (a 10), .ref (a 11), .ref (a 12), .int 0, .ref (a 13), .int 0, .ref (a 14), .ref (a 15), .int 0, .int 0, .ref (a 16), .ref (a 17)])) := by
  unfold Fw
  rw [show kd 300 = (0, 11, [some 301, some 302, none, some 304, none, none, none, none, none, some 310, some 311, some 312, some 313, none, none, some 316, none, none, none, some 320, some 321, some 322, some 323, none, some 325, none, some 327, some 328, none, none, some 331, some 332]) by decide +kernel]
  rfl
theorem Fe301 {S : TS} {a : Nat → Nat} {q u v : Nat} {cy : Nat → ClassId} : Fw S a q u v cy 301 = (a 1, .inl (cy 0, 405, .inl (upd (fun _ => 0) 0 2))) := by
  unfold Fw
  rw [show kd 301 = (1, 405, []) by decide +kernel]
  refine congrArg (fun f => ((a 1, Sum.inl (cy 0, 405, .inl f)) : Nat × va_E)) (funext fun i => ?_)
  match i with
  | 0 => rfl
  | i + 1 => simp [upd, σ0]
theorem Fe1 {S : TS} {a : Nat → Nat} {q u v : Nat} {cy : Nat → ClassId} : Fw S a q u v cy 1 = (S.1 1, .inl (cy 4, 2, .inr (.inr (.inr (.inr (va_up (va_up (fun _ => none) 0 (some (S.2.1 3 0))) 1 (some (S.2.1 4 0)))))))) := by
  unfold Fw
  rw [show kd 1 = (5, 2, [some 88, some 104]) by decide +kernel]
  refine congrArg (fun f => ((S.1 1, Sum.inl (cy 4, 2, .inr (.inr (.inr (.inr f))))) : Nat × va_E)) (funext fun i => ?_)
  match i with
  | 0 => rfl
  | 1 => rfl
  | i + 2 => simp [va_up]
theorem Fe24 {S : TS} {a : Nat → Nat} {q u v : Nat} {cy : Nat → ClassId} : Fw S a q u v cy 24 = (S.2.2.2.1 1, .inl (cy 6, 5, .inr (.inr (.inr (.inr (fun i => if i < 5 then some (S.2.2.2.2 i) else none)))))) := by
  unfold Fw
  rw [show kd 24 = (7, 5, [some 25, some 26, some 27, some 28, some 29]) by decide +kernel]
  refine congrArg (fun f => ((S.2.2.2.1 1, Sum.inl (cy 6, 5, .inr (.inr (.inr (.inr f))))) : Nat × va_E)) (funext fun i => ?_)
  match i with
  | 0 => rfl
  | 1 => rfl
  | 2 => rfl
  | 3 => rfl
  | 4 => rfl
  | i + 5 => simp
theorem Fe4 {S : TS} {a : Nat → Nat} {q u v : Nat} {cy : Nat → ClassId} : Fw S a q u v cy 4 = (S.2.2.1.1 1, .inl (cy 4, 8, .inr (.inr (.inr (.inr (fun j => some (adF S a q u v (σ0 4 j).toNat))))))) := by
  unfold Fw
  rw [show kd 4 = (8, 8, []) by decide +kernel]
  rfl
def Al (D : va_G) (H : Heap) (F : Nat → Nat × va_E) (L : List Nat) (w : va_W) : Prop := L.length = w.length ∧ ∀ (k i : Nat) (p : Nat × va_E), L[k]? = some i → w[k]? = some p → (F i).1 = p.1 ∧ (va_at D vwCl p H → va_at D vwCl (F i) H)
theorem Al.app {D : va_G} {H : Heap} {F : Nat → Nat × va_E} {L1 L2 : List Nat} {w1 w2 : va_W} (h1 : Al D H F L1 w1) (h2 : Al D H F L2 w2) : Al D H F (L1 ++ L2) (w1 ++ w2) := by
  refine ⟨by rw [List.length_append, List.length_append, h1.1, h2.1], fun k i p e1 e2 => ?_⟩
  by_cases c : k < L1.length
  · rw [List.getElem?_append_left c] at e1
    rw [List.getElem?_append_left (h1.1 ▸ c)] at e2
    exact h1.2 k i p e1 e2
  · rw [List.getElem?_append_right (by omega)] at e1
    rw [List.getElem?_append_right (by have := h1.1; omega)] at e2
    exact h2.2 _ i p e1 (by rw [h1.1]; exact e2)
theorem Al.of {D : va_G} {H : Heap} {F : Nat → Nat × va_E} {L : List Nat} {w : va_W} (h : L.map F = w) : Al D H F L w := by
  subst h
  refine ⟨by rw [List.length_map], fun k i p e1 e2 => ?_⟩
  rw [List.getElem?_map, e1] at e2
  cases e2
  exact ⟨rfl, id⟩
theorem Al.st {D : va_G} {H : Heap} {S : TS} {a : Nat → Nat} {q u v : Nat} {cy : Nat → ClassId} {f : Nat → Option Nat} (hf : ∀ j, j < 8 → f j = some (adF S a q u v (σ0 4 j).toNat)) : Al D H (Fw S a q u v cy) [4] [(S.2.2.1.1 1, .inl (cy 4, 8, .inr (.inr (.inr (.inr f)))))] := by
  refine ⟨rfl, fun k i p e1 e2 => ?_⟩
  cases k with
  | succ k => simp at e1
  | zero =>
    cases e1
    cases e2
    rw [Fe4]
    refine ⟨rfl, fun h => ?_⟩
    have e : vp_cell (cy 4) (8, .inr (.inr (.inr (.inr f)))) = vp_cell (cy 4) (8, .inr (.inr (.inr (.inr (fun j => some (adF S a q u v (σ0 4 j).toNat)))))) := by
      rw [vp_cell_q, vp_cell_q]
      unfold arrV
      refine congrArg (fun x => ({ cls := cy 4, slots := x, vm := .none } : Cell)) ?_
      refine congrArg Array.ofFn (funext fun j => ?_)
      show va_rf (f j.val) = _
      rw [hf j.val j.isLt]
    unfold va_at at h ⊢
    simp only [] at h ⊢
    rw [← e]
    exact h
theorem al_6 {D : va_G} {H : Heap} {S : TS} {a : Nat → Nat} {q u v : Nat} {cy : Nat → ClassId} : Al D H (Fw S a q u v cy) id6 (blk_6 cy S.2.2.1) := by
  unfold id6 blk_6
  refine Al.app (Al.app (Al.app (Al.app (Al.app (Al.app (Al.app (Al.app (Al.app (Al.of ?_) (Al.st ?_)) (Al.of (bkE 5 (by decide)))) (Al.of (bkE 6 (by decide)))) (Al.of (bkE 7 (by decide)))) (Al.of (bkE 8 (by decide)))) (Al.of (bkE 9 (by decide)))) (Al.of (bkE 10 (by decide)))) (Al.of (bkE 11 (by decide)))) (Al.of (bkE 12 (by decide)))
  · rw [List.map_cons, List.map_nil, Fe3]
  · intro j hj
    match j, hj with
    | 0, _ => rfl
    | 1, _ => rfl
    | 2, _ => rfl
    | 3, _ => rfl
    | 4, _ => rfl
    | 5, _ => rfl
    | 6, _ => rfl
    | 7, _ => rfl
    | j + 8, h => exact absurd h (by omega)
theorem al_10 {D : va_G} {H : Heap} {S : TS} {a : Nat → Nat} {q u v : Nat} {cy : Nat → ClassId} : Al D H (Fw S a q u v cy) id10 (blk_10 cy S) := by
  unfold id10 blk_10
  refine (Al.app (Al.app (Al.app (Al.app (Al.app (Al.app (Al.app (Al.app (Al.app (Al.app (Al.app (Al.app (Al.app (Al.app (Al.app (Al.of ?_) (Al.of (bkE 0 (by decide)))) (Al.of (bkE 1 (by decide)))) (Al.of (bkE 2 (by decide)))) (Al.of ?_)) (Al.of (bkE 3 (by decide)))) (Al.of (bkE 4 (by decide)))) (Al.of ?_)) al_6) (Al.of ?_)) (Al.of ?_)) (Al.of ?_)) (Al.of ?_)) (Al.of ?_)) (Al.of ?_)) (Al.of ?_))
  · simp only [List.map_cons, List.map_nil, Fe0]
  · simp only [List.map_cons, List.map_nil, Fe1]
  · simp only [List.map_cons, List.map_nil, Fe2]
  · simp only [List.map_cons, List.map_nil, blk_9, Fe5, Fe6]
  · simp only [List.map_cons, List.map_nil, blk_0, Fe7, Fe8, Fe9, Fe10, Fe11]
  · simp only [List.map_cons, List.map_nil, blk_5, Fe12, Fe13]
  · simp only [List.map_cons, List.map_nil, blk_4, Fe14, Fe15, Fe16, Fe17, Fe18, Fe19, Fe20, Fe21, Fe22]
  · simp only [List.map_cons, List.map_nil, blk_8, Fe23, Fe24, Fe25, Fe26, Fe27, Fe28, Fe29, Fe30, Fe31]
  · simp only [List.map_cons, List.map_nil, blk_7, Fe32, Fe33, Fe34, Fe35]
  · simp only [List.map_cons, List.map_nil, blk_2, Fe36]
theorem al_T {D : va_G} {H : Heap} {S : TS} {a : Nat → Nat} {q u v : Nat} {cy : Nat → ClassId} : Al D H (Fw S a q u v cy) idsT (wsT S a q cy) := by
  unfold idsT wsT
  refine Al.app (Al.app al_10 (Al.of ?_)) (Al.of ?_)
  · simp only [List.map_cons, List.map_nil, blk_11, Fe300, Fe301, Fe302, Fe304, Fe310, Fe311, Fe312, Fe313, Fe316, Fe320, Fe321, Fe322, Fe323, Fe325, Fe327, Fe328, Fe331, Fe332]
  · simp only [List.map_cons, List.map_nil, Fe340]
theorem wd_world {D : va_G} {S : TS} {a : Nat → Nat} {q u v : Nat} {cy : Nat → ClassId} {A : Nat → Prop} {H : Heap} (hP : va_P D vwCl (wsT S a q cy) H) (hD : va_D A (wsT S a q cy)) : va_P D vwCl (wd (adF S a q u v) cy σ0) H ∧ apart (adF S a q u v) ∧ ∀ i, i ∈ ids → A (adF S a q u v i) := by
  have hA : Al D H (Fw S a q u v cy) idsT (wsT S a q cy) := al_T
  have key : ∀ i, i ∈ ids → ∃ (k : Nat) (p : Nat × va_E), idsT[k]? = some i ∧ (wsT S a q cy)[k]? = some p ∧ adF S a q u v i = p.1 ∧ (va_at D vwCl p H → va_at D vwCl (Fw S a q u v cy i) H) := by
    intro i hi
    obtain ⟨k, hk⟩ := List.mem_iff_getElem?.mp (idsT_in i hi)
    have hl : k < (wsT S a q cy).length := hA.1 ▸ (List.getElem?_eq_some_iff.mp hk).1
    exact ⟨k, _, hk, List.getElem?_eq_getElem hl, (hA.2 k i _ hk (List.getElem?_eq_getElem hl)).1, (hA.2 k i _ hk (List.getElem?_eq_getElem hl)).2⟩
  refine ⟨fun k p hp => ?_, fun i j hi hj e => ?_, fun i hi => ?_⟩
  · unfold wd at hp
    rw [List.getElem?_map] at hp
    cases e : ids[k]? with
    | none => rw [e] at hp; simp at hp
    | some i =>
      rw [e] at hp
      cases hp
      obtain ⟨k2, p2, h1, h2, h3, h4⟩ := key i (List.mem_of_getElem? e)
      exact h4 (hP k2 p2 h2)
  · obtain ⟨k1, p1, h1, h2, h3, -⟩ := key i hi
    obtain ⟨k2, p2, g1, g2, g3, -⟩ := key j hj
    have := hD.1 k1 k2 p1 p2 h2 g2 (by rw [← h3, ← g3, e])
    subst this
    exact Option.some.inj (h1.symm.trans g1)
  · obtain ⟨k1, p1, h1, h2, h3, -⟩ := key i hi
    rw [h3]
    exact hD.2 k1 p1 h2
