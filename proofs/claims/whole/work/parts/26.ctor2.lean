def CWI (own : String) (index : Nat) (y : MethodName) (cc2 : ByteArray) (nL2 : Nat) : Prop := Cond.methodLink own index y ∈ gtw ∧ Cond.instanceMethod y ∈ gtw ∧ Cond.code y cc2 nL2 none ∈ gtw ∧ Cond.initialized y.cls ∈ gtw ∧ y.name = "<init>" ∧ (y.cls ≠ "java/lang/invoke/MethodHandle" ∧ y.cls ≠ "java/lang/invoke/VarHandle" ∧ (parseMethodDescriptor y.desc).map (fun d => d.parameters.length) = some 0)
def CWIN (own : String) (index : Nat) (y : MethodName) (cc2 : ByteArray) (nL2 : Nat) : Prop := Cond.methodLinkNest own index y "TrustClub" ∈ nwL ∧ Cond.instanceMethod y ∈ gtw ∧ Cond.code y cc2 nL2 none ∈ gtw ∧ Cond.initialized y.cls ∈ gtw ∧ y.name = "<init>" ∧ (y.cls ≠ "java/lang/invoke/MethodHandle" ∧ y.cls ≠ "java/lang/invoke/VarHandle" ∧ (parseMethodDescriptor y.desc).map (fun d => d.parameters.length) = some 0)
theorem blindC (av : List Value) (D : va_G) (cy : Nat → ClassId) (w : va_W) (sz : Nat) : FrameBlind (va_Pc av (fun U => U.heap.size = sz ∧ va_P D vwCl w U.heap ∧ va_K D vwCl (tysL cy) U ∧ nwP U ∧ aoP U)) := by
  intro a U g mk h
  obtain ⟨h1, h2, h3, h4, h5, h6⟩ := h
  exact ⟨h1, h2, h3, va_K.moved (u := U) (U := U.calling g mk a) (Vm.Alike.refl U.vm) h4, h5.same rfl, h6.moved (U := U.calling g mk a) (Vm.Alike.refl U.vm)⟩
section CROWS2
variable {E : TC} {cc : ByteArray} {nL : Nat} {own : String} {fr lo kc nc : Nat} {ws ws' W : va_W} {k n pc : Nat} {lv lv' : List (Nat × Value)} {st : List Value}
theorem c_call {y : MethodName} {cc2 : ByteArray} {nL2 fr2 lo2 mc ms ci index q : Nat} {fs0 : List Value} {S : Type} {o0 : S → Nat} {blk : (Nat → ClassId) → S → va_W} (hM : MC y cc2 nL2 fr2 lo2 mc ms ci fs0 o0 blk) (hw : CWI own index y cc2 nL2) (hf1 : fr2 + 1 ≤ fr) (hf2 : 8 + (nL2 + 11) + lo2 ≤ lo) (h8 : (st.map fun v => v.category).sum ≤ 8) (hk : k + mc ≤ kc) (hs : n + ms ≤ nc) (hd : decode cc pc = .ok (.invokespecial index, 3)) (kk : ∀ a : S, o0 a = q → GC E cc nL own fr lo kc nc (W ++ blk (cyE E) a) (k + mc) (n + ms) (pc + 3) lv st) : GC E cc nL own fr lo kc nc (W ++ [(q, .inr (ci, fs0))]) k n pc lv (.ref q :: st) := by
  obtain ⟨p, l, e, R, s, m, args, below, meth, c, Q, D, cy, A⟩ := E
  intro H locs ls F hP hD hS hl
  obtain ⟨hx, hb, hml, hown, hts, hK, hN2, hAO, hA, hfr, hlo, hkc, hnc⟩ := id F
  obtain ⟨w1, w2, w3, w4, w5, w6⟩ := hw
  have hlast : (W ++ [(q, (.inr (ci, fs0) : va_E))])[W.length]? = some (q, .inr (ci, fs0)) := by simp
  have hPc : va_P D vwCl [(q, .inr (ci, fs0))] H := fun i p hi => by
    cases i with
    | zero => simp at hi; rw [← hi]; exact hP _ _ hlast
    | succ i => simp at hi
  have hFc : ∀ z, va_A [(q, .inr (ci, fs0))] H.size z → A z := by
    intro z hz
    rcases hz with ⟨i, e0, hi⟩ | hz
    · cases i with
      | zero => simp at hi; rw [← hi.1]; exact hD.2 _ _ hlast
      | succ i => simp at hi
    · exact hA z (Nat.le_trans hS.1 hz)
  refine va_callv (va_runI (As := []) (rest := st) ⟨hx, hb, hml, hown, hts⟩ (hM l D cy q H.size) (cwI 0 hts (gi_c w3) rfl rfl rfl (hts _ w4) (hts _ w1) (hts _ w2) w5 w6 ⟨by rw [hfr]; exact hf1, by rw [hlo]; exact hf2⟩) ⟨blindC _ D cy _ H.size, fun U hU hW => ⟨rfl, by rw [hU], by rw [hU]; exact hPc, va_K.moved hW.alike hK, hN2.warm hW, hAO.moved hW.alike⟩⟩ rfl rfl hl.1 rfl (lv_room h8) hd ⟨by rw [hkc]; exact hk, by rw [hnc]; exact hs⟩) hS (fun q _ h => hFc q h) hFc (fun a t H1 locs1 ht hvm hw hB hz1 hk1 hS1 => ?_)
  rw [ht] at hB
  obtain ⟨j1, j2⟩ := jn hP hD hk1 hFc hB.1 hB.2
  exact kk a hw H1 locs1 ls F j1 j2 hS1 hl
theorem c_callN {y : MethodName} {cc2 : ByteArray} {nL2 fr2 lo2 mc ms ci index q : Nat} {fs0 : List Value} {S : Type} {o0 : S → Nat} {blk : (Nat → ClassId) → S → va_W} (hM : MC y cc2 nL2 fr2 lo2 mc ms ci fs0 o0 blk) (hw : CWIN own index y cc2 nL2) (hf1 : fr2 + 1 ≤ fr) (hf2 : 8 + (nL2 + 11) + lo2 ≤ lo) (h8 : (st.map fun v => v.category).sum ≤ 8) (hk : k + mc ≤ kc) (hs : n + ms ≤ nc) (hd : decode cc pc = .ok (.invokespecial index, 3)) (kk : ∀ a : S, o0 a = q → GC E cc nL own fr lo kc nc (W ++ blk (cyE E) a) (k + mc) (n + ms) (pc + 3) lv st) : GC E cc nL own fr lo kc nc (W ++ [(q, .inr (ci, fs0))]) k n pc lv (.ref q :: st) := by
  obtain ⟨p, l, e, R, s, m, args, below, meth, c, Q, D, cy, A⟩ := E
  intro H locs ls F hP hD hS hl
  obtain ⟨hx, hb, hml, hown, hts, hK, hN2, hAO, hA, hfr, hlo, hkc, hnc⟩ := id F
  obtain ⟨w1, w2, w3, w4, w5, w6⟩ := hw
  have hlast : (W ++ [(q, (.inr (ci, fs0) : va_E))])[W.length]? = some (q, .inr (ci, fs0)) := by simp
  have hPc : va_P D vwCl [(q, .inr (ci, fs0))] H := fun i p hi => by
    cases i with
    | zero => simp at hi; rw [← hi]; exact hP _ _ hlast
    | succ i => simp at hi
  have hFc : ∀ z, va_A [(q, .inr (ci, fs0))] H.size z → A z := by
    intro z hz
    rcases hz with ⟨i, e0, hi⟩ | hz
    · cases i with
      | zero => simp at hi; rw [← hi.1]; exact hD.2 _ _ hlast
      | succ i => simp at hi
    · exact hA z (Nat.le_trans hS.1 hz)
  refine va_callv (va_runIN (As := []) (rest := st) ⟨hx, hb, hml, hown, hts⟩ (hM l D cy q H.size) ⟨va_cnB 0 hts (gi_c w3) rfl rfl rfl (hN2 _ w1) (hts _ w4) w6 ⟨by rw [hfr]; exact hf1, by rw [hlo]; exact hf2⟩, w5, hts _ w2⟩ ⟨blindC _ D cy _ H.size, fun U hU hW => ⟨rfl, by rw [hU], by rw [hU]; exact hPc, va_K.moved hW.alike hK, hN2.warm hW, hAO.moved hW.alike⟩⟩ rfl rfl hl.1 rfl (lv_room h8) hd ⟨by rw [hkc]; exact hk, by rw [hnc]; exact hs⟩) hS (fun q _ h => hFc q h) hFc (fun a t H1 locs1 ht hvm hw hB hz1 hk1 hS1 => ?_)
  rw [ht] at hB
  obtain ⟨j1, j2⟩ := jn hP hD hk1 hFc hB.1 hB.2
  exact kk a hw H1 locs1 ls F j1 j2 hS1 hl
/-- new int[5][64] in a world of one cell -/
theorem c_mna {x : Nat × va_E} {index : Nat} (hw : Cond.classLink own index ("[" ++ (FieldType.array .int).toString) ∈ gtw) (hw2 : Cond.arrayClass .int ∈ gtw) (hk : k + 6 ≤ kc) (hs : n + 325 ≤ nc) (hd : decode cc pc = .ok (.multianewarray index 2, 4)) (kk : ∀ (q : Nat) (r : Nat → Nat), GC E cc nL own fr lo kc nc [x, (q, .inl (cyE E 6, 5, .inr (.inr (.inr (.inr (fun i => if i < 5 then some (r i) else none)))))), (r 0, .inl (cyE E 0, 64, .inl (fun _ => 0))), (r 1, .inl (cyE E 0, 64, .inl (fun _ => 0))), (r 2, .inl (cyE E 0, 64, .inl (fun _ => 0))), (r 3, .inl (cyE E 0, 64, .inl (fun _ => 0))), (r 4, .inl (cyE E 0, 64, .inl (fun _ => 0)))] (k + 6) (n + 325) (pc + 4) lv (.ref q :: st)) : GC E cc nL own fr lo kc nc [x] k n pc lv (.int 64 :: .int 5 :: st) := by
  obtain ⟨p, l, e, R, s, m, args, below, meth, c, Q, D, cy, A⟩ := E
  intro H locs ls F hP hD hS hl
  obtain ⟨hx, hb, hml, hown, hts, hK, hN2, hAO, hA, hfr, hlo, hkc, hnc⟩ := id F
  have hcy : s.vm.findClass (FieldType.array .int).toString = some (cy 0) := (hK.2 0 _ rfl).2
  refine va_mna (X := [x]) (L := []) (f := fun _ => .inr (0, [])) (N' := 5) (K' := 64) (z := (64, .inl (fun _ => 0))) (ty := .int) hx hb hown (hts _ hw) hAO.2.2 (hts _ hw2) hcy hK hP hD hS hA (by decide) (by decide) rfl rfl (by decide) (by decide) (by decide) rfl rfl (by rw [hkc]; exact hk) (by rw [hnc]; exact hs) (fun c => ?_) hd (fun q r cA H1 hr1 hr2 hK1 hP1 hD1 hS1 => ?_)
  · show _ = vp_cell c (64, .inl (fun _ => 0))
    rw [vp_cell_i]
    exact arrV_new _ _ _
  · have e1 : cA = cy 6 := by
      have h1 := (hK.2 6 _ rfl).2
      have h2 := (hK1.2 7 _ rfl).2
      exact Option.some.inj (h2.symm.trans h1)
    subst e1
    have ew : ∀ w : va_W, va_pl ([] ++ (List.range 5).map r) (vr_up (fun _ => .inr (0, [])) ((List.range 5).map r) (.inl (cy 0, 64, .inl (fun _ => 0)))) = [(r 0, (.inl (cy 0, 64, .inl (fun _ => 0)) : va_E)), (r 1, .inl (cy 0, 64, .inl (fun _ => 0))), (r 2, .inl (cy 0, 64, .inl (fun _ => 0))), (r 3, .inl (cy 0, 64, .inl (fun _ => 0))), (r 4, .inl (cy 0, 64, .inl (fun _ => 0)))] := by
      intro _
      unfold va_pl
      rw [List.nil_append, List.map_map]
      have : (List.range 5).map ((fun a => (a, vr_up (fun _ => (.inr (0, []) : va_E)) ((List.range 5).map r) (.inl (cy 0, 64, .inl (fun _ => 0))) a)) ∘ r) = (List.range 5).map (fun i => (r i, (.inl (cy 0, 64, .inl (fun _ => 0)) : va_E))) := by
        apply List.map_congr_left
        intro i hi
        show (r i, _) = _
        rw [vr_up_in (List.mem_map.mpr ⟨i, hi, rfl⟩)]
      rw [this]
      rfl
    rw [ew []] at hP1 hD1
    exact kk q r H1 locs ls F hP1 hD1 hS1 hl
end CROWS2
