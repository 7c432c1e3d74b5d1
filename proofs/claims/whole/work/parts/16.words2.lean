theorem q_1615 : Cond.fieldLink RJ0 38 "java/lang/String" "COMPACT_STRINGS" "Z" ∈ gtw := gtw_in (List.mem_of_getElem? (i := 1615) (by decide +kernel)) (by decide +kernel)
theorem q_1746 : Cond.fieldLink RJ0 15 "java/lang/String" "coder" "B" ∈ gtw := gtw_in (List.mem_of_getElem? (i := 1746) (by decide +kernel)) (by decide +kernel)
theorem q_1747 : Cond.fieldLink RJ0 9 "java/lang/String" "value" "[B" ∈ gtw := gtw_in (List.mem_of_getElem? (i := 1747) (by decide +kernel)) (by decide +kernel)
theorem q_1624 : Cond.code yJ0_coder_7d493 cJ0_coder_7d493 1 (some .byte) ∈ gtw := gtw_in (List.mem_of_getElem? (i := 1624) (by decide +kernel)) (by decide +kernel)
theorem q_1621 : Cond.methodLink RJ0 335 yJ0_coder_7d493 ∈ gtw := gtw_in (List.mem_of_getElem? (i := 1621) (by decide +kernel)) (by decide +kernel)
theorem q_1622 : Cond.instanceMethod yJ0_coder_7d493 ∈ gtw := gtw_in (List.mem_of_getElem? (i := 1622) (by decide +kernel)) (by decide +kernel)
theorem q_1623 : Cond.selects RJ0 yJ0_coder_7d493 yJ0_coder_7d493 ∈ gtw := gtw_in (List.mem_of_getElem? (i := 1623) (by decide +kernel)) (by decide +kernel)
theorem q_113 : Cond.initialized RJ0 ∈ gtw := gtw_in (List.mem_of_getElem? (i := 113) (by decide +kernel)) (by decide +kernel)
theorem q_1630 : Cond.code yJ1_canEncode_9a6ad cJ1_canEncode_9a6ad 1 (some .boolean) ∈ gtw := gtw_in (List.mem_of_getElem? (i := 1630) (by decide +kernel)) (by decide +kernel)
theorem q_1628 : Cond.methodLink RJ1 88 yJ1_canEncode_9a6ad ∈ gtw := gtw_in (List.mem_of_getElem? (i := 1628) (by decide +kernel)) (by decide +kernel)
theorem q_1629 : Cond.static yJ1_canEncode_9a6ad ∈ gtw := gtw_in (List.mem_of_getElem? (i := 1629) (by decide +kernel)) (by decide +kernel)
theorem q_114 : Cond.initialized RJ1 ∈ gtw := gtw_in (List.mem_of_getElem? (i := 114) (by decide +kernel)) (by decide +kernel)
theorem q_1631 : Cond.methodLink RJ1 92 Lib.Math.max.name ∈ gtw := gtw_in (List.mem_of_getElem? (i := 1631) (by decide +kernel)) (by decide +kernel)
theorem q_1632 : Cond.methodLink RJ1 38 Lib.Math.min.name ∈ gtw := gtw_in (List.mem_of_getElem? (i := 1632) (by decide +kernel)) (by decide +kernel)
theorem q_1635 : Cond.code yJ1_indexOfChar_4cfef cJ1_indexOfChar_4cfef 6 (some .int) ∈ gtw := gtw_in (List.mem_of_getElem? (i := 1635) (by decide +kernel)) (by decide +kernel)
theorem q_1633 : Cond.methodLink RJ1 95 yJ1_indexOfChar_4cfef ∈ gtw := gtw_in (List.mem_of_getElem? (i := 1633) (by decide +kernel)) (by decide +kernel)
theorem q_1634 : Cond.static yJ1_indexOfChar_4cfef ∈ gtw := gtw_in (List.mem_of_getElem? (i := 1634) (by decide +kernel)) (by decide +kernel)
theorem q_1614 : Cond.code yJ0_isLatin1_aae02 cJ0_isLatin1_aae02 1 (some .boolean) ∈ gtw := gtw_in (List.mem_of_getElem? (i := 1614) (by decide +kernel)) (by decide +kernel)
theorem q_1611 : Cond.methodLink RJ0 492 yJ0_isLatin1_aae02 ∈ gtw := gtw_in (List.mem_of_getElem? (i := 1611) (by decide +kernel)) (by decide +kernel)
theorem q_1612 : Cond.instanceMethod yJ0_isLatin1_aae02 ∈ gtw := gtw_in (List.mem_of_getElem? (i := 1612) (by decide +kernel)) (by decide +kernel)
theorem q_1613 : Cond.selects RJ0 yJ0_isLatin1_aae02 yJ0_isLatin1_aae02 ∈ gtw := gtw_in (List.mem_of_getElem? (i := 1613) (by decide +kernel)) (by decide +kernel)
theorem q_1620 : Cond.code yJ0_length_8abf5 cJ0_length_8abf5 1 (some .int) ∈ gtw := gtw_in (List.mem_of_getElem? (i := 1620) (by decide +kernel)) (by decide +kernel)
theorem q_1617 : Cond.methodLink RJ0 505 yJ0_length_8abf5 ∈ gtw := gtw_in (List.mem_of_getElem? (i := 1617) (by decide +kernel)) (by decide +kernel)
theorem q_1618 : Cond.instanceMethod yJ0_length_8abf5 ∈ gtw := gtw_in (List.mem_of_getElem? (i := 1618) (by decide +kernel)) (by decide +kernel)
theorem q_1619 : Cond.selects RJ0 yJ0_length_8abf5 yJ0_length_8abf5 ∈ gtw := gtw_in (List.mem_of_getElem? (i := 1619) (by decide +kernel)) (by decide +kernel)
theorem q_1627 : Cond.code yJ1_indexOf_4cfef cJ1_indexOf_4cfef 4 (some .int) ∈ gtw := gtw_in (List.mem_of_getElem? (i := 1627) (by decide +kernel)) (by decide +kernel)
theorem q_1625 : Cond.methodLink RJ0 637 yJ1_indexOf_4cfef ∈ gtw := gtw_in (List.mem_of_getElem? (i := 1625) (by decide +kernel)) (by decide +kernel)
theorem q_1626 : Cond.static yJ1_indexOf_4cfef ∈ gtw := gtw_in (List.mem_of_getElem? (i := 1626) (by decide +kernel)) (by decide +kernel)
theorem q_1610 : Cond.code yJ0_indexOf_7cf53 cJ0_indexOf_7cf53 3 (some .int) ∈ gtw := gtw_in (List.mem_of_getElem? (i := 1610) (by decide +kernel)) (by decide +kernel)
theorem q_1607 : Cond.methodLink RJ0 633 yJ0_indexOf_7cf53 ∈ gtw := gtw_in (List.mem_of_getElem? (i := 1607) (by decide +kernel)) (by decide +kernel)
theorem q_1608 : Cond.instanceMethod yJ0_indexOf_7cf53 ∈ gtw := gtw_in (List.mem_of_getElem? (i := 1608) (by decide +kernel)) (by decide +kernel)
theorem q_1609 : Cond.selects RJ0 yJ0_indexOf_7cf53 yJ0_indexOf_7cf53 ∈ gtw := gtw_in (List.mem_of_getElem? (i := 1609) (by decide +kernel)) (by decide +kernel)
theorem q_1606 : Cond.code yJ0_indexOf_0f7a4 cJ0_indexOf_0f7a4 2 (some .int) ∈ gtw := gtw_in (List.mem_of_getElem? (i := 1606) (by decide +kernel)) (by decide +kernel)
theorem q_1603 : Cond.methodLink RX11 331 yJ0_indexOf_0f7a4 ∈ gtw := gtw_in (List.mem_of_getElem? (i := 1603) (by decide +kernel)) (by decide +kernel)
theorem q_1604 : Cond.instanceMethod yJ0_indexOf_0f7a4 ∈ gtw := gtw_in (List.mem_of_getElem? (i := 1604) (by decide +kernel)) (by decide +kernel)
theorem q_1605 : Cond.selects RJ0 yJ0_indexOf_0f7a4 yJ0_indexOf_0f7a4 ∈ gtw := gtw_in (List.mem_of_getElem? (i := 1605) (by decide +kernel)) (by decide +kernel)
theorem cw_RJ0_335 : CWV RJ0 335 RJ0 yJ0_coder_7d493 cJ0_coder_7d493 1 (some .byte) 0 := ⟨q_1621, q_1622, q_1623, q_113, q_1624, ⟨rfl, by decide, by decide, by decide +kernel⟩⟩
theorem cw_RJ1_88 : CWS RJ1 88 yJ1_canEncode_9a6ad cJ1_canEncode_9a6ad 1 (some .boolean) 1 := ⟨q_1628, q_1629, q_114, q_1630, ⟨rfl, by decide, by decide, by decide +kernel⟩⟩
theorem cw_RJ1_95 : CWS RJ1 95 yJ1_indexOfChar_4cfef cJ1_indexOfChar_4cfef 6 (some .int) 4 := ⟨q_1633, q_1634, q_114, q_1635, ⟨rfl, by decide, by decide, by decide +kernel⟩⟩
theorem cw_RJ0_492 : CWV RJ0 492 RJ0 yJ0_isLatin1_aae02 cJ0_isLatin1_aae02 1 (some .boolean) 0 := ⟨q_1611, q_1612, q_1613, q_113, q_1614, ⟨rfl, by decide, by decide, by decide +kernel⟩⟩
theorem cw_RJ0_505 : CWV RJ0 505 RJ0 yJ0_length_8abf5 cJ0_length_8abf5 1 (some .int) 0 := ⟨q_1617, q_1618, q_1619, q_113, q_1620, ⟨rfl, by decide, by decide, by decide +kernel⟩⟩
theorem cw_RJ0_637 : CWJ RJ0 637 yJ1_indexOf_4cfef cJ1_indexOf_4cfef 4 (some .int) 4 := ⟨q_1625, q_1626, q_114, q_1627, ⟨by decide, by decide, by decide +kernel⟩⟩
theorem cw_RJ0_633 : CWV RJ0 633 RJ0 yJ0_indexOf_7cf53 cJ0_indexOf_7cf53 3 (some .int) 2 := ⟨q_1607, q_1608, q_1609, q_113, q_1610, ⟨rfl, by decide, by decide, by decide +kernel⟩⟩
theorem cw_RX11_331 : CWV RX11 331 RJ0 yJ0_indexOf_0f7a4 cJ0_indexOf_0f7a4 2 (some .int) 1 := ⟨q_1603, q_1604, q_1605, q_113, q_1606, ⟨rfl, by decide, by decide, by decide +kernel⟩⟩
