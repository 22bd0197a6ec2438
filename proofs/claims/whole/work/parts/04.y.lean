def rm_J6_bitCount_0f7a4 : Room := { frames := 0, cells := 0, slots := 0, locals := 0 }
def f_J6_bitCount_0f7a4 (bi : Int32) : Int32 := ((((((((bi - ((bi.toUInt32 >>> ((1 : Int32).toUInt32 &&& Int32.toUInt32 31)).toInt32 &&& 1431655765)) &&& 858993459) + (((bi - ((bi.toUInt32 >>> ((1 : Int32).toUInt32 &&& Int32.toUInt32 31)).toInt32 &&& 1431655765)).toUInt32 >>> ((2 : Int32).toUInt32 &&& Int32.toUInt32 31)).toInt32 &&& 858993459)) + ((((bi - ((bi.toUInt32 >>> ((1 : Int32).toUInt32 &&& Int32.toUInt32 31)).toInt32 &&& 1431655765)) &&& 858993459) + (((bi - ((bi.toUInt32 >>> ((1 : Int32).toUInt32 &&& Int32.toUInt32 31)).toInt32 &&& 1431655765)).toUInt32 >>> ((2 : Int32).toUInt32 &&& Int32.toUInt32 31)).toInt32 &&& 858993459)).toUInt32 >>> ((4 : Int32).toUInt32 &&& Int32.toUInt32 31)).toInt32) &&& 252645135) + ((((((bi - ((bi.toUInt32 >>> ((1 : Int32).toUInt32 &&& Int32.toUInt32 31)).toInt32 &&& 1431655765)) &&& 858993459) + (((bi - ((bi.toUInt32 >>> ((1 : Int32).toUInt32 &&& Int32.toUInt32 31)).toInt32 &&& 1431655765)).toUInt32 >>> ((2 : Int32).toUInt32 &&& Int32.toUInt32 31)).toInt32 &&& 858993459)) + ((((bi - ((bi.toUInt32 >>> ((1 : Int32).toUInt32 &&& Int32.toUInt32 31)).toInt32 &&& 1431655765)) &&& 858993459) + (((bi - ((bi.toUInt32 >>> ((1 : Int32).toUInt32 &&& Int32.toUInt32 31)).toInt32 &&& 1431655765)).toUInt32 >>> ((2 : Int32).toUInt32 &&& Int32.toUInt32 31)).toInt32 &&& 858993459)).toUInt32 >>> ((4 : Int32).toUInt32 &&& Int32.toUInt32 31)).toInt32) &&& 252645135).toUInt32 >>> ((8 : Int32).toUInt32 &&& Int32.toUInt32 31)).toInt32) + (((((((bi - ((bi.toUInt32 >>> ((1 : Int32).toUInt32 &&& Int32.toUInt32 31)).toInt32 &&& 1431655765)) &&& 858993459) + (((bi - ((bi.toUInt32 >>> ((1 : Int32).toUInt32 &&& Int32.toUInt32 31)).toInt32 &&& 1431655765)).toUInt32 >>> ((2 : Int32).toUInt32 &&& Int32.toUInt32 31)).toInt32 &&& 858993459)) + ((((bi - ((bi.toUInt32 >>> ((1 : Int32).toUInt32 &&& Int32.toUInt32 31)).toInt32 &&& 1431655765)) &&& 858993459) + (((bi - ((bi.toUInt32 >>> ((1 : Int32).toUInt32 &&& Int32.toUInt32 31)).toInt32 &&& 1431655765)).toUInt32 >>> ((2 : Int32).toUInt32 &&& Int32.toUInt32 31)).toInt32 &&& 858993459)).toUInt32 >>> ((4 : Int32).toUInt32 &&& Int32.toUInt32 31)).toInt32) &&& 252645135) + ((((((bi - ((bi.toUInt32 >>> ((1 : Int32).toUInt32 &&& Int32.toUInt32 31)).toInt32 &&& 1431655765)) &&& 858993459) + (((bi - ((bi.toUInt32 >>> ((1 : Int32).toUInt32 &&& Int32.toUInt32 31)).toInt32 &&& 1431655765)).toUInt32 >>> ((2 : Int32).toUInt32 &&& Int32.toUInt32 31)).toInt32 &&& 858993459)) + ((((bi - ((bi.toUInt32 >>> ((1 : Int32).toUInt32 &&& Int32.toUInt32 31)).toInt32 &&& 1431655765)) &&& 858993459) + (((bi - ((bi.toUInt32 >>> ((1 : Int32).toUInt32 &&& Int32.toUInt32 31)).toInt32 &&& 1431655765)).toUInt32 >>> ((2 : Int32).toUInt32 &&& Int32.toUInt32 31)).toInt32 &&& 858993459)).toUInt32 >>> ((4 : Int32).toUInt32 &&& Int32.toUInt32 31)).toInt32) &&& 252645135).toUInt32 >>> ((8 : Int32).toUInt32 &&& Int32.toUInt32 31)).toInt32).toUInt32 >>> ((16 : Int32).toUInt32 &&& Int32.toUInt32 31)).toInt32) &&& 63)
theorem hd_J6_bitCount_0f7a4 : yJ6_bitCount_0f7a4.cls ≠ "java/lang/invoke/MethodHandle" ∧ yJ6_bitCount_0f7a4.cls ≠ "java/lang/invoke/VarHandle" ∧ (parseMethodDescriptor yJ6_bitCount_0f7a4.desc).map (fun d => d.parameters.length) = some 1 := by decide +kernel
set_option maxHeartbeats 4000000 in
set_option maxRecDepth 100000 in
theorem c_J6_bitCount_0f7a4 (l : Launch) (D : va_G) (cI : ClassId) (bi : Int32) : MetR l yJ6_bitCount_0f7a4 wsJ6_bitCount_0f7a4 rm_J6_bitCount_0f7a4 D cI [.int bi] [] (some (.int (f_J6_bitCount_0f7a4 bi))) := by
  refine mR (cc := cJ6_bitCount_0f7a4) (maxL := 1) (ret := (some .int)) (by decide) rfl (Nat.le_of_ble_eq_true rfl) ?_
  intro p e s m args below meth c Q hx hb hr hml hown hts hlk hP hK hQ ls hl
  have hown : s.vm.findClass RJ6 = some m.cls := hown
  have hl : lv_has ls 1 [(0, .int bi)] := hl
  have w1 := hts (.constant RJ6 265 (1431655765)) (List.mem_of_getElem? (i := 1) rfl)
  have w2 := hts (.constant RJ6 266 (858993459)) (List.mem_of_getElem? (i := 2) rfl)
  have w3 := hts (.constant RJ6 267 (252645135)) (List.mem_of_getElem? (i := 3) rfl)
  refine lv_iload_n hx hb dJ6_bitCount_0f7a4_0 rfl (lv_at hl 0 rfl) ?_
  refine lv_iload_n hx hb dJ6_bitCount_0f7a4_1 rfl (lv_at hl 0 rfl) ?_
  refine lv_iconst (v := 1) hx hb dJ6_bitCount_0f7a4_2 (by decide) ?_
  refine lv_iushr (v := (bi.toUInt32 >>> ((1 : Int32).toUInt32 &&& Int32.toUInt32 31)).toInt32) hx hb dJ6_bitCount_0f7a4_3 rfl ?_
  refine lv_ldcw (v := 1431655765) hx hb hown w1 dJ6_bitCount_0f7a4_4 ?_
  refine lv_iand hx hb dJ6_bitCount_0f7a4_7 ?_
  refine lv_isub hx hb dJ6_bitCount_0f7a4_8 ?_
  refine lv_istore_n (lv' := [(0, .int (bi - ((bi.toUInt32 >>> ((1 : Int32).toUInt32 &&& Int32.toUInt32 31)).toInt32 &&& 1431655765)))]) hx hb dJ6_bitCount_0f7a4_9 rfl hl (by decide) rfl (fun ls hl => ?_)
  refine lv_iload_n hx hb dJ6_bitCount_0f7a4_10 rfl (lv_at hl 0 rfl) ?_
  refine lv_ldcw (v := 858993459) hx hb hown w2 dJ6_bitCount_0f7a4_11 ?_
  refine lv_iand hx hb dJ6_bitCount_0f7a4_14 ?_
  refine lv_iload_n hx hb dJ6_bitCount_0f7a4_15 rfl (lv_at hl 0 rfl) ?_
  refine lv_iconst (v := 2) hx hb dJ6_bitCount_0f7a4_16 (by decide) ?_
  refine lv_iushr (v := ((bi - ((bi.toUInt32 >>> ((1 : Int32).toUInt32 &&& Int32.toUInt32 31)).toInt32 &&& 1431655765)).toUInt32 >>> ((2 : Int32).toUInt32 &&& Int32.toUInt32 31)).toInt32) hx hb dJ6_bitCount_0f7a4_17 rfl ?_
  refine lv_ldcw (v := 858993459) hx hb hown w2 dJ6_bitCount_0f7a4_18 ?_
  refine lv_iand hx hb dJ6_bitCount_0f7a4_21 ?_
  refine lv_iadd hx hb dJ6_bitCount_0f7a4_22 ?_
  refine lv_istore_n (lv' := [(0, .int (((bi - ((bi.toUInt32 >>> ((1 : Int32).toUInt32 &&& Int32.toUInt32 31)).toInt32 &&& 1431655765)) &&& 858993459) + (((bi - ((bi.toUInt32 >>> ((1 : Int32).toUInt32 &&& Int32.toUInt32 31)).toInt32 &&& 1431655765)).toUInt32 >>> ((2 : Int32).toUInt32 &&& Int32.toUInt32 31)).toInt32 &&& 858993459)))]) hx hb dJ6_bitCount_0f7a4_23 rfl hl (by decide) rfl (fun ls hl => ?_)
  refine lv_iload_n hx hb dJ6_bitCount_0f7a4_24 rfl (lv_at hl 0 rfl) ?_
  refine lv_iload_n hx hb dJ6_bitCount_0f7a4_25 rfl (lv_at hl 0 rfl) ?_
  refine lv_iconst (v := 4) hx hb dJ6_bitCount_0f7a4_26 (by decide) ?_
  refine lv_iushr (v := ((((bi - ((bi.toUInt32 >>> ((1 : Int32).toUInt32 &&& Int32.toUInt32 31)).toInt32 &&& 1431655765)) &&& 858993459) + (((bi - ((bi.toUInt32 >>> ((1 : Int32).toUInt32 &&& Int32.toUInt32 31)).toInt32 &&& 1431655765)).toUInt32 >>> ((2 : Int32).toUInt32 &&& Int32.toUInt32 31)).toInt32 &&& 858993459)).toUInt32 >>> ((4 : Int32).toUInt32 &&& Int32.toUInt32 31)).toInt32) hx hb dJ6_bitCount_0f7a4_27 rfl ?_
  refine lv_iadd hx hb dJ6_bitCount_0f7a4_28 ?_
  refine lv_ldcw (v := 252645135) hx hb hown w3 dJ6_bitCount_0f7a4_29 ?_
  refine lv_iand hx hb dJ6_bitCount_0f7a4_32 ?_
  refine lv_istore_n (lv' := [(0, .int (((((bi - ((bi.toUInt32 >>> ((1 : Int32).toUInt32 &&& Int32.toUInt32 31)).toInt32 &&& 1431655765)) &&& 858993459) + (((bi - ((bi.toUInt32 >>> ((1 : Int32).toUInt32 &&& Int32.toUInt32 31)).toInt32 &&& 1431655765)).toUInt32 >>> ((2 : Int32).toUInt32 &&& Int32.toUInt32 31)).toInt32 &&& 858993459)) + ((((bi - ((bi.toUInt32 >>> ((1 : Int32).toUInt32 &&& Int32.toUInt32 31)).toInt32 &&& 1431655765)) &&& 858993459) + (((bi - ((bi.toUInt32 >>> ((1 : Int32).toUInt32 &&& Int32.toUInt32 31)).toInt32 &&& 1431655765)).toUInt32 >>> ((2 : Int32).toUInt32 &&& Int32.toUInt32 31)).toInt32 &&& 858993459)).toUInt32 >>> ((4 : Int32).toUInt32 &&& Int32.toUInt32 31)).toInt32) &&& 252645135))]) hx hb dJ6_bitCount_0f7a4_33 rfl hl (by decide) rfl (fun ls hl => ?_)
  refine lv_iload_n hx hb dJ6_bitCount_0f7a4_34 rfl (lv_at hl 0 rfl) ?_
  refine lv_iload_n hx hb dJ6_bitCount_0f7a4_35 rfl (lv_at hl 0 rfl) ?_
  refine lv_bipush (v := 8) hx hb dJ6_bitCount_0f7a4_36 (by decide) ?_
  refine lv_iushr (v := ((((((bi - ((bi.toUInt32 >>> ((1 : Int32).toUInt32 &&& Int32.toUInt32 31)).toInt32 &&& 1431655765)) &&& 858993459) + (((bi - ((bi.toUInt32 >>> ((1 : Int32).toUInt32 &&& Int32.toUInt32 31)).toInt32 &&& 1431655765)).toUInt32 >>> ((2 : Int32).toUInt32 &&& Int32.toUInt32 31)).toInt32 &&& 858993459)) + ((((bi - ((bi.toUInt32 >>> ((1 : Int32).toUInt32 &&& Int32.toUInt32 31)).toInt32 &&& 1431655765)) &&& 858993459) + (((bi - ((bi.toUInt32 >>> ((1 : Int32).toUInt32 &&& Int32.toUInt32 31)).toInt32 &&& 1431655765)).toUInt32 >>> ((2 : Int32).toUInt32 &&& Int32.toUInt32 31)).toInt32 &&& 858993459)).toUInt32 >>> ((4 : Int32).toUInt32 &&& Int32.toUInt32 31)).toInt32) &&& 252645135).toUInt32 >>> ((8 : Int32).toUInt32 &&& Int32.toUInt32 31)).toInt32) hx hb dJ6_bitCount_0f7a4_38 rfl ?_
  refine lv_iadd hx hb dJ6_bitCount_0f7a4_39 ?_
  refine lv_istore_n (lv' := [(0, .int ((((((bi - ((bi.toUInt32 >>> ((1 : Int32).toUInt32 &&& Int32.toUInt32 31)).toInt32 &&& 1431655765)) &&& 858993459) + (((bi - ((bi.toUInt32 >>> ((1 : Int32).toUInt32 &&& Int32.toUInt32 31)).toInt32 &&& 1431655765)).toUInt32 >>> ((2 : Int32).toUInt32 &&& Int32.toUInt32 31)).toInt32 &&& 858993459)) + ((((bi - ((bi.toUInt32 >>> ((1 : Int32).toUInt32 &&& Int32.toUInt32 31)).toInt32 &&& 1431655765)) &&& 858993459) + (((bi - ((bi.toUInt32 >>> ((1 : Int32).toUInt32 &&& Int32.toUInt32 31)).toInt32 &&& 1431655765)).toUInt32 >>> ((2 : Int32).toUInt32 &&& Int32.toUInt32 31)).toInt32 &&& 858993459)).toUInt32 >>> ((4 : Int32).toUInt32 &&& Int32.toUInt32 31)).toInt32) &&& 252645135) + ((((((bi - ((bi.toUInt32 >>> ((1 : Int32).toUInt32 &&& Int32.toUInt32 31)).toInt32 &&& 1431655765)) &&& 858993459) + (((bi - ((bi.toUInt32 >>> ((1 : Int32).toUInt32 &&& Int32.toUInt32 31)).toInt32 &&& 1431655765)).toUInt32 >>> ((2 : Int32).toUInt32 &&& Int32.toUInt32 31)).toInt32 &&& 858993459)) + ((((bi - ((bi.toUInt32 >>> ((1 : Int32).toUInt32 &&& Int32.toUInt32 31)).toInt32 &&& 1431655765)) &&& 858993459) + (((bi - ((bi.toUInt32 >>> ((1 : Int32).toUInt32 &&& Int32.toUInt32 31)).toInt32 &&& 1431655765)).toUInt32 >>> ((2 : Int32).toUInt32 &&& Int32.toUInt32 31)).toInt32 &&& 858993459)).toUInt32 >>> ((4 : Int32).toUInt32 &&& Int32.toUInt32 31)).toInt32) &&& 252645135).toUInt32 >>> ((8 : Int32).toUInt32 &&& Int32.toUInt32 31)).toInt32))]) hx hb dJ6_bitCount_0f7a4_40 rfl hl (by decide) rfl (fun ls hl => ?_)
  refine lv_iload_n hx hb dJ6_bitCount_0f7a4_41 rfl (lv_at hl 0 rfl) ?_
  refine lv_iload_n hx hb dJ6_bitCount_0f7a4_42 rfl (lv_at hl 0 rfl) ?_
  refine lv_bipush (v := 16) hx hb dJ6_bitCount_0f7a4_43 (by decide) ?_
  refine lv_iushr (v := (((((((bi - ((bi.toUInt32 >>> ((1 : Int32).toUInt32 &&& Int32.toUInt32 31)).toInt32 &&& 1431655765)) &&& 858993459) + (((bi - ((bi.toUInt32 >>> ((1 : Int32).toUInt32 &&& Int32.toUInt32 31)).toInt32 &&& 1431655765)).toUInt32 >>> ((2 : Int32).toUInt32 &&& Int32.toUInt32 31)).toInt32 &&& 858993459)) + ((((bi - ((bi.toUInt32 >>> ((1 : Int32).toUInt32 &&& Int32.toUInt32 31)).toInt32 &&& 1431655765)) &&& 858993459) + (((bi - ((bi.toUInt32 >>> ((1 : Int32).toUInt32 &&& Int32.toUInt32 31)).toInt32 &&& 1431655765)).toUInt32 >>> ((2 : Int32).toUInt32 &&& Int32.toUInt32 31)).toInt32 &&& 858993459)).toUInt32 >>> ((4 : Int32).toUInt32 &&& Int32.toUInt32 31)).toInt32) &&& 252645135) + ((((((bi - ((bi.toUInt32 >>> ((1 : Int32).toUInt32 &&& Int32.toUInt32 31)).toInt32 &&& 1431655765)) &&& 858993459) + (((bi - ((bi.toUInt32 >>> ((1 : Int32).toUInt32 &&& Int32.toUInt32 31)).toInt32 &&& 1431655765)).toUInt32 >>> ((2 : Int32).toUInt32 &&& Int32.toUInt32 31)).toInt32 &&& 858993459)) + ((((bi - ((bi.toUInt32 >>> ((1 : Int32).toUInt32 &&& Int32.toUInt32 31)).toInt32 &&& 1431655765)) &&& 858993459) + (((bi - ((bi.toUInt32 >>> ((1 : Int32).toUInt32 &&& Int32.toUInt32 31)).toInt32 &&& 1431655765)).toUInt32 >>> ((2 : Int32).toUInt32 &&& Int32.toUInt32 31)).toInt32 &&& 858993459)).toUInt32 >>> ((4 : Int32).toUInt32 &&& Int32.toUInt32 31)).toInt32) &&& 252645135).toUInt32 >>> ((8 : Int32).toUInt32 &&& Int32.toUInt32 31)).toInt32).toUInt32 >>> ((16 : Int32).toUInt32 &&& Int32.toUInt32 31)).toInt32) hx hb dJ6_bitCount_0f7a4_45 rfl ?_
  refine lv_iadd hx hb dJ6_bitCount_0f7a4_46 ?_
  refine lv_istore_n (lv' := [(0, .int (((((((bi - ((bi.toUInt32 >>> ((1 : Int32).toUInt32 &&& Int32.toUInt32 31)).toInt32 &&& 1431655765)) &&& 858993459) + (((bi - ((bi.toUInt32 >>> ((1 : Int32).toUInt32 &&& Int32.toUInt32 31)).toInt32 &&& 1431655765)).toUInt32 >>> ((2 : Int32).toUInt32 &&& Int32.toUInt32 31)).toInt32 &&& 858993459)) + ((((bi - ((bi.toUInt32 >>> ((1 : Int32).toUInt32 &&& Int32.toUInt32 31)).toInt32 &&& 1431655765)) &&& 858993459) + (((bi - ((bi.toUInt32 >>> ((1 : Int32).toUInt32 &&& Int32.toUInt32 31)).toInt32 &&& 1431655765)).toUInt32 >>> ((2 : Int32).toUInt32 &&& Int32.toUInt32 31)).toInt32 &&& 858993459)).toUInt32 >>> ((4 : Int32).toUInt32 &&& Int32.toUInt32 31)).toInt32) &&& 252645135) + ((((((bi - ((bi.toUInt32 >>> ((1 : Int32).toUInt32 &&& Int32.toUInt32 31)).toInt32 &&& 1431655765)) &&& 858993459) + (((bi - ((bi.toUInt32 >>> ((1 : Int32).toUInt32 &&& Int32.toUInt32 31)).toInt32 &&& 1431655765)).toUInt32 >>> ((2 : Int32).toUInt32 &&& Int32.toUInt32 31)).toInt32 &&& 858993459)) + ((((bi - ((bi.toUInt32 >>> ((1 : Int32).toUInt32 &&& Int32.toUInt32 31)).toInt32 &&& 1431655765)) &&& 858993459) + (((bi - ((bi.toUInt32 >>> ((1 : Int32).toUInt32 &&& Int32.toUInt32 31)).toInt32 &&& 1431655765)).toUInt32 >>> ((2 : Int32).toUInt32 &&& Int32.toUInt32 31)).toInt32 &&& 858993459)).toUInt32 >>> ((4 : Int32).toUInt32 &&& Int32.toUInt32 31)).toInt32) &&& 252645135).toUInt32 >>> ((8 : Int32).toUInt32 &&& Int32.toUInt32 31)).toInt32) + (((((((bi - ((bi.toUInt32 >>> ((1 : Int32).toUInt32 &&& Int32.toUInt32 31)).toInt32 &&& 1431655765)) &&& 858993459) + (((bi - ((bi.toUInt32 >>> ((1 : Int32).toUInt32 &&& Int32.toUInt32 31)).toInt32 &&& 1431655765)).toUInt32 >>> ((2 : Int32).toUInt32 &&& Int32.toUInt32 31)).toInt32 &&& 858993459)) + ((((bi - ((bi.toUInt32 >>> ((1 : Int32).toUInt32 &&& Int32.toUInt32 31)).toInt32 &&& 1431655765)) &&& 858993459) + (((bi - ((bi.toUInt32 >>> ((1 : Int32).toUInt32 &&& Int32.toUInt32 31)).toInt32 &&& 1431655765)).toUInt32 >>> ((2 : Int32).toUInt32 &&& Int32.toUInt32 31)).toInt32 &&& 858993459)).toUInt32 >>> ((4 : Int32).toUInt32 &&& Int32.toUInt32 31)).toInt32) &&& 252645135) + ((((((bi - ((bi.toUInt32 >>> ((1 : Int32).toUInt32 &&& Int32.toUInt32 31)).toInt32 &&& 1431655765)) &&& 858993459) + (((bi - ((bi.toUInt32 >>> ((1 : Int32).toUInt32 &&& Int32.toUInt32 31)).toInt32 &&& 1431655765)).toUInt32 >>> ((2 : Int32).toUInt32 &&& Int32.toUInt32 31)).toInt32 &&& 858993459)) + ((((bi - ((bi.toUInt32 >>> ((1 : Int32).toUInt32 &&& Int32.toUInt32 31)).toInt32 &&& 1431655765)) &&& 858993459) + (((bi - ((bi.toUInt32 >>> ((1 : Int32).toUInt32 &&& Int32.toUInt32 31)).toInt32 &&& 1431655765)).toUInt32 >>> ((2 : Int32).toUInt32 &&& Int32.toUInt32 31)).toInt32 &&& 858993459)).toUInt32 >>> ((4 : Int32).toUInt32 &&& Int32.toUInt32 31)).toInt32) &&& 252645135).toUInt32 >>> ((8 : Int32).toUInt32 &&& Int32.toUInt32 31)).toInt32).toUInt32 >>> ((16 : Int32).toUInt32 &&& Int32.toUInt32 31)).toInt32))]) hx hb dJ6_bitCount_0f7a4_47 rfl hl (by decide) rfl (fun ls hl => ?_)
  refine lv_iload_n hx hb dJ6_bitCount_0f7a4_48 rfl (lv_at hl 0 rfl) ?_
  refine lv_bipush (v := 63) hx hb dJ6_bitCount_0f7a4_49 (by decide) ?_
  refine lv_iand hx hb dJ6_bitCount_0f7a4_51 ?_
  exact eRi hx hb hr hlk hQ dJ6_bitCount_0f7a4_52 (Eq.symm (by simp only [f_J6_bitCount_0f7a4]))

def rm_X4_hasOffice : Room := { frames := 0, cells := 0, slots := 0, locals := 0 }
def f_X4_hasOffice (nl : Nat) : Int32 := (if nI nl ≤ 0 then 0 else 1)
theorem hd_X4_hasOffice : yX4_hasOffice.cls = RX4 ∧ yX4_hasOffice.cls ≠ "java/lang/invoke/MethodHandle" ∧ yX4_hasOffice.cls ≠ "java/lang/invoke/VarHandle" ∧ (parseMethodDescriptor yX4_hasOffice.desc).map (fun d => d.parameters.length) = some 0 := by decide +kernel
set_option maxHeartbeats 4000000 in
set_option maxRecDepth 100000 in
theorem c_X4_hasOffice (l : Launch) (D : va_G) (cI : ClassId) (aO aP aL aLk aLh aLs aE aK aY aN aS : Nat) (ik : Int32) (ofr : Int32) (rd : Int32) (nl : Nat) (hn : nl ≤ 6) : MetR l yX4_hasOffice wsX4_hasOffice rm_X4_hasOffice D cI [.ref aO] [(aO, .inr (4, [.ref aP, .ref aL, .ref aE, .ref aK, .ref aY, .ref aN, .ref aS, .int ik, .int ofr, .int rd])), (aL, .inr (1, [.ref aLk, .ref aLh, .ref aLs, .int (nI nl)]))] (some (.int (f_X4_hasOffice nl))) := by
  refine mR (cc := cX4_hasOffice) (maxL := 1) (ret := (some .boolean)) (by decide) rfl (Nat.le_of_ble_eq_true rfl) ?_
  intro p e s m args below meth c Q hx hb hr hml hown hts hlk hP hK hQ ls hl
  have hown : s.vm.findClass RX4 = some m.cls := hown
  have hl : lv_has ls 1 [(0, .ref aO)] := hl
  have w1 := hts (.fieldLink RX4 19 "DarkOffice" "lamps" "LDarkOffice$Lamps;") (List.mem_of_getElem? (i := 1) rfl)
  have uX4 : ∀ w ∈ wsX40, w ∈ wsX4_hasOffice := fun _ h => List.mem_cons_of_mem _ (List.mem_append_left _ (List.mem_append_right _ h))
  have w2 := hts (.fieldLink RX4 77 "DarkOffice$Lamps" "size" "I") (List.mem_of_getElem? (i := 2) rfl)
  have uX1 : ∀ w ∈ wsX10, w ∈ wsX4_hasOffice := fun _ h => List.mem_cons_of_mem _ (List.mem_append_right _ h)
  refine lv_aload_n hx hb dX4_hasOffice_0 rfl (lv_at hl 0 rfl) ?_
  refine va_get (D := D) (ci := 4) (v := .ref aL) (C := RX4) (T := TX4) (N := 10) hx hb hts uX4 hown hK hP 0 rfl rfl 1 (by decide) w1 (fun _ h9 => h9) rfl dX4_hasOffice_1 ?_
  refine va_get (D := D) (ci := 1) (v := .int (nI nl)) (C := RX1) (T := TX1) (N := 4) hx hb hts uX1 hown hK hP 1 rfl rfl 3 (by decide) w2 (fun _ h9 => h9) rfl dX4_hasOffice_4 ?_
  refine lv_if_le (tgt := 14) hx hb dX4_hasOffice_7 (by decide) (fun c1 => ?_) (fun c1 => ?_)
  · have q1 : nl ≤ 0 := nle_d (a := nl) (b := 0) rfl rfl (by omega) (by omega) c1
    refine lv_iconst (v := 0) hx hb dX4_hasOffice_14 (by decide) ?_
    exact eRz hx hb hr hlk hQ dX4_hasOffice_15 rfl (Eq.symm (by simp only [f_X4_hasOffice, if_pos c1]))
  · have q1 : 0 < nl := nle_e (a := nl) (b := 0) rfl rfl (by omega) (by omega) c1
    refine lv_iconst (v := 1) hx hb dX4_hasOffice_10 (by decide) ?_
    refine lv_goto (tgt := 15) hx hb dX4_hasOffice_11 (by decide) ?_
    exact eRz hx hb hr hlk hQ dX4_hasOffice_15 rfl (Eq.symm (by simp only [f_X4_hasOffice, if_neg c1]))

def rm_X4_isLamp : Room := { frames := 0, cells := 0, slots := 0, locals := 0 }
def f_X4_isLamp (nl : Nat) (number : Int32) : Int32 := (if number < 0 then 0 else (if nI nl ≤ number then 0 else 1))
theorem hd_X4_isLamp : yX4_isLamp.cls = RX4 ∧ yX4_isLamp.cls ≠ "java/lang/invoke/MethodHandle" ∧ yX4_isLamp.cls ≠ "java/lang/invoke/VarHandle" ∧ (parseMethodDescriptor yX4_isLamp.desc).map (fun d => d.parameters.length) = some 1 := by decide +kernel
set_option maxHeartbeats 4000000 in
set_option maxRecDepth 100000 in
theorem c_X4_isLamp (l : Launch) (D : va_G) (cI : ClassId) (aO aP aL aLk aLh aLs aE aK aY aN aS : Nat) (ik : Int32) (ofr : Int32) (rd : Int32) (nl : Nat) (number : Int32) (hn : nl ≤ 6) : MetR l yX4_isLamp wsX4_isLamp rm_X4_isLamp D cI [.ref aO, .int number] [(aO, .inr (4, [.ref aP, .ref aL, .ref aE, .ref aK, .ref aY, .ref aN, .ref aS, .int ik, .int ofr, .int rd])), (aL, .inr (1, [.ref aLk, .ref aLh, .ref aLs, .int (nI nl)]))] (some (.int (f_X4_isLamp nl number))) := by
  refine mR (cc := cX4_isLamp) (maxL := 2) (ret := (some .boolean)) (by decide) rfl (Nat.le_of_ble_eq_true rfl) ?_
  intro p e s m args below meth c Q hx hb hr hml hown hts hlk hP hK hQ ls hl
  have hown : s.vm.findClass RX4 = some m.cls := hown
  have hl : lv_has ls 2 [(0, .ref aO), (1, .int number)] := hl
  have w1 := hts (.fieldLink RX4 19 "DarkOffice" "lamps" "LDarkOffice$Lamps;") (List.mem_of_getElem? (i := 1) rfl)
  have uX4 : ∀ w ∈ wsX40, w ∈ wsX4_isLamp := fun _ h => List.mem_cons_of_mem _ (List.mem_append_left _ (List.mem_append_right _ h))
  have w2 := hts (.fieldLink RX4 77 "DarkOffice$Lamps" "size" "I") (List.mem_of_getElem? (i := 2) rfl)
  have uX1 : ∀ w ∈ wsX10, w ∈ wsX4_isLamp := fun _ h => List.mem_cons_of_mem _ (List.mem_append_right _ h)
  refine lv_iload_n hx hb dX4_isLamp_0 rfl (lv_at hl 1 rfl) ?_
  refine lv_if_lt (tgt := 19) hx hb dX4_isLamp_1 (by decide) (fun c1 => ?_) (fun c1 => ?_)
  · refine lv_iconst (v := 0) hx hb dX4_isLamp_19 (by decide) ?_
    exact eRz hx hb hr hlk hQ dX4_isLamp_20 rfl (Eq.symm (by simp only [f_X4_isLamp, if_pos c1]))
  · refine lv_iload_n hx hb dX4_isLamp_4 rfl (lv_at hl 1 rfl) ?_
    refine lv_aload_n hx hb dX4_isLamp_5 rfl (lv_at hl 0 rfl) ?_
    refine va_get (D := D) (ci := 4) (v := .ref aL) (C := RX4) (T := TX4) (N := 10) hx hb hts uX4 hown hK hP 0 rfl rfl 1 (by decide) w1 (fun _ h9 => h9) rfl dX4_isLamp_6 ?_
    refine va_get (D := D) (ci := 1) (v := .int (nI nl)) (C := RX1) (T := TX1) (N := 4) hx hb hts uX1 hown hK hP 1 rfl rfl 3 (by decide) w2 (fun _ h9 => h9) rfl dX4_isLamp_9 ?_
    refine lv_icmp_ge (tgt := 19) hx hb dX4_isLamp_12 (by decide) (fun c2 => ?_) (fun c2 => ?_)
    · refine lv_iconst (v := 0) hx hb dX4_isLamp_19 (by decide) ?_
      exact eRz hx hb hr hlk hQ dX4_isLamp_20 rfl (Eq.symm (by simp only [f_X4_isLamp, if_neg c1, if_pos c2]))
    · refine lv_iconst (v := 1) hx hb dX4_isLamp_15 (by decide) ?_
      refine lv_goto (tgt := 20) hx hb dX4_isLamp_16 (by decide) ?_
      exact eRz hx hb hr hlk hQ dX4_isLamp_20 rfl (Eq.symm (by simp only [f_X4_isLamp, if_neg c1, if_neg c2]))

def rm_X4_isPerson : Room := { frames := 0, cells := 0, slots := 0, locals := 0 }
def f_X4_isPerson (pe : Nat) (number : Int32) : Int32 := (if number < 0 then 0 else (if nI pe ≤ number then 0 else 1))
theorem hd_X4_isPerson : yX4_isPerson.cls = RX4 ∧ yX4_isPerson.cls ≠ "java/lang/invoke/MethodHandle" ∧ yX4_isPerson.cls ≠ "java/lang/invoke/VarHandle" ∧ (parseMethodDescriptor yX4_isPerson.desc).map (fun d => d.parameters.length) = some 1 := by decide +kernel
set_option maxHeartbeats 4000000 in
set_option maxRecDepth 100000 in
theorem c_X4_isPerson (l : Launch) (D : va_G) (cI : ClassId) (aO aP aL aE aEs aEw aEd aEl aEt aK aY aN aS : Nat) (ik : Int32) (ofr : Int32) (rd : Int32) (li : Int32) (mi : Int32) (pe : Nat) (to : Int32) (number : Int32) (hpe : pe ≤ 4) : MetR l yX4_isPerson wsX4_isPerson rm_X4_isPerson D cI [.ref aO, .int number] [(aO, .inr (4, [.ref aP, .ref aL, .ref aE, .ref aK, .ref aY, .ref aN, .ref aS, .int ik, .int ofr, .int rd])), (aE, .inr (0, [.int li, .int mi, .int (nI pe), .ref aEs, .ref aEw, .ref aEd, .int to, .ref aEl, .ref aEt]))] (some (.int (f_X4_isPerson pe number))) := by
  refine mR (cc := cX4_isPerson) (maxL := 2) (ret := (some .boolean)) (by decide) rfl (Nat.le_of_ble_eq_true rfl) ?_
  intro p e s m args below meth c Q hx hb hr hml hown hts hlk hP hK hQ ls hl
  have hown : s.vm.findClass RX4 = some m.cls := hown
  have hl : lv_has ls 2 [(0, .ref aO), (1, .int number)] := hl
  have w1 := hts (.fieldLink RX4 26 "DarkOffice" "now" "LDarkOffice$Evening;") (List.mem_of_getElem? (i := 1) rfl)
  have uX4 : ∀ w ∈ wsX40, w ∈ wsX4_isPerson := fun _ h => List.mem_cons_of_mem _ (List.mem_append_left _ (List.mem_append_right _ h))
  have w2 := hts (.fieldLink RX4 125 "DarkOffice$Evening" "people" "I") (List.mem_of_getElem? (i := 2) rfl)
  have uX0 : ∀ w ∈ wsX00, w ∈ wsX4_isPerson := fun _ h => List.mem_cons_of_mem _ (List.mem_append_right _ h)
  refine lv_iload_n hx hb dX4_isPerson_0 rfl (lv_at hl 1 rfl) ?_
  refine lv_if_lt (tgt := 19) hx hb dX4_isPerson_1 (by decide) (fun c1 => ?_) (fun c1 => ?_)
  · refine lv_iconst (v := 0) hx hb dX4_isPerson_19 (by decide) ?_
    exact eRz hx hb hr hlk hQ dX4_isPerson_20 rfl (Eq.symm (by simp only [f_X4_isPerson, if_pos c1]))
  · refine lv_iload_n hx hb dX4_isPerson_4 rfl (lv_at hl 1 rfl) ?_
    refine lv_aload_n hx hb dX4_isPerson_5 rfl (lv_at hl 0 rfl) ?_
    refine va_get (D := D) (ci := 4) (v := .ref aE) (C := RX4) (T := TX4) (N := 10) hx hb hts uX4 hown hK hP 0 rfl rfl 2 (by decide) w1 (fun _ h9 => h9) rfl dX4_isPerson_6 ?_
    refine va_get (D := D) (ci := 0) (v := .int (nI pe)) (C := RX0) (T := TX0) (N := 9) hx hb hts uX0 hown hK hP 1 rfl rfl 2 (by decide) w2 (fun _ h9 => h9) rfl dX4_isPerson_9 ?_
    refine lv_icmp_ge (tgt := 19) hx hb dX4_isPerson_12 (by decide) (fun c2 => ?_) (fun c2 => ?_)
    · refine lv_iconst (v := 0) hx hb dX4_isPerson_19 (by decide) ?_
      exact eRz hx hb hr hlk hQ dX4_isPerson_20 rfl (Eq.symm (by simp only [f_X4_isPerson, if_neg c1, if_pos c2]))
    · refine lv_iconst (v := 1) hx hb dX4_isPerson_15 (by decide) ?_
      refine lv_goto (tgt := 20) hx hb dX4_isPerson_16 (by decide) ?_
      exact eRz hx hb hr hlk hQ dX4_isPerson_20 rfl (Eq.symm (by simp only [f_X4_isPerson, if_neg c1, if_neg c2]))

theorem vin_lamp {nl : Nat} {x : Int32} (hn : nl ≤ 6) (h : ¬ f_X4_isLamp nl x = 0) : vp_in x 6 := by
  unfold f_X4_isLamp at h
  by_cases h1 : x < 0
  · rw [if_pos h1] at h; exact absurd rfl h
  · rw [if_neg h1] at h
    by_cases h2 : nI nl ≤ x
    · rw [if_pos h2] at h; exact absurd rfl h
    · obtain ⟨j, hj, rfl⟩ := nI_of h1
      exact vp_in_nI (by have := nle_e (A := nI nl) rfl rfl (by omega) hj h2; omega) (by decide)
theorem vin_pers {pe : Nat} {x : Int32} (hn : pe ≤ 4) (h : ¬ f_X4_isPerson pe x = 0) : vp_in x 4 := by
  unfold f_X4_isPerson at h
  by_cases h1 : x < 0
  · rw [if_pos h1] at h; exact absurd rfl h
  · rw [if_neg h1] at h
    by_cases h2 : nI pe ≤ x
    · rw [if_pos h2] at h; exact absurd rfl h
    · obtain ⟨j, hj, rfl⟩ := nI_of h1
      exact vp_in_nI (by have := nle_e (A := nI pe) rfl rfl (by omega) hj h2; omega) (by decide)

def rm_X4_asksMinute : Room := { frames := 0, cells := 0, slots := 0, locals := 0 }
def f_X4_asksMinute (longest : Int32) (what : Int32) : Int32 := (if what < 10 then 0 else (if (10 + longest) ≤ what then 0 else 1))
theorem hd_X4_asksMinute : yX4_asksMinute.cls ≠ "java/lang/invoke/MethodHandle" ∧ yX4_asksMinute.cls ≠ "java/lang/invoke/VarHandle" ∧ (parseMethodDescriptor yX4_asksMinute.desc).map (fun d => d.parameters.length) = some 2 := by decide +kernel
set_option maxHeartbeats 4000000 in
set_option maxRecDepth 100000 in
theorem c_X4_asksMinute (l : Launch) (D : va_G) (cI : ClassId) (longest : Int32) (what : Int32) : MetR l yX4_asksMinute wsX4_asksMinute rm_X4_asksMinute D cI [.int what, .int longest] [] (some (.int (f_X4_asksMinute longest what))) := by
  refine mR (cc := cX4_asksMinute) (maxL := 2) (ret := (some .boolean)) (by decide) rfl (Nat.le_of_ble_eq_true rfl) ?_
  intro p e s m args below meth c Q hx hb hr hml hown hts hlk hP hK hQ ls hl
  have hown : s.vm.findClass RX4 = some m.cls := hown
  have hl : lv_has ls 2 [(0, .int what), (1, .int longest)] := hl
  refine lv_iload_n hx hb dX4_asksMinute_0 rfl (lv_at hl 0 rfl) ?_
  refine lv_bipush (v := 10) hx hb dX4_asksMinute_1 (by decide) ?_
  refine lv_icmp_lt (tgt := 18) hx hb dX4_asksMinute_3 (by decide) (fun c1 => ?_) (fun c1 => ?_)
  · refine lv_iconst (v := 0) hx hb dX4_asksMinute_18 (by decide) ?_
    exact eRz hx hb hr hlk hQ dX4_asksMinute_19 rfl (Eq.symm (by simp only [f_X4_asksMinute, if_pos c1]))
  · refine lv_iload_n hx hb dX4_asksMinute_6 rfl (lv_at hl 0 rfl) ?_
    refine lv_bipush (v := 10) hx hb dX4_asksMinute_7 (by decide) ?_
    refine lv_iload_n hx hb dX4_asksMinute_9 rfl (lv_at hl 1 rfl) ?_
    refine lv_iadd hx hb dX4_asksMinute_10 ?_
    refine lv_icmp_ge (tgt := 18) hx hb dX4_asksMinute_11 (by decide) (fun c2 => ?_) (fun c2 => ?_)
    · refine lv_iconst (v := 0) hx hb dX4_asksMinute_18 (by decide) ?_
      exact eRz hx hb hr hlk hQ dX4_asksMinute_19 rfl (Eq.symm (by simp only [f_X4_asksMinute, if_neg c1, if_pos c2]))
    · refine lv_iconst (v := 1) hx hb dX4_asksMinute_14 (by decide) ?_
      refine lv_goto (tgt := 19) hx hb dX4_asksMinute_15 (by decide) ?_
      exact eRz hx hb hr hlk hQ dX4_asksMinute_19 rfl (Eq.symm (by simp only [f_X4_asksMinute, if_neg c1, if_neg c2]))

def rm_X4_ofMinute : Room := { frames := 0, cells := 0, slots := 0, locals := 0 }
def f_X4_ofMinute (fr : Nat → Int32) (fl : Nat) (minutes : Int32) (what : Int32) : Int32 := (if (what - 10) < 0 then (-1) else (if minutes ≤ (what - 10) then (-1) else (if nI fl ≤ (what - 10) then (-1) else (fr (what - 10).toNatClampNeg))))
theorem hd_X4_ofMinute : yX4_ofMinute.cls ≠ "java/lang/invoke/MethodHandle" ∧ yX4_ofMinute.cls ≠ "java/lang/invoke/VarHandle" ∧ (parseMethodDescriptor yX4_ofMinute.desc).map (fun d => d.parameters.length) = some 3 := by decide +kernel
set_option maxHeartbeats 4000000 in
set_option maxRecDepth 100000 in
theorem c_X4_ofMinute (l : Launch) (D : va_G) (cI : ClassId) (aF : Nat) (fr : Nat → Int32) (fl : Nat) (minutes : Int32) (what : Int32) (hfl : fl ≤ 7) : MetR l yX4_ofMinute wsX4_ofMinute rm_X4_ofMinute D cI [.ref aF, .int minutes, .int what] [(aF, .inl (cI, fl, .inl fr))] (some (.int (f_X4_ofMinute fr fl minutes what))) := by
  refine mR (cc := cX4_ofMinute) (maxL := 4) (ret := (some .int)) (by decide) rfl (Nat.le_of_ble_eq_true rfl) ?_
  intro p e s m args below meth c Q hx hb hr hml hown hts hlk hP hK hQ ls hl
  have hown : s.vm.findClass RX4 = some m.cls := hown
  have hl : lv_has ls 4 [(0, .ref aF), (1, .int minutes), (2, .int what)] := hl
  refine lv_iload_n hx hb dX4_ofMinute_0 rfl (lv_at hl 2 rfl) ?_
  refine lv_bipush (v := 10) hx hb dX4_ofMinute_1 (by decide) ?_
  refine lv_isub hx hb dX4_ofMinute_3 ?_
  refine lv_istore_n (lv' := [(3, .int (what - 10)), (0, .ref aF), (1, .int minutes), (2, .int what)]) hx hb dX4_ofMinute_4 rfl hl (by decide) rfl (fun ls hl => ?_)
  refine lv_iload_n hx hb dX4_ofMinute_5 rfl (lv_at hl 0 rfl) ?_
  refine lv_if_lt (tgt := 26) hx hb dX4_ofMinute_6 (by decide) (fun c1 => ?_) (fun c1 => ?_)
  · refine lv_iconst (v := (-1)) hx hb dX4_ofMinute_26 (by decide) ?_
    exact eRi hx hb hr hlk hQ dX4_ofMinute_27 (Eq.symm (by simp only [f_X4_ofMinute, if_pos c1]))
  · refine lv_iload_n hx hb dX4_ofMinute_9 rfl (lv_at hl 0 rfl) ?_
    refine lv_iload_n hx hb dX4_ofMinute_10 rfl (lv_at hl 2 rfl) ?_
    refine lv_icmp_ge (tgt := 26) hx hb dX4_ofMinute_11 (by decide) (fun c2 => ?_) (fun c2 => ?_)
    · refine lv_iconst (v := (-1)) hx hb dX4_ofMinute_26 (by decide) ?_
      exact eRi hx hb hr hlk hQ dX4_ofMinute_27 (Eq.symm (by simp only [f_X4_ofMinute, if_neg c1, if_pos c2]))
    · refine lv_iload_n hx hb dX4_ofMinute_14 rfl (lv_at hl 0 rfl) ?_
      refine lv_aload_n hx hb dX4_ofMinute_15 rfl (lv_at hl 1 rfl) ?_
      refine va_alen (v := nI fl) hx hb hK hP 0 0 rfl rfl rfl dX4_ofMinute_16 ?_
      refine lv_icmp_ge (tgt := 26) hx hb dX4_ofMinute_17 (by decide) (fun c3 => ?_) (fun c3 => ?_)
      · refine lv_iconst (v := (-1)) hx hb dX4_ofMinute_26 (by decide) ?_
        exact eRi hx hb hr hlk hQ dX4_ofMinute_27 (Eq.symm (by simp only [f_X4_ofMinute, if_neg c1, if_neg c2, if_pos c3]))
      · refine lv_aload_n hx hb dX4_ofMinute_20 rfl (lv_at hl 1 rfl) ?_
        refine lv_iload_n hx hb dX4_ofMinute_21 rfl (lv_at hl 0 rfl) ?_
        refine va_iald hx hb hK hP 0 0 rfl rfl (vin_nI c1 c3 (by omega)) dX4_ofMinute_22 ?_
        refine lv_goto (tgt := 27) hx hb dX4_ofMinute_23 (by decide) ?_
        exact eRi hx hb hr hlk hQ dX4_ofMinute_27 (Eq.symm (by simp only [f_X4_ofMinute, if_neg c1, if_neg c2, if_neg c3]))

def rm_X4_nextSeed : Room := { frames := 0, cells := 0, slots := 0, locals := 0 }
def f_X4_nextSeed (seed : Int32) : Int32 := (((1103515245 * seed) + 12345) &&& 2147483647)
theorem hd_X4_nextSeed : yX4_nextSeed.cls ≠ "java/lang/invoke/MethodHandle" ∧ yX4_nextSeed.cls ≠ "java/lang/invoke/VarHandle" ∧ (parseMethodDescriptor yX4_nextSeed.desc).map (fun d => d.parameters.length) = some 1 := by decide +kernel
set_option maxHeartbeats 4000000 in
set_option maxRecDepth 100000 in
theorem c_X4_nextSeed (l : Launch) (D : va_G) (cI : ClassId) (seed : Int32) : MetR l yX4_nextSeed wsX4_nextSeed rm_X4_nextSeed D cI [.int seed] [] (some (.int (f_X4_nextSeed seed))) := by
  refine mR (cc := cX4_nextSeed) (maxL := 1) (ret := (some .int)) (by decide) rfl (Nat.le_of_ble_eq_true rfl) ?_
  intro p e s m args below meth c Q hx hb hr hml hown hts hlk hP hK hQ ls hl
  have hown : s.vm.findClass RX4 = some m.cls := hown
  have hl : lv_has ls 1 [(0, .int seed)] := hl
  have w1 := hts (.constant RX4 236 (1103515245)) (List.mem_of_getElem? (i := 1) rfl)
  have w2 := hts (.constant RX4 237 (2147483647)) (List.mem_of_getElem? (i := 2) rfl)
  refine lv_ldc (v := 1103515245) hx hb hown w1 dX4_nextSeed_0 ?_
  refine lv_iload_n hx hb dX4_nextSeed_2 rfl (lv_at hl 0 rfl) ?_
  refine lv_imul hx hb dX4_nextSeed_3 ?_
  refine lv_sipush (v := 12345) hx hb dX4_nextSeed_4 (by decide) ?_
  refine lv_iadd hx hb dX4_nextSeed_7 ?_
  refine lv_ldc (v := 2147483647) hx hb hown w2 dX4_nextSeed_8 ?_
  refine lv_iand hx hb dX4_nextSeed_10 ?_
  exact eRi hx hb hr hlk hQ dX4_nextSeed_11 (Eq.symm (by simp only [f_X4_nextSeed]))

def rm_X4_draw : Room := { frames := 0, cells := 0, slots := 0, locals := 0 }
def f_X4_draw (seed : Int32) : Int32 := ((seed / 65536) - (seed / 65536) / 6 * 6)
theorem hd_X4_draw : yX4_draw.cls ≠ "java/lang/invoke/MethodHandle" ∧ yX4_draw.cls ≠ "java/lang/invoke/VarHandle" ∧ (parseMethodDescriptor yX4_draw.desc).map (fun d => d.parameters.length) = some 1 := by decide +kernel
set_option maxHeartbeats 4000000 in
set_option maxRecDepth 100000 in
theorem c_X4_draw (l : Launch) (D : va_G) (cI : ClassId) (seed : Int32) : MetR l yX4_draw wsX4_draw rm_X4_draw D cI [.int seed] [] (some (.int (f_X4_draw seed))) := by
  refine mR (cc := cX4_draw) (maxL := 1) (ret := (some .int)) (by decide) rfl (Nat.le_of_ble_eq_true rfl) ?_
  intro p e s m args below meth c Q hx hb hr hml hown hts hlk hP hK hQ ls hl
  have hown : s.vm.findClass RX4 = some m.cls := hown
  have hl : lv_has ls 1 [(0, .int seed)] := hl
  have w1 := hts (.constant RX4 238 (65536)) (List.mem_of_getElem? (i := 1) rfl)
  refine lv_iload_n hx hb dX4_draw_0 rfl (lv_at hl 0 rfl) ?_
  refine lv_ldc (v := 65536) hx hb hown w1 dX4_draw_1 ?_
  refine lv_idiv hx hb dX4_draw_3 (by decide) ?_
  refine lv_bipush (v := 6) hx hb dX4_draw_4 (by decide) ?_
  refine lv_irem hx hb dX4_draw_6 (by decide) ?_
  exact eRi hx hb hr hlk hQ dX4_draw_7 (Eq.symm (by simp only [f_X4_draw]))

def rm_X4_letter : Room := { frames := 1, cells := 0, slots := 0, locals := 21 }
def f_X4_letter (pl : Nat) (code : Int32) : Int32 := (if code < 1 then (-102) else (if code ≤ 126 then (f_X2_put pl) else (-102)))
def f_X4_letter_P_1 (pl : Nat) (code : Int32) : Int32 := (if code < 1 then nI pl else (if code ≤ 126 then (f_X2_put_P_1 pl) else nI pl))
def f_X4_letter_Pc (pl : Nat) (co : Nat → Int32) (code : Int32) : Nat → Int32 := (if code < 1 then co else (if code ≤ 126 then (f_X2_put_Pc pl co code) else co))
theorem hd_X4_letter : yX4_letter.cls = RX4 ∧ yX4_letter.cls ≠ "java/lang/invoke/MethodHandle" ∧ yX4_letter.cls ≠ "java/lang/invoke/VarHandle" ∧ (parseMethodDescriptor yX4_letter.desc).map (fun d => d.parameters.length) = some 1 := by decide +kernel
set_option maxHeartbeats 4000000 in
set_option maxRecDepth 100000 in
theorem c_X4_letter (l : Launch) (D : va_G) (cI : ClassId) (aO aP aPc aL aE aK aY aN aS : Nat) (ik : Int32) (ofr : Int32) (rd : Int32) (pl : Nat) (co : Nat → Int32) (code : Int32) (hpl : pl ≤ 20) : MetX l yX4_letter wsX4_letter rm_X4_letter D cI [.ref aO, .int code] [(aO, .inr (4, [.ref aP, .ref aL, .ref aE, .ref aK, .ref aY, .ref aN, .ref aS, .int ik, .int ofr, .int rd])), (aP, .inr (2, [.ref aPc, .int (nI pl)])), (aPc, .inl (cI, 20, .inl co))] (some (.int (f_X4_letter pl code))) [(aO, .inr (4, [.ref aP, .ref aL, .ref aE, .ref aK, .ref aY, .ref aN, .ref aS, .int ik, .int ofr, .int rd])), (aP, .inr (2, [.ref aPc, .int (f_X4_letter_P_1 pl code)])), (aPc, .inl (cI, 20, .inl (f_X4_letter_Pc pl co code)))] := by
  refine mX (cc := cX4_letter) (maxL := 2) (ret := (some .int)) (by decide) rfl (Nat.le_of_ble_eq_true rfl) ?_
  intro p e s m args below meth c Q A hx hb hr hml hown hts hlk hP hK hD hA hS hQ ls hl
  have hown : s.vm.findClass RX4 = some m.cls := hown
  have hl : lv_has ls 2 [(0, .ref aO), (1, .int code)] := hl
  have w1 := hts (.fieldLink RX4 10 "DarkOffice" "page" "LDarkOffice$Page;") (List.mem_of_getElem? (i := 1) rfl)
  have uX4 : ∀ w ∈ wsX40, w ∈ wsX4_letter := fun _ h => List.mem_cons_of_mem _ (List.mem_append_left _ (List.mem_append_right _ h))
  refine lv_iload_n hx hb dX4_letter_0 rfl (lv_at hl 1 rfl) ?_
  refine lv_iconst (v := 1) hx hb dX4_letter_1 (by decide) ?_
  refine lv_icmp_lt (tgt := 11) hx hb dX4_letter_2 (by decide) (fun c1 => ?_) (fun c1 => ?_)
  · refine lv_bipush (v := (-102)) hx hb dX4_letter_11 (by decide) ?_
    have e_P_1 : (f_X4_letter_P_1 pl code) = nI pl := (by simp only [f_X4_letter_P_1, if_pos c1])
    have e_Pc : (f_X4_letter_Pc pl co code) = co := (by simp only [f_X4_letter_Pc, if_pos c1])
    exact eXi hx hb hr hlk hQ (by rw [e_P_1, e_Pc]; exact hP) (by rw [e_P_1, e_Pc]; exact hD) hS dX4_letter_13 (Eq.symm (by simp only [f_X4_letter, if_pos c1]))
  · refine lv_iload_n hx hb dX4_letter_5 rfl (lv_at hl 1 rfl) ?_
    refine lv_bipush (v := 126) hx hb dX4_letter_6 (by decide) ?_
    refine lv_icmp_le (tgt := 14) hx hb dX4_letter_8 (by decide) (fun c2 => ?_) (fun c2 => ?_)
    · refine lv_aload_n hx hb dX4_letter_14 rfl (lv_at hl 0 rfl) ?_
      refine va_get (D := D) (ci := 4) (v := .ref aP) (C := RX4) (T := TX4) (N := 10) hx hb hts uX4 hown hK hP 0 rfl rfl 0 (by decide) w1 (fun _ h9 => h9) rfl dX4_letter_15 ?_
      refine lv_iload_n hx hb dX4_letter_18 rfl (lv_at hl 1 rfl) ?_
      refine xV (w2 := [(aO, .inr (4, [.ref aP, .ref aL, .ref aE, .ref aK, .ref aY, .ref aN, .ref aS, .int ik, .int ofr, .int rd])), (aP, .inr (2, [.ref aPc, .int (f_X2_put_P_1 pl)])), (aPc, .inl (cI, 20, .inl (f_X2_put_Pc pl co code)))]) ⟨hx, hb, hml, hown, hts⟩ (c_X2_put l D cI aP aPc pl co code hpl) (cwV 1 hts gX4_letter_X2_put rfl rfl rfl hd_X2_put ⟨Nat.le_of_ble_eq_true rfl, Nat.le_of_ble_eq_true rfl⟩) hK hP hD hS hA [1, 2] [0] [0, 1, 2] rfl rfl rfl rfl rfl (by decide) rfl rfl rfl 0 rfl rfl rfl rfl hl.1 (rest := []) (st' := [.int (f_X2_put pl)]) rfl rfl (Nat.le_of_ble_eq_true rfl) dX4_letter_19 ⟨Nat.zero_le _, Nat.zero_le _⟩ (fun H locs hP hD hS => ?_)
      have e_P_1 : (f_X4_letter_P_1 pl code) = (f_X2_put_P_1 pl) := (by simp only [f_X4_letter_P_1, if_neg c1, if_pos c2])
      have e_Pc : (f_X4_letter_Pc pl co code) = (f_X2_put_Pc pl co code) := (by simp only [f_X4_letter_Pc, if_neg c1, if_pos c2])
      exact eXi hx hb hr hlk hQ (by rw [e_P_1, e_Pc]; exact hP) (by rw [e_P_1, e_Pc]; exact hD) hS dX4_letter_22 (Eq.symm (by simp only [f_X4_letter, if_neg c1, if_pos c2]))
    · refine lv_bipush (v := (-102)) hx hb dX4_letter_11 (by decide) ?_
      have e_P_1 : (f_X4_letter_P_1 pl code) = nI pl := (by simp only [f_X4_letter_P_1, if_neg c1, if_neg c2])
      have e_Pc : (f_X4_letter_Pc pl co code) = co := (by simp only [f_X4_letter_Pc, if_neg c1, if_neg c2])
      exact eXi hx hb hr hlk hQ (by rw [e_P_1, e_Pc]; exact hP) (by rw [e_P_1, e_Pc]; exact hD) hS dX4_letter_13 (Eq.symm (by simp only [f_X4_letter, if_neg c1, if_neg c2]))

def rm_X4_blank : Room := { frames := 0, cells := 0, slots := 0, locals := 0 }
def f_X4_blank (pl : Nat) : Int32 := nI pl
theorem hd_X4_blank : yX4_blank.cls = RX4 ∧ yX4_blank.cls ≠ "java/lang/invoke/MethodHandle" ∧ yX4_blank.cls ≠ "java/lang/invoke/VarHandle" ∧ (parseMethodDescriptor yX4_blank.desc).map (fun d => d.parameters.length) = some 0 := by decide +kernel
set_option maxHeartbeats 4000000 in
set_option maxRecDepth 100000 in
theorem c_X4_blank (l : Launch) (D : va_G) (cI : ClassId) (aO aP aPc aL aE aK aY aN aS : Nat) (ik : Int32) (ofr : Int32) (rd : Int32) (pl : Nat) : MetX l yX4_blank wsX4_blank rm_X4_blank D cI [.ref aO] [(aO, .inr (4, [.ref aP, .ref aL, .ref aE, .ref aK, .ref aY, .ref aN, .ref aS, .int ik, .int ofr, .int rd])), (aP, .inr (2, [.ref aPc, .int (nI pl)]))] (some (.int (f_X4_blank pl))) [(aO, .inr (4, [.ref aP, .ref aL, .ref aE, .ref aK, .ref aY, .ref aN, .ref aS, .int ik, .int ofr, .int rd])), (aP, .inr (2, [.ref aPc, .int 0]))] := by
  refine mX (cc := cX4_blank) (maxL := 2) (ret := (some .int)) (by decide) rfl (Nat.le_of_ble_eq_true rfl) ?_
  intro p e s m args below meth c Q A hx hb hr hml hown hts hlk hP hK hD hA hS hQ ls hl
  have hown : s.vm.findClass RX4 = some m.cls := hown
  have hl : lv_has ls 2 [(0, .ref aO)] := hl
  have w1 := hts (.fieldLink RX4 10 "DarkOffice" "page" "LDarkOffice$Page;") (List.mem_of_getElem? (i := 1) rfl)
  have uX4 : ∀ w ∈ wsX40, w ∈ wsX4_blank := fun _ h => List.mem_cons_of_mem _ (List.mem_append_left _ (List.mem_append_right _ h))
  have w2 := hts (.fieldLink RX4 51 "DarkOffice$Page" "length" "I") (List.mem_of_getElem? (i := 2) rfl)
  have uX2 : ∀ w ∈ wsX20, w ∈ wsX4_blank := fun _ h => List.mem_cons_of_mem _ (List.mem_append_right _ h)
  refine lv_aload_n hx hb dX4_blank_0 rfl (lv_at hl 0 rfl) ?_
  refine va_get (D := D) (ci := 4) (v := .ref aP) (C := RX4) (T := TX4) (N := 10) hx hb hts uX4 hown hK hP 0 rfl rfl 0 (by decide) w1 (fun _ h9 => h9) rfl dX4_blank_1 ?_
  refine va_get (D := D) (ci := 2) (v := .int (nI pl)) (C := RX2) (T := TX2) (N := 2) hx hb hts uX2 hown hK hP 1 rfl rfl 1 (by decide) w2 (fun _ h9 => h9) rfl dX4_blank_4 ?_
  refine lv_istore_n (lv' := [(1, .int (nI pl)), (0, .ref aO)]) hx hb dX4_blank_7 rfl hl (by decide) rfl (fun ls hl => ?_)
  refine lv_aload_n hx hb dX4_blank_8 rfl (lv_at hl 1 rfl) ?_
  refine va_get (D := D) (ci := 4) (v := .ref aP) (C := RX4) (T := TX4) (N := 10) hx hb hts uX4 hown hK hP 0 rfl rfl 0 (by decide) w1 (fun _ h9 => h9) rfl dX4_blank_9 ?_
  refine lv_iconst (v := 0) hx hb dX4_blank_12 (by decide) ?_
  refine va_put (D := D) (ci := 2) (v := .int 0) (ty := .int) (C := RX2) (T := TX2) (N := 2) hx hb hts uX2 tyX2 tyX2_ok nmX2 hown hK hP hD hS 1 rfl rfl 1 (by decide) w2 (fun _ h9 => h9) rfl (by decide +kernel) rfl rfl (Nat.le_of_ble_eq_true rfl) dX4_blank_13 (fun H locs hP hD hS => ?_)
  have hP : va_P D vwCl [(aO, .inr (4, [.ref aP, .ref aL, .ref aE, .ref aK, .ref aY, .ref aN, .ref aS, .int ik, .int ofr, .int rd])), (aP, .inr (2, [.ref aPc, .int 0]))] H := hP
  have hD : va_D A [(aO, .inr (4, [.ref aP, .ref aL, .ref aE, .ref aK, .ref aY, .ref aN, .ref aS, .int ik, .int ofr, .int rd])), (aP, .inr (2, [.ref aPc, .int 0]))] := hD
  refine lv_iload_n hx hb dX4_blank_16 rfl (lv_at hl 0 rfl) ?_
  exact eXi hx hb hr hlk hQ hP hD hS dX4_blank_17 (Eq.symm (by simp only [f_X4_blank]))

def rm_X4_lamp : Room := { frames := 1, cells := 0, slots := 0, locals := 23 }
def f_X4_lamp (nl : Nat) (kd : Nat → Int32) (ho : Nat → Int32) (sn : Nat → Int32) (li : Int32) (pe : Nat) (sc : Nat → Int32) (lamp : Int32) (what : Int32) : Int32 := (if (f_X4_isLamp nl lamp) = 0 then (-101) else (if what = 0 then (kd lamp.toNatClampNeg) else (if what = 1 then (ho lamp.toNatClampNeg) else (if what = 2 then (f_X1_left lamp li) else (if what = 3 then (sn lamp.toNatClampNeg) else (if what = 4 then (f_X0_peopleIn pe sc lamp) else (if what = 5 then (f_X1_seeing nl sn lamp) else (-102))))))))
theorem hd_X4_lamp : yX4_lamp.cls = RX4 ∧ yX4_lamp.cls ≠ "java/lang/invoke/MethodHandle" ∧ yX4_lamp.cls ≠ "java/lang/invoke/VarHandle" ∧ (parseMethodDescriptor yX4_lamp.desc).map (fun d => d.parameters.length) = some 2 := by decide +kernel
set_option maxHeartbeats 4000000 in
set_option maxRecDepth 100000 in
theorem c_X4_lamp (l : Launch) (D : va_G) (cI : ClassId) (aO aP aL aLk aLh aLs aE aEs aEw aEd aEl aEt aK aY aN aS : Nat) (ik : Int32) (ofr : Int32) (rd : Int32) (nl : Nat) (kd : Nat → Int32) (ho : Nat → Int32) (sn : Nat → Int32) (li : Int32) (mi : Int32) (pe : Nat) (to : Int32) (sc : Nat → Int32) (lamp : Int32) (what : Int32) (hn : nl ≤ 6) (hpe : pe ≤ 4) : MetR l yX4_lamp wsX4_lamp rm_X4_lamp D cI [.ref aO, .int lamp, .int what] [(aO, .inr (4, [.ref aP, .ref aL, .ref aE, .ref aK, .ref aY, .ref aN, .ref aS, .int ik, .int ofr, .int rd])), (aL, .inr (1, [.ref aLk, .ref aLh, .ref aLs, .int (nI nl)])), (aLk, .inl (cI, 6, .inl kd)), (aLh, .inl (cI, 6, .inl ho)), (aLs, .inl (cI, 6, .inl sn)), (aE, .inr (0, [.int li, .int mi, .int (nI pe), .ref aEs, .ref aEw, .ref aEd, .int to, .ref aEl, .ref aEt])), (aEs, .inl (cI, 4, .inl sc))] (some (.int (f_X4_lamp nl kd ho sn li pe sc lamp what))) := by
  refine mR (cc := cX4_lamp) (maxL := 3) (ret := (some .int)) (by decide) rfl (Nat.le_of_ble_eq_true rfl) ?_
  intro p e s m args below meth c Q hx hb hr hml hown hts hlk hP hK hQ ls hl
  have hown : s.vm.findClass RX4 = some m.cls := hown
  have hl : lv_has ls 3 [(0, .ref aO), (1, .int lamp), (2, .int what)] := hl
  have w1 := hts (.fieldLink RX4 19 "DarkOffice" "lamps" "LDarkOffice$Lamps;") (List.mem_of_getElem? (i := 1) rfl)
  have uX4 : ∀ w ∈ wsX40, w ∈ wsX4_lamp := fun _ h => List.mem_cons_of_mem _ (List.mem_append_left _ (List.mem_append_left _ (List.mem_append_right _ h)))
  have w2 := hts (.fieldLink RX4 84 "DarkOffice$Lamps" "kinds" "[I") (List.mem_of_getElem? (i := 2) rfl)
  have uX1 : ∀ w ∈ wsX10, w ∈ wsX4_lamp := fun _ h => List.mem_cons_of_mem _ (List.mem_append_left _ (List.mem_append_right _ h))
  have w3 := hts (.fieldLink RX4 87 "DarkOffice$Lamps" "holds" "[I") (List.mem_of_getElem? (i := 3) rfl)
  have w4 := hts (.fieldLink RX4 26 "DarkOffice" "now" "LDarkOffice$Evening;") (List.mem_of_getElem? (i := 4) rfl)
  have w5 := hts (.fieldLink RX4 90 "DarkOffice$Evening" "lit" "I") (List.mem_of_getElem? (i := 5) rfl)
  have uX0 : ∀ w ∈ wsX00, w ∈ wsX4_lamp := fun _ h => List.mem_cons_of_mem _ (List.mem_append_right _ h)
  have w6 := hts (.fieldLink RX4 97 "DarkOffice$Lamps" "sees" "[I") (List.mem_of_getElem? (i := 6) rfl)
  refine lv_aload_n hx hb dX4_lamp_0 rfl (lv_at hl 0 rfl) ?_
  refine lv_iload_n hx hb dX4_lamp_1 rfl (lv_at hl 1 rfl) ?_
  refine rV ⟨hx, hb, hml, hown, hts⟩ (c_X4_isLamp l D cI aO aP aL aLk aLh aLs aE aK aY aN aS ik ofr rd nl lamp hn) (cwV 1 hts gX4_lamp_X4_isLamp rfl rfl rfl hd_X4_isLamp ⟨Nat.le_of_ble_eq_true rfl, Nat.le_of_ble_eq_true rfl⟩) hK (hP.sub [0, 1] rfl) 0 rfl rfl rfl rfl hl.1 (rest := []) (st' := [.int (f_X4_isLamp nl lamp)]) rfl rfl (Nat.le_of_ble_eq_true rfl) dX4_lamp_2 ⟨Nat.zero_le _, Nat.zero_le _⟩ ?_
  refine lv_if_ne (tgt := 11) hx hb dX4_lamp_5 (by decide) (fun c1 => ?_) (fun c1 => ?_)
  · refine lv_iload_n hx hb dX4_lamp_11 rfl (lv_at hl 2 rfl) ?_
    by_cases c2 : what = 0
    · refine lv_tableIn (off := 40) (tgt := 52) hx hb dX4_lamp_12 (by rw [c2]; decide) (by rw [c2]; decide) (by rw [c2]; rfl) (by decide) ?_
      refine lv_aload_n hx hb dX4_lamp_52 rfl (lv_at hl 0 rfl) ?_
      refine va_get (D := D) (ci := 4) (v := .ref aL) (C := RX4) (T := TX4) (N := 10) hx hb hts uX4 hown hK hP 0 rfl rfl 1 (by decide) w1 (fun _ h9 => h9) rfl dX4_lamp_53 ?_
      refine va_get (D := D) (ci := 1) (v := .ref aLk) (C := RX1) (T := TX1) (N := 4) hx hb hts uX1 hown hK hP 1 rfl rfl 0 (by decide) w2 (fun _ h9 => h9) rfl dX4_lamp_56 ?_
      refine lv_iload_n hx hb dX4_lamp_59 rfl (lv_at hl 1 rfl) ?_
      refine va_iald hx hb hK hP 2 0 rfl rfl (vin_lamp hn c1) dX4_lamp_60 ?_
      exact eRi hx hb hr hlk hQ dX4_lamp_61 (Eq.symm (by simp only [f_X4_lamp, if_neg c1, if_pos c2]))
    · by_cases c3 : what = 1
      · refine lv_tableIn (off := 50) (tgt := 62) hx hb dX4_lamp_12 (by rw [c3]; decide) (by rw [c3]; decide) (by rw [c3]; rfl) (by decide) ?_
        refine lv_aload_n hx hb dX4_lamp_62 rfl (lv_at hl 0 rfl) ?_
        refine va_get (D := D) (ci := 4) (v := .ref aL) (C := RX4) (T := TX4) (N := 10) hx hb hts uX4 hown hK hP 0 rfl rfl 1 (by decide) w1 (fun _ h9 => h9) rfl dX4_lamp_63 ?_
        refine va_get (D := D) (ci := 1) (v := .ref aLh) (C := RX1) (T := TX1) (N := 4) hx hb hts uX1 hown hK hP 1 rfl rfl 1 (by decide) w3 (fun _ h9 => h9) rfl dX4_lamp_66 ?_
        refine lv_iload_n hx hb dX4_lamp_69 rfl (lv_at hl 1 rfl) ?_
        refine va_iald hx hb hK hP 3 0 rfl rfl (vin_lamp hn c1) dX4_lamp_70 ?_
        exact eRi hx hb hr hlk hQ dX4_lamp_71 (Eq.symm (by simp only [f_X4_lamp, if_neg c1, if_neg c2, if_pos c3]))
      · by_cases c4 : what = 2
        · refine lv_tableIn (off := 60) (tgt := 72) hx hb dX4_lamp_12 (by rw [c4]; decide) (by rw [c4]; decide) (by rw [c4]; rfl) (by decide) ?_
          refine lv_aload_n hx hb dX4_lamp_72 rfl (lv_at hl 0 rfl) ?_
          refine va_get (D := D) (ci := 4) (v := .ref aE) (C := RX4) (T := TX4) (N := 10) hx hb hts uX4 hown hK hP 0 rfl rfl 2 (by decide) w4 (fun _ h9 => h9) rfl dX4_lamp_73 ?_
          refine va_get (D := D) (ci := 0) (v := .int li) (C := RX0) (T := TX0) (N := 9) hx hb hts uX0 hown hK hP 5 rfl rfl 0 (by decide) w5 (fun _ h9 => h9) rfl dX4_lamp_76 ?_
          refine lv_iload_n hx hb dX4_lamp_79 rfl (lv_at hl 1 rfl) ?_
          refine rS ⟨hx, hb, hml, hown, hts⟩ (c_X1_left l D cI lamp li) (va_cwS 2 hts gX4_lamp_X1_left rfl rfl rfl hd_X1_left ⟨Nat.le_of_ble_eq_true rfl, Nat.le_of_ble_eq_true rfl⟩) hK (hP.sub [] rfl) rfl hl.1 (rest := []) (st' := [.int (f_X1_left lamp li)]) rfl rfl (Nat.le_of_ble_eq_true rfl) dX4_lamp_80 ⟨Nat.zero_le _, Nat.zero_le _⟩ ?_
          exact eRi hx hb hr hlk hQ dX4_lamp_83 (Eq.symm (by simp only [f_X4_lamp, if_neg c1, if_neg c2, if_neg c3, if_pos c4]))
        · by_cases c5 : what = 3
          · refine lv_tableIn (off := 72) (tgt := 84) hx hb dX4_lamp_12 (by rw [c5]; decide) (by rw [c5]; decide) (by rw [c5]; rfl) (by decide) ?_
            refine lv_aload_n hx hb dX4_lamp_84 rfl (lv_at hl 0 rfl) ?_
            refine va_get (D := D) (ci := 4) (v := .ref aL) (C := RX4) (T := TX4) (N := 10) hx hb hts uX4 hown hK hP 0 rfl rfl 1 (by decide) w1 (fun _ h9 => h9) rfl dX4_lamp_85 ?_
            refine va_get (D := D) (ci := 1) (v := .ref aLs) (C := RX1) (T := TX1) (N := 4) hx hb hts uX1 hown hK hP 1 rfl rfl 2 (by decide) w6 (fun _ h9 => h9) rfl dX4_lamp_88 ?_
            refine lv_iload_n hx hb dX4_lamp_91 rfl (lv_at hl 1 rfl) ?_
            refine va_iald hx hb hK hP 4 0 rfl rfl (vin_lamp hn c1) dX4_lamp_92 ?_
            exact eRi hx hb hr hlk hQ dX4_lamp_93 (Eq.symm (by simp only [f_X4_lamp, if_neg c1, if_neg c2, if_neg c3, if_neg c4, if_pos c5]))
          · by_cases c6 : what = 4
            · refine lv_tableIn (off := 82) (tgt := 94) hx hb dX4_lamp_12 (by rw [c6]; decide) (by rw [c6]; decide) (by rw [c6]; rfl) (by decide) ?_
              refine lv_aload_n hx hb dX4_lamp_94 rfl (lv_at hl 0 rfl) ?_
              refine va_get (D := D) (ci := 4) (v := .ref aE) (C := RX4) (T := TX4) (N := 10) hx hb hts uX4 hown hK hP 0 rfl rfl 2 (by decide) w4 (fun _ h9 => h9) rfl dX4_lamp_95 ?_
              refine lv_iload_n hx hb dX4_lamp_98 rfl (lv_at hl 1 rfl) ?_
              refine rV ⟨hx, hb, hml, hown, hts⟩ (c_X0_peopleIn l D cI aE aEs aEw aEd aEl aEt li mi pe to sc lamp hpe) (cwV 1 hts gX4_lamp_X0_peopleIn rfl rfl rfl hd_X0_peopleIn ⟨Nat.le_of_ble_eq_true rfl, Nat.le_of_ble_eq_true rfl⟩) hK (hP.sub [5, 6] rfl) 0 rfl rfl rfl rfl hl.1 (rest := []) (st' := [.int (f_X0_peopleIn pe sc lamp)]) rfl rfl (Nat.le_of_ble_eq_true rfl) dX4_lamp_99 ⟨Nat.zero_le _, Nat.zero_le _⟩ ?_
              exact eRi hx hb hr hlk hQ dX4_lamp_102 (Eq.symm (by simp only [f_X4_lamp, if_neg c1, if_neg c2, if_neg c3, if_neg c4, if_neg c5, if_pos c6]))
            · by_cases c7 : what = 5
              · refine lv_tableIn (off := 91) (tgt := 103) hx hb dX4_lamp_12 (by rw [c7]; decide) (by rw [c7]; decide) (by rw [c7]; rfl) (by decide) ?_
                refine lv_aload_n hx hb dX4_lamp_103 rfl (lv_at hl 0 rfl) ?_
                refine va_get (D := D) (ci := 4) (v := .ref aL) (C := RX4) (T := TX4) (N := 10) hx hb hts uX4 hown hK hP 0 rfl rfl 1 (by decide) w1 (fun _ h9 => h9) rfl dX4_lamp_104 ?_
                refine lv_iload_n hx hb dX4_lamp_107 rfl (lv_at hl 1 rfl) ?_
                refine rV ⟨hx, hb, hml, hown, hts⟩ (c_X1_seeing l D cI aL aLk aLh aLs nl sn lamp hn) (cwV 1 hts gX4_lamp_X1_seeing rfl rfl rfl hd_X1_seeing ⟨Nat.le_of_ble_eq_true rfl, Nat.le_of_ble_eq_true rfl⟩) hK (hP.sub [1, 4] rfl) 0 rfl rfl rfl rfl hl.1 (rest := []) (st' := [.int (f_X1_seeing nl sn lamp)]) rfl rfl (Nat.le_of_ble_eq_true rfl) dX4_lamp_108 ⟨Nat.zero_le _, Nat.zero_le _⟩ ?_
                exact eRi hx hb hr hlk hQ dX4_lamp_111 (Eq.symm (by simp only [f_X4_lamp, if_neg c1, if_neg c2, if_neg c3, if_neg c4, if_neg c5, if_neg c6, if_pos c7]))
              · have z12_0 := lv_neT (a := 0) c2 (by decide)
                have z12_1 := lv_neT (a := 1) c3 (by decide)
                have z12_2 := lv_neT (a := 2) c4 (by decide)
                have z12_3 := lv_neT (a := 3) c5 (by decide)
                have z12_4 := lv_neT (a := 4) c6 (by decide)
                have z12_5 := lv_neT (a := 5) c7 (by decide)
                refine lv_tableOut (tgt := 112) hx hb dX4_lamp_12 (by omega) (by decide) ?_
                refine lv_bipush (v := (-102)) hx hb dX4_lamp_112 (by decide) ?_
                exact eRi hx hb hr hlk hQ dX4_lamp_114 (Eq.symm (by simp only [f_X4_lamp, if_neg c1, if_neg c2, if_neg c3, if_neg c4, if_neg c5, if_neg c6, if_neg c7]))
  · refine lv_bipush (v := (-101)) hx hb dX4_lamp_8 (by decide) ?_
    exact eRi hx hb hr hlk hQ dX4_lamp_10 (Eq.symm (by simp only [f_X4_lamp, if_pos c1]))

def rm_X4_as : Room := { frames := 1, cells := 0, slots := 0, locals := 22 }
def f_X4_as (nl : Nat) (kd : Nat → Int32) (kind : Int32) (lamp : Int32) : Int32 := (if (f_X4_isLamp nl lamp) = 0 then (-101) else (if kind < 0 then (-102) else (if kind < 5 then (if (f_X1_isOf kd kind lamp) = 0 then (-1) else lamp) else (-102))))
theorem hd_X4_as : yX4_as.cls = RX4 ∧ yX4_as.cls ≠ "java/lang/invoke/MethodHandle" ∧ yX4_as.cls ≠ "java/lang/invoke/VarHandle" ∧ (parseMethodDescriptor yX4_as.desc).map (fun d => d.parameters.length) = some 2 := by decide +kernel
set_option maxHeartbeats 4000000 in
set_option maxRecDepth 100000 in
theorem c_X4_as (l : Launch) (D : va_G) (cI : ClassId) (aO aP aL aLk aLh aLs aE aK aY aN aS : Nat) (ik : Int32) (ofr : Int32) (rd : Int32) (nl : Nat) (kd : Nat → Int32) (kind : Int32) (lamp : Int32) (hn : nl ≤ 6) : MetR l yX4_as wsX4_as rm_X4_as D cI [.ref aO, .int lamp, .int kind] [(aO, .inr (4, [.ref aP, .ref aL, .ref aE, .ref aK, .ref aY, .ref aN, .ref aS, .int ik, .int ofr, .int rd])), (aL, .inr (1, [.ref aLk, .ref aLh, .ref aLs, .int (nI nl)])), (aLk, .inl (cI, 6, .inl kd))] (some (.int (f_X4_as nl kd kind lamp))) := by
  refine mR (cc := cX4_as) (maxL := 3) (ret := (some .int)) (by decide) rfl (Nat.le_of_ble_eq_true rfl) ?_
  intro p e s m args below meth c Q hx hb hr hml hown hts hlk hP hK hQ ls hl
  have hown : s.vm.findClass RX4 = some m.cls := hown
  have hl : lv_has ls 3 [(0, .ref aO), (1, .int lamp), (2, .int kind)] := hl
  have w1 := hts (.fieldLink RX4 19 "DarkOffice" "lamps" "LDarkOffice$Lamps;") (List.mem_of_getElem? (i := 1) rfl)
  have uX4 : ∀ w ∈ wsX40, w ∈ wsX4_as := fun _ h => List.mem_cons_of_mem _ (List.mem_append_left _ (List.mem_append_right _ h))
  refine lv_aload_n hx hb dX4_as_0 rfl (lv_at hl 0 rfl) ?_
  refine lv_iload_n hx hb dX4_as_1 rfl (lv_at hl 1 rfl) ?_
  refine rV ⟨hx, hb, hml, hown, hts⟩ (c_X4_isLamp l D cI aO aP aL aLk aLh aLs aE aK aY aN aS ik ofr rd nl lamp hn) (cwV 1 hts gX4_as_X4_isLamp rfl rfl rfl hd_X4_isLamp ⟨Nat.le_of_ble_eq_true rfl, Nat.le_of_ble_eq_true rfl⟩) hK (hP.sub [0, 1] rfl) 0 rfl rfl rfl rfl hl.1 (rest := []) (st' := [.int (f_X4_isLamp nl lamp)]) rfl rfl (Nat.le_of_ble_eq_true rfl) dX4_as_2 ⟨Nat.zero_le _, Nat.zero_le _⟩ ?_
  refine lv_if_ne (tgt := 11) hx hb dX4_as_5 (by decide) (fun c1 => ?_) (fun c1 => ?_)
  · refine lv_iload_n hx hb dX4_as_11 rfl (lv_at hl 2 rfl) ?_
    refine lv_if_lt (tgt := 20) hx hb dX4_as_12 (by decide) (fun c2 => ?_) (fun c2 => ?_)
    · refine lv_bipush (v := (-102)) hx hb dX4_as_20 (by decide) ?_
      exact eRi hx hb hr hlk hQ dX4_as_22 (Eq.symm (by simp only [f_X4_as, if_neg c1, if_pos c2]))
    · refine lv_iload_n hx hb dX4_as_15 rfl (lv_at hl 2 rfl) ?_
      refine lv_iconst (v := 5) hx hb dX4_as_16 (by decide) ?_
      refine lv_icmp_lt (tgt := 23) hx hb dX4_as_17 (by decide) (fun c3 => ?_) (fun c3 => ?_)
      · refine lv_aload_n hx hb dX4_as_23 rfl (lv_at hl 0 rfl) ?_
        refine va_get (D := D) (ci := 4) (v := .ref aL) (C := RX4) (T := TX4) (N := 10) hx hb hts uX4 hown hK hP 0 rfl rfl 1 (by decide) w1 (fun _ h9 => h9) rfl dX4_as_24 ?_
        refine lv_iload_n hx hb dX4_as_27 rfl (lv_at hl 1 rfl) ?_
        refine lv_iload_n hx hb dX4_as_28 rfl (lv_at hl 2 rfl) ?_
        refine rV ⟨hx, hb, hml, hown, hts⟩ (c_X1_isOf l D cI aL aLk aLh aLs nl kd kind lamp (vin_lamp hn c1)) (cwV 2 hts gX4_as_X1_isOf rfl rfl rfl hd_X1_isOf ⟨Nat.le_of_ble_eq_true rfl, Nat.le_of_ble_eq_true rfl⟩) hK (hP.sub [1, 2] rfl) 0 rfl rfl rfl rfl hl.1 (rest := []) (st' := [.int (f_X1_isOf kd kind lamp)]) rfl rfl (Nat.le_of_ble_eq_true rfl) dX4_as_29 ⟨Nat.zero_le _, Nat.zero_le _⟩ ?_
        refine lv_if_eq (tgt := 39) hx hb dX4_as_32 (by decide) (fun c4 => ?_) (fun c4 => ?_)
        · refine lv_iconst (v := (-1)) hx hb dX4_as_39 (by decide) ?_
          exact eRi hx hb hr hlk hQ dX4_as_40 (Eq.symm (by simp only [f_X4_as, if_neg c1, if_neg c2, if_pos c3, if_pos c4]))
        · refine lv_iload_n hx hb dX4_as_35 rfl (lv_at hl 1 rfl) ?_
          refine lv_goto (tgt := 40) hx hb dX4_as_36 (by decide) ?_
          exact eRi hx hb hr hlk hQ dX4_as_40 (Eq.symm (by simp only [f_X4_as, if_neg c1, if_neg c2, if_pos c3, if_neg c4]))
      · refine lv_bipush (v := (-102)) hx hb dX4_as_20 (by decide) ?_
        exact eRi hx hb hr hlk hQ dX4_as_22 (Eq.symm (by simp only [f_X4_as, if_neg c1, if_neg c2, if_neg c3]))
  · refine lv_bipush (v := (-101)) hx hb dX4_as_8 (by decide) ?_
    exact eRi hx hb hr hlk hQ dX4_as_10 (Eq.symm (by simp only [f_X4_as, if_pos c1]))

def rm_X4_person : Room := { frames := 1, cells := 0, slots := 0, locals := 22 }
def f_X4_person (nl : Nat) (pe : Nat) (sect : Int32) : Int32 := (if (f_X4_isLamp nl sect) = 0 then (-101) else (f_X0_seat pe))
def f_X4_person_E_2 (nl : Nat) (pe : Nat) (sect : Int32) : Int32 := (if (f_X4_isLamp nl sect) = 0 then nI pe else (f_X0_seat_E_2 pe))
def f_X4_person_Es (nl : Nat) (pe : Nat) (sc : Nat → Int32) (sect : Int32) : Nat → Int32 := (if (f_X4_isLamp nl sect) = 0 then sc else (f_X0_seat_Es pe sc sect))
def f_X4_person_Ew (nl : Nat) (pe : Nat) (wv : Nat → Int32) (sect : Int32) : Nat → Int32 := (if (f_X4_isLamp nl sect) = 0 then wv else (f_X0_seat_Ew pe wv))
def f_X4_person_Ed (nl : Nat) (pe : Nat) (dk : Nat → Int32) (sect : Int32) : Nat → Int32 := (if (f_X4_isLamp nl sect) = 0 then dk else (f_X0_seat_Ed pe dk))
theorem hd_X4_person : yX4_person.cls = RX4 ∧ yX4_person.cls ≠ "java/lang/invoke/MethodHandle" ∧ yX4_person.cls ≠ "java/lang/invoke/VarHandle" ∧ (parseMethodDescriptor yX4_person.desc).map (fun d => d.parameters.length) = some 1 := by decide +kernel
set_option maxHeartbeats 4000000 in
set_option maxRecDepth 100000 in
theorem c_X4_person (l : Launch) (D : va_G) (cI : ClassId) (aO aP aL aLk aLh aLs aE aEs aEw aEd aEl aEt aK aY aN aS : Nat) (ik : Int32) (ofr : Int32) (rd : Int32) (nl : Nat) (li : Int32) (mi : Int32) (pe : Nat) (to : Int32) (sc : Nat → Int32) (wv : Nat → Int32) (dk : Nat → Int32) (sect : Int32) (hn : nl ≤ 6) (hpe : pe ≤ 4) : MetX l yX4_person wsX4_person rm_X4_person D cI [.ref aO, .int sect] [(aO, .inr (4, [.ref aP, .ref aL, .ref aE, .ref aK, .ref aY, .ref aN, .ref aS, .int ik, .int ofr, .int rd])), (aL, .inr (1, [.ref aLk, .ref aLh, .ref aLs, .int (nI nl)])), (aE, .inr (0, [.int li, .int mi, .int (nI pe), .ref aEs, .ref aEw, .ref aEd, .int to, .ref aEl, .ref aEt])), (aEs, .inl (cI, 4, .inl sc)), (aEw, .inl (cI, 4, .inl wv)), (aEd, .inl (cI, 4, .inl dk))] (some (.int (f_X4_person nl pe sect))) [(aO, .inr (4, [.ref aP, .ref aL, .ref aE, .ref aK, .ref aY, .ref aN, .ref aS, .int ik, .int ofr, .int rd])), (aL, .inr (1, [.ref aLk, .ref aLh, .ref aLs, .int (nI nl)])), (aE, .inr (0, [.int li, .int mi, .int (f_X4_person_E_2 nl pe sect), .ref aEs, .ref aEw, .ref aEd, .int to, .ref aEl, .ref aEt])), (aEs, .inl (cI, 4, .inl (f_X4_person_Es nl pe sc sect))), (aEw, .inl (cI, 4, .inl (f_X4_person_Ew nl pe wv sect))), (aEd, .inl (cI, 4, .inl (f_X4_person_Ed nl pe dk sect)))] := by
  refine mX (cc := cX4_person) (maxL := 2) (ret := (some .int)) (by decide) rfl (Nat.le_of_ble_eq_true rfl) ?_
  intro p e s m args below meth c Q A hx hb hr hml hown hts hlk hP hK hD hA hS hQ ls hl
  have hown : s.vm.findClass RX4 = some m.cls := hown
  have hl : lv_has ls 2 [(0, .ref aO), (1, .int sect)] := hl
  have w1 := hts (.fieldLink RX4 26 "DarkOffice" "now" "LDarkOffice$Evening;") (List.mem_of_getElem? (i := 1) rfl)
  have uX4 : ∀ w ∈ wsX40, w ∈ wsX4_person := fun _ h => List.mem_cons_of_mem _ (List.mem_append_left _ (List.mem_append_left _ (List.mem_append_right _ h)))
  refine lv_aload_n hx hb dX4_person_0 rfl (lv_at hl 0 rfl) ?_
  refine lv_iload_n hx hb dX4_person_1 rfl (lv_at hl 1 rfl) ?_
  refine rV ⟨hx, hb, hml, hown, hts⟩ (c_X4_isLamp l D cI aO aP aL aLk aLh aLs aE aK aY aN aS ik ofr rd nl sect hn) (cwV 1 hts gX4_person_X4_isLamp rfl rfl rfl hd_X4_isLamp ⟨Nat.le_of_ble_eq_true rfl, Nat.le_of_ble_eq_true rfl⟩) hK (hP.sub [0, 1] rfl) 0 rfl rfl rfl rfl hl.1 (rest := []) (st' := [.int (f_X4_isLamp nl sect)]) rfl rfl (Nat.le_of_ble_eq_true rfl) dX4_person_2 ⟨Nat.zero_le _, Nat.zero_le _⟩ ?_
  refine lv_if_ne (tgt := 11) hx hb dX4_person_5 (by decide) (fun c1 => ?_) (fun c1 => ?_)
  · refine lv_aload_n hx hb dX4_person_11 rfl (lv_at hl 0 rfl) ?_
    refine va_get (D := D) (ci := 4) (v := .ref aE) (C := RX4) (T := TX4) (N := 10) hx hb hts uX4 hown hK hP 0 rfl rfl 2 (by decide) w1 (fun _ h9 => h9) rfl dX4_person_12 ?_
    refine lv_iload_n hx hb dX4_person_15 rfl (lv_at hl 1 rfl) ?_
    refine xV (w2 := [(aO, .inr (4, [.ref aP, .ref aL, .ref aE, .ref aK, .ref aY, .ref aN, .ref aS, .int ik, .int ofr, .int rd])), (aL, .inr (1, [.ref aLk, .ref aLh, .ref aLs, .int (nI nl)])), (aE, .inr (0, [.int li, .int mi, .int (f_X0_seat_E_2 pe), .ref aEs, .ref aEw, .ref aEd, .int to, .ref aEl, .ref aEt])), (aEs, .inl (cI, 4, .inl (f_X0_seat_Es pe sc sect))), (aEw, .inl (cI, 4, .inl (f_X0_seat_Ew pe wv))), (aEd, .inl (cI, 4, .inl (f_X0_seat_Ed pe dk)))]) ⟨hx, hb, hml, hown, hts⟩ (c_X0_seat l D cI aE aEs aEw aEd aEl aEt li mi pe to sc wv dk sect hpe) (cwV 1 hts gX4_person_X0_seat rfl rfl rfl hd_X0_seat ⟨Nat.le_of_ble_eq_true rfl, Nat.le_of_ble_eq_true rfl⟩) hK hP hD hS hA [2, 3, 4, 5] [0, 1] [0, 1, 2, 3, 4, 5] rfl rfl rfl rfl rfl (by decide) rfl rfl rfl 0 rfl rfl rfl rfl hl.1 (rest := []) (st' := [.int (f_X0_seat pe)]) rfl rfl (Nat.le_of_ble_eq_true rfl) dX4_person_16 ⟨Nat.zero_le _, Nat.zero_le _⟩ (fun H locs hP hD hS => ?_)
    have e_E_2 : (f_X4_person_E_2 nl pe sect) = (f_X0_seat_E_2 pe) := (by simp only [f_X4_person_E_2, if_neg c1])
    have e_Es : (f_X4_person_Es nl pe sc sect) = (f_X0_seat_Es pe sc sect) := (by simp only [f_X4_person_Es, if_neg c1])
    have e_Ew : (f_X4_person_Ew nl pe wv sect) = (f_X0_seat_Ew pe wv) := (by simp only [f_X4_person_Ew, if_neg c1])
    have e_Ed : (f_X4_person_Ed nl pe dk sect) = (f_X0_seat_Ed pe dk) := (by simp only [f_X4_person_Ed, if_neg c1])
    exact eXi hx hb hr hlk hQ (by rw [e_E_2, e_Es, e_Ew, e_Ed]; exact hP) (by rw [e_E_2, e_Es, e_Ew, e_Ed]; exact hD) hS dX4_person_19 (Eq.symm (by simp only [f_X4_person, if_neg c1]))
  · refine lv_bipush (v := (-101)) hx hb dX4_person_8 (by decide) ?_
    have e_E_2 : (f_X4_person_E_2 nl pe sect) = nI pe := (by simp only [f_X4_person_E_2, if_pos c1])
    have e_Es : (f_X4_person_Es nl pe sc sect) = sc := (by simp only [f_X4_person_Es, if_pos c1])
    have e_Ew : (f_X4_person_Ew nl pe wv sect) = wv := (by simp only [f_X4_person_Ew, if_pos c1])
    have e_Ed : (f_X4_person_Ed nl pe dk sect) = dk := (by simp only [f_X4_person_Ed, if_pos c1])
    exact eXi hx hb hr hlk hQ (by rw [e_E_2, e_Es, e_Ew, e_Ed]; exact hP) (by rw [e_E_2, e_Es, e_Ew, e_Ed]; exact hD) hS dX4_person_10 (Eq.symm (by simp only [f_X4_person, if_pos c1]))

def rm_X4_about : Room := { frames := 1, cells := 0, slots := 0, locals := 21 }
def f_X4_about (li : Int32) (pe : Nat) (sc : Nat → Int32) (wv : Nat → Int32) (dk : Nat → Int32) (person : Int32) (what : Int32) : Int32 := (if (f_X4_isPerson pe person) = 0 then (-101) else (if what = 0 then (sc person.toNatClampNeg) else (if what = 1 then (if (f_X1_left (sc person.toNatClampNeg) li) ≤ 0 then 0 else 1) else (if what = 2 then (wv person.toNatClampNeg) else (if what = 3 then (dk person.toNatClampNeg) else (-102))))))
theorem hd_X4_about : yX4_about.cls = RX4 ∧ yX4_about.cls ≠ "java/lang/invoke/MethodHandle" ∧ yX4_about.cls ≠ "java/lang/invoke/VarHandle" ∧ (parseMethodDescriptor yX4_about.desc).map (fun d => d.parameters.length) = some 2 := by decide +kernel
set_option maxHeartbeats 4000000 in
set_option maxRecDepth 100000 in
theorem c_X4_about (l : Launch) (D : va_G) (cI : ClassId) (aO aP aL aE aEs aEw aEd aEl aEt aK aY aN aS : Nat) (ik : Int32) (ofr : Int32) (rd : Int32) (li : Int32) (mi : Int32) (pe : Nat) (to : Int32) (sc : Nat → Int32) (wv : Nat → Int32) (dk : Nat → Int32) (person : Int32) (what : Int32) (hpe : pe ≤ 4) : MetR l yX4_about wsX4_about rm_X4_about D cI [.ref aO, .int person, .int what] [(aO, .inr (4, [.ref aP, .ref aL, .ref aE, .ref aK, .ref aY, .ref aN, .ref aS, .int ik, .int ofr, .int rd])), (aE, .inr (0, [.int li, .int mi, .int (nI pe), .ref aEs, .ref aEw, .ref aEd, .int to, .ref aEl, .ref aEt])), (aEs, .inl (cI, 4, .inl sc)), (aEw, .inl (cI, 4, .inl wv)), (aEd, .inl (cI, 4, .inl dk))] (some (.int (f_X4_about li pe sc wv dk person what))) := by
  refine mR (cc := cX4_about) (maxL := 3) (ret := (some .int)) (by decide) rfl (Nat.le_of_ble_eq_true rfl) ?_
  intro p e s m args below meth c Q hx hb hr hml hown hts hlk hP hK hQ ls hl
  have hown : s.vm.findClass RX4 = some m.cls := hown
  have hl : lv_has ls 3 [(0, .ref aO), (1, .int person), (2, .int what)] := hl
  have w1 := hts (.fieldLink RX4 26 "DarkOffice" "now" "LDarkOffice$Evening;") (List.mem_of_getElem? (i := 1) rfl)
  have uX4 : ∀ w ∈ wsX40, w ∈ wsX4_about := fun _ h => List.mem_cons_of_mem _ (List.mem_append_left _ (List.mem_append_right _ h))
  have w2 := hts (.fieldLink RX4 116 "DarkOffice$Evening" "sections" "[I") (List.mem_of_getElem? (i := 2) rfl)
  have uX0 : ∀ w ∈ wsX00, w ∈ wsX4_about := fun _ h => List.mem_cons_of_mem _ (List.mem_append_right _ h)
  have w3 := hts (.fieldLink RX4 90 "DarkOffice$Evening" "lit" "I") (List.mem_of_getElem? (i := 3) rfl)
  have w4 := hts (.fieldLink RX4 119 "DarkOffice$Evening" "waves" "[I") (List.mem_of_getElem? (i := 4) rfl)
  have w5 := hts (.fieldLink RX4 122 "DarkOffice$Evening" "darks" "[I") (List.mem_of_getElem? (i := 5) rfl)
  refine lv_aload_n hx hb dX4_about_0 rfl (lv_at hl 0 rfl) ?_
  refine lv_iload_n hx hb dX4_about_1 rfl (lv_at hl 1 rfl) ?_
  refine rV ⟨hx, hb, hml, hown, hts⟩ (c_X4_isPerson l D cI aO aP aL aE aEs aEw aEd aEl aEt aK aY aN aS ik ofr rd li mi pe to person hpe) (cwV 1 hts gX4_about_X4_isPerson rfl rfl rfl hd_X4_isPerson ⟨Nat.le_of_ble_eq_true rfl, Nat.le_of_ble_eq_true rfl⟩) hK (hP.sub [0, 1] rfl) 0 rfl rfl rfl rfl hl.1 (rest := []) (st' := [.int (f_X4_isPerson pe person)]) rfl rfl (Nat.le_of_ble_eq_true rfl) dX4_about_2 ⟨Nat.zero_le _, Nat.zero_le _⟩ ?_
  refine lv_if_ne (tgt := 11) hx hb dX4_about_5 (by decide) (fun c1 => ?_) (fun c1 => ?_)
  · refine lv_iload_n hx hb dX4_about_11 rfl (lv_at hl 2 rfl) ?_
    by_cases c2 : what = 0
    · refine lv_tableIn (off := 32) (tgt := 44) hx hb dX4_about_12 (by rw [c2]; decide) (by rw [c2]; decide) (by rw [c2]; rfl) (by decide) ?_
      refine lv_aload_n hx hb dX4_about_44 rfl (lv_at hl 0 rfl) ?_
      refine va_get (D := D) (ci := 4) (v := .ref aE) (C := RX4) (T := TX4) (N := 10) hx hb hts uX4 hown hK hP 0 rfl rfl 2 (by decide) w1 (fun _ h9 => h9) rfl dX4_about_45 ?_
      refine va_get (D := D) (ci := 0) (v := .ref aEs) (C := RX0) (T := TX0) (N := 9) hx hb hts uX0 hown hK hP 1 rfl rfl 3 (by decide) w2 (fun _ h9 => h9) rfl dX4_about_48 ?_
      refine lv_iload_n hx hb dX4_about_51 rfl (lv_at hl 1 rfl) ?_
      refine va_iald hx hb hK hP 2 0 rfl rfl (vin_pers hpe c1) dX4_about_52 ?_
      exact eRi hx hb hr hlk hQ dX4_about_53 (Eq.symm (by simp only [f_X4_about, if_neg c1, if_pos c2]))
    · by_cases c3 : what = 1
      · refine lv_tableIn (off := 42) (tgt := 54) hx hb dX4_about_12 (by rw [c3]; decide) (by rw [c3]; decide) (by rw [c3]; rfl) (by decide) ?_
        refine lv_aload_n hx hb dX4_about_54 rfl (lv_at hl 0 rfl) ?_
        refine va_get (D := D) (ci := 4) (v := .ref aE) (C := RX4) (T := TX4) (N := 10) hx hb hts uX4 hown hK hP 0 rfl rfl 2 (by decide) w1 (fun _ h9 => h9) rfl dX4_about_55 ?_
        refine va_get (D := D) (ci := 0) (v := .int li) (C := RX0) (T := TX0) (N := 9) hx hb hts uX0 hown hK hP 1 rfl rfl 0 (by decide) w3 (fun _ h9 => h9) rfl dX4_about_58 ?_
        refine lv_aload_n hx hb dX4_about_61 rfl (lv_at hl 0 rfl) ?_
        refine va_get (D := D) (ci := 4) (v := .ref aE) (C := RX4) (T := TX4) (N := 10) hx hb hts uX4 hown hK hP 0 rfl rfl 2 (by decide) w1 (fun _ h9 => h9) rfl dX4_about_62 ?_
        refine va_get (D := D) (ci := 0) (v := .ref aEs) (C := RX0) (T := TX0) (N := 9) hx hb hts uX0 hown hK hP 1 rfl rfl 3 (by decide) w2 (fun _ h9 => h9) rfl dX4_about_65 ?_
        refine lv_iload_n hx hb dX4_about_68 rfl (lv_at hl 1 rfl) ?_
        refine va_iald hx hb hK hP 2 0 rfl rfl (vin_pers hpe c1) dX4_about_69 ?_
        refine rS ⟨hx, hb, hml, hown, hts⟩ (c_X1_left l D cI (sc person.toNatClampNeg) li) (va_cwS 2 hts gX4_about_X1_left rfl rfl rfl hd_X1_left ⟨Nat.le_of_ble_eq_true rfl, Nat.le_of_ble_eq_true rfl⟩) hK (hP.sub [] rfl) rfl hl.1 (rest := []) (st' := [.int (f_X1_left (sc person.toNatClampNeg) li)]) rfl rfl (Nat.le_of_ble_eq_true rfl) dX4_about_70 ⟨Nat.zero_le _, Nat.zero_le _⟩ ?_
        refine lv_if_le (tgt := 80) hx hb dX4_about_73 (by decide) (fun c4 => ?_) (fun c4 => ?_)
        · refine lv_iconst (v := 0) hx hb dX4_about_80 (by decide) ?_
          exact eRi hx hb hr hlk hQ dX4_about_81 (Eq.symm (by simp only [f_X4_about, if_neg c1, if_neg c2, if_pos c3, if_pos c4]))
        · refine lv_iconst (v := 1) hx hb dX4_about_76 (by decide) ?_
          refine lv_goto (tgt := 81) hx hb dX4_about_77 (by decide) ?_
          exact eRi hx hb hr hlk hQ dX4_about_81 (Eq.symm (by simp only [f_X4_about, if_neg c1, if_neg c2, if_pos c3, if_neg c4]))
      · by_cases c5 : what = 2
        · refine lv_tableIn (off := 70) (tgt := 82) hx hb dX4_about_12 (by rw [c5]; decide) (by rw [c5]; decide) (by rw [c5]; rfl) (by decide) ?_
          refine lv_aload_n hx hb dX4_about_82 rfl (lv_at hl 0 rfl) ?_
          refine va_get (D := D) (ci := 4) (v := .ref aE) (C := RX4) (T := TX4) (N := 10) hx hb hts uX4 hown hK hP 0 rfl rfl 2 (by decide) w1 (fun _ h9 => h9) rfl dX4_about_83 ?_
          refine va_get (D := D) (ci := 0) (v := .ref aEw) (C := RX0) (T := TX0) (N := 9) hx hb hts uX0 hown hK hP 1 rfl rfl 4 (by decide) w4 (fun _ h9 => h9) rfl dX4_about_86 ?_
          refine lv_iload_n hx hb dX4_about_89 rfl (lv_at hl 1 rfl) ?_
          refine va_iald hx hb hK hP 3 0 rfl rfl (vin_pers hpe c1) dX4_about_90 ?_
          exact eRi hx hb hr hlk hQ dX4_about_91 (Eq.symm (by simp only [f_X4_about, if_neg c1, if_neg c2, if_neg c3, if_pos c5]))
        · by_cases c6 : what = 3
          · refine lv_tableIn (off := 80) (tgt := 92) hx hb dX4_about_12 (by rw [c6]; decide) (by rw [c6]; decide) (by rw [c6]; rfl) (by decide) ?_
            refine lv_aload_n hx hb dX4_about_92 rfl (lv_at hl 0 rfl) ?_
            refine va_get (D := D) (ci := 4) (v := .ref aE) (C := RX4) (T := TX4) (N := 10) hx hb hts uX4 hown hK hP 0 rfl rfl 2 (by decide) w1 (fun _ h9 => h9) rfl dX4_about_93 ?_
            refine va_get (D := D) (ci := 0) (v := .ref aEd) (C := RX0) (T := TX0) (N := 9) hx hb hts uX0 hown hK hP 1 rfl rfl 5 (by decide) w5 (fun _ h9 => h9) rfl dX4_about_96 ?_
            refine lv_iload_n hx hb dX4_about_99 rfl (lv_at hl 1 rfl) ?_
            refine va_iald hx hb hK hP 4 0 rfl rfl (vin_pers hpe c1) dX4_about_100 ?_
            exact eRi hx hb hr hlk hQ dX4_about_101 (Eq.symm (by simp only [f_X4_about, if_neg c1, if_neg c2, if_neg c3, if_neg c5, if_pos c6]))
          · have z12_0 := lv_neT (a := 0) c2 (by decide)
            have z12_1 := lv_neT (a := 1) c3 (by decide)
            have z12_2 := lv_neT (a := 2) c5 (by decide)
            have z12_3 := lv_neT (a := 3) c6 (by decide)
            refine lv_tableOut (tgt := 102) hx hb dX4_about_12 (by omega) (by decide) ?_
            refine lv_bipush (v := (-102)) hx hb dX4_about_102 (by decide) ?_
            exact eRi hx hb hr hlk hQ dX4_about_104 (Eq.symm (by simp only [f_X4_about, if_neg c1, if_neg c2, if_neg c3, if_neg c5, if_neg c6]))
  · refine lv_bipush (v := (-101)) hx hb dX4_about_8 (by decide) ?_
    exact eRi hx hb hr hlk hQ dX4_about_10 (Eq.symm (by simp only [f_X4_about, if_pos c1]))

def rm_X4_move : Room := { frames := 1, cells := 0, slots := 0, locals := 21 }
def f_X4_move (nl : Nat) (pe : Nat) (sc : Nat → Int32) (person : Int32) (sect : Int32) : Int32 := (if (f_X4_isPerson pe person) = 0 then (-101) else (if (f_X4_isLamp nl sect) = 0 then (-101) else (sc person.toNatClampNeg)))
def f_X4_move_Es (nl : Nat) (pe : Nat) (sc : Nat → Int32) (person : Int32) (sect : Int32) : Nat → Int32 := (if (f_X4_isPerson pe person) = 0 then sc else (if (f_X4_isLamp nl sect) = 0 then sc else (upd sc person.toNatClampNeg sect)))
theorem hd_X4_move : yX4_move.cls = RX4 ∧ yX4_move.cls ≠ "java/lang/invoke/MethodHandle" ∧ yX4_move.cls ≠ "java/lang/invoke/VarHandle" ∧ (parseMethodDescriptor yX4_move.desc).map (fun d => d.parameters.length) = some 2 := by decide +kernel
set_option maxHeartbeats 4000000 in
set_option maxRecDepth 100000 in
theorem c_X4_move (l : Launch) (D : va_G) (cI : ClassId) (aO aP aL aLk aLh aLs aE aEs aEw aEd aEl aEt aK aY aN aS : Nat) (ik : Int32) (ofr : Int32) (rd : Int32) (nl : Nat) (li : Int32) (mi : Int32) (pe : Nat) (to : Int32) (sc : Nat → Int32) (person : Int32) (sect : Int32) (hn : nl ≤ 6) (hpe : pe ≤ 4) : MetX l yX4_move wsX4_move rm_X4_move D cI [.ref aO, .int person, .int sect] [(aO, .inr (4, [.ref aP, .ref aL, .ref aE, .ref aK, .ref aY, .ref aN, .ref aS, .int ik, .int ofr, .int rd])), (aL, .inr (1, [.ref aLk, .ref aLh, .ref aLs, .int (nI nl)])), (aE, .inr (0, [.int li, .int mi, .int (nI pe), .ref aEs, .ref aEw, .ref aEd, .int to, .ref aEl, .ref aEt])), (aEs, .inl (cI, 4, .inl sc))] (some (.int (f_X4_move nl pe sc person sect))) [(aO, .inr (4, [.ref aP, .ref aL, .ref aE, .ref aK, .ref aY, .ref aN, .ref aS, .int ik, .int ofr, .int rd])), (aL, .inr (1, [.ref aLk, .ref aLh, .ref aLs, .int (nI nl)])), (aE, .inr (0, [.int li, .int mi, .int (nI pe), .ref aEs, .ref aEw, .ref aEd, .int to, .ref aEl, .ref aEt])), (aEs, .inl (cI, 4, .inl (f_X4_move_Es nl pe sc person sect)))] := by
  refine mX (cc := cX4_move) (maxL := 4) (ret := (some .int)) (by decide) rfl (Nat.le_of_ble_eq_true rfl) ?_
  intro p e s m args below meth c Q A hx hb hr hml hown hts hlk hP hK hD hA hS hQ ls hl
  have hown : s.vm.findClass RX4 = some m.cls := hown
  have hl : lv_has ls 4 [(0, .ref aO), (1, .int person), (2, .int sect)] := hl
  have w1 := hts (.fieldLink RX4 26 "DarkOffice" "now" "LDarkOffice$Evening;") (List.mem_of_getElem? (i := 1) rfl)
  have uX4 : ∀ w ∈ wsX40, w ∈ wsX4_move := fun _ h => List.mem_cons_of_mem _ (List.mem_append_left _ (List.mem_append_left _ (List.mem_append_right _ h)))
  have w2 := hts (.fieldLink RX4 116 "DarkOffice$Evening" "sections" "[I") (List.mem_of_getElem? (i := 2) rfl)
  have uX0 : ∀ w ∈ wsX00, w ∈ wsX4_move := fun _ h => List.mem_cons_of_mem _ (List.mem_append_left _ (List.mem_append_right _ h))
  refine lv_aload_n hx hb dX4_move_0 rfl (lv_at hl 0 rfl) ?_
  refine lv_iload_n hx hb dX4_move_1 rfl (lv_at hl 1 rfl) ?_
  refine rV ⟨hx, hb, hml, hown, hts⟩ (c_X4_isPerson l D cI aO aP aL aE aEs aEw aEd aEl aEt aK aY aN aS ik ofr rd li mi pe to person hpe) (cwV 1 hts gX4_move_X4_isPerson rfl rfl rfl hd_X4_isPerson ⟨Nat.le_of_ble_eq_true rfl, Nat.le_of_ble_eq_true rfl⟩) hK (hP.sub [0, 2] rfl) 0 rfl rfl rfl rfl hl.1 (rest := []) (st' := [.int (f_X4_isPerson pe person)]) rfl rfl (Nat.le_of_ble_eq_true rfl) dX4_move_2 ⟨Nat.zero_le _, Nat.zero_le _⟩ ?_
  refine lv_if_eq (tgt := 16) hx hb dX4_move_5 (by decide) (fun c1 => ?_) (fun c1 => ?_)
  · refine lv_bipush (v := (-101)) hx hb dX4_move_16 (by decide) ?_
    have e_Es : (f_X4_move_Es nl pe sc person sect) = sc := (by simp only [f_X4_move_Es, if_pos c1])
    exact eXi hx hb hr hlk hQ (by rw [e_Es]; exact hP) (by rw [e_Es]; exact hD) hS dX4_move_18 (Eq.symm (by simp only [f_X4_move, if_pos c1]))
  · refine lv_aload_n hx hb dX4_move_8 rfl (lv_at hl 0 rfl) ?_
    refine lv_iload_n hx hb dX4_move_9 rfl (lv_at hl 2 rfl) ?_
    refine rV ⟨hx, hb, hml, hown, hts⟩ (c_X4_isLamp l D cI aO aP aL aLk aLh aLs aE aK aY aN aS ik ofr rd nl sect hn) (cwV 1 hts gX4_move_X4_isLamp rfl rfl rfl hd_X4_isLamp ⟨Nat.le_of_ble_eq_true rfl, Nat.le_of_ble_eq_true rfl⟩) hK (hP.sub [0, 1] rfl) 0 rfl rfl rfl rfl hl.1 (rest := []) (st' := [.int (f_X4_isLamp nl sect)]) rfl rfl (Nat.le_of_ble_eq_true rfl) dX4_move_10 ⟨Nat.zero_le _, Nat.zero_le _⟩ ?_
    refine lv_if_ne (tgt := 19) hx hb dX4_move_13 (by decide) (fun c2 => ?_) (fun c2 => ?_)
    · refine lv_aload_n hx hb dX4_move_19 rfl (lv_at hl 0 rfl) ?_
      refine va_get (D := D) (ci := 4) (v := .ref aE) (C := RX4) (T := TX4) (N := 10) hx hb hts uX4 hown hK hP 0 rfl rfl 2 (by decide) w1 (fun _ h9 => h9) rfl dX4_move_20 ?_
      refine va_get (D := D) (ci := 0) (v := .ref aEs) (C := RX0) (T := TX0) (N := 9) hx hb hts uX0 hown hK hP 2 rfl rfl 3 (by decide) w2 (fun _ h9 => h9) rfl dX4_move_23 ?_
      refine lv_iload_n hx hb dX4_move_26 rfl (lv_at hl 1 rfl) ?_
      refine va_iald hx hb hK hP 3 0 rfl rfl (vin_pers hpe c1) dX4_move_27 ?_
      refine lv_istore_n (lv' := [(3, .int (sc person.toNatClampNeg)), (0, .ref aO), (1, .int person), (2, .int sect)]) hx hb dX4_move_28 rfl hl (by decide) rfl (fun ls hl => ?_)
      refine lv_aload_n hx hb dX4_move_29 rfl (lv_at hl 1 rfl) ?_
      refine va_get (D := D) (ci := 4) (v := .ref aE) (C := RX4) (T := TX4) (N := 10) hx hb hts uX4 hown hK hP 0 rfl rfl 2 (by decide) w1 (fun _ h9 => h9) rfl dX4_move_30 ?_
      refine va_get (D := D) (ci := 0) (v := .ref aEs) (C := RX0) (T := TX0) (N := 9) hx hb hts uX0 hown hK hP 2 rfl rfl 3 (by decide) w2 (fun _ h9 => h9) rfl dX4_move_33 ?_
      refine lv_iload_n hx hb dX4_move_36 rfl (lv_at hl 2 rfl) ?_
      refine lv_iload_n hx hb dX4_move_37 rfl (lv_at hl 3 rfl) ?_
      refine va_iast hx hb hK hP hD hS 3 0 rfl rfl (vin_pers hpe c1) dX4_move_38 (fun H locs hP hD hS => ?_)
      have hP : va_P D vwCl [(aO, .inr (4, [.ref aP, .ref aL, .ref aE, .ref aK, .ref aY, .ref aN, .ref aS, .int ik, .int ofr, .int rd])), (aL, .inr (1, [.ref aLk, .ref aLh, .ref aLs, .int (nI nl)])), (aE, .inr (0, [.int li, .int mi, .int (nI pe), .ref aEs, .ref aEw, .ref aEd, .int to, .ref aEl, .ref aEt])), (aEs, .inl (cI, 4, .inl (upd sc person.toNatClampNeg sect)))] H := hP
      have hD : va_D A [(aO, .inr (4, [.ref aP, .ref aL, .ref aE, .ref aK, .ref aY, .ref aN, .ref aS, .int ik, .int ofr, .int rd])), (aL, .inr (1, [.ref aLk, .ref aLh, .ref aLs, .int (nI nl)])), (aE, .inr (0, [.int li, .int mi, .int (nI pe), .ref aEs, .ref aEw, .ref aEd, .int to, .ref aEl, .ref aEt])), (aEs, .inl (cI, 4, .inl (upd sc person.toNatClampNeg sect)))] := hD
      refine lv_iload_n hx hb dX4_move_39 rfl (lv_at hl 0 rfl) ?_
      have e_Es : (f_X4_move_Es nl pe sc person sect) = (upd sc person.toNatClampNeg sect) := (by simp only [f_X4_move_Es, if_neg c1, if_neg c2])
      exact eXi hx hb hr hlk hQ (by rw [e_Es]; exact hP) (by rw [e_Es]; exact hD) hS dX4_move_40 (Eq.symm (by simp only [f_X4_move, if_neg c1, if_neg c2]))
    · refine lv_bipush (v := (-101)) hx hb dX4_move_16 (by decide) ?_
      have e_Es : (f_X4_move_Es nl pe sc person sect) = sc := (by simp only [f_X4_move_Es, if_neg c1, if_pos c2])
      exact eXi hx hb hr hlk hQ (by rw [e_Es]; exact hP) (by rw [e_Es]; exact hD) hS dX4_move_18 (Eq.symm (by simp only [f_X4_move, if_neg c1, if_pos c2]))

def rm_X4_minute : Room := { frames := 2, cells := 0, slots := 0, locals := 46 }
def f_X4_minute (nl : Nat) (ho : Nat → Int32) (sn : Nat → Int32) (li : Int32) (pe : Nat) (sc : Nat → Int32) (who : Int32) : Int32 := (if (who >>> (nI pe &&& 31)) = 0 then (if (f_X4_hasOffice nl) = 0 then (-103) else (f_X0_inDark pe sc (f_X1_litOnes nl (f_X1_after nl ho sn li (f_X0_stirred pe sc who))))) else (-102))
def f_X4_minute_E_0 (nl : Nat) (ho : Nat → Int32) (sn : Nat → Int32) (li : Int32) (pe : Nat) (sc : Nat → Int32) (who : Int32) : Int32 := (if (who >>> (nI pe &&& 31)) = 0 then (if (f_X4_hasOffice nl) = 0 then li else (f_X1_after nl ho sn li (f_X0_stirred pe sc who))) else li)
def f_X4_minute_E_1 (nl : Nat) (mi : Int32) (pe : Nat) (who : Int32) : Int32 := (if (who >>> (nI pe &&& 31)) = 0 then (if (f_X4_hasOffice nl) = 0 then mi else (mi + 1)) else mi)
def f_X4_minute_Ew (nl : Nat) (pe : Nat) (wv : Nat → Int32) (who : Int32) : Nat → Int32 := (if (who >>> (nI pe &&& 31)) = 0 then (if (f_X4_hasOffice nl) = 0 then wv else (f_X0_write_Ew pe wv who)) else wv)
def f_X4_minute_Ed (nl : Nat) (ho : Nat → Int32) (sn : Nat → Int32) (li : Int32) (pe : Nat) (sc : Nat → Int32) (dk : Nat → Int32) (who : Int32) : Nat → Int32 := (if (who >>> (nI pe &&& 31)) = 0 then (if (f_X4_hasOffice nl) = 0 then dk else (f_X0_write_Ed pe sc dk (f_X1_litOnes nl (f_X1_after nl ho sn li (f_X0_stirred pe sc who))))) else dk)
theorem hd_X4_minute : yX4_minute.cls = RX4 ∧ yX4_minute.cls ≠ "java/lang/invoke/MethodHandle" ∧ yX4_minute.cls ≠ "java/lang/invoke/VarHandle" ∧ (parseMethodDescriptor yX4_minute.desc).map (fun d => d.parameters.length) = some 1 := by decide +kernel
set_option maxHeartbeats 4000000 in
set_option maxRecDepth 100000 in
theorem c_X4_minute (l : Launch) (D : va_G) (cI : ClassId) (aO aP aL aLk aLh aLs aE aEs aEw aEd aEl aEt aK aY aN aS : Nat) (ik : Int32) (ofr : Int32) (rd : Int32) (nl : Nat) (ho : Nat → Int32) (sn : Nat → Int32) (li : Int32) (mi : Int32) (pe : Nat) (to : Int32) (sc : Nat → Int32) (wv : Nat → Int32) (dk : Nat → Int32) (who : Int32) (hn : nl ≤ 6) (hpe : pe ≤ 4) : MetX l yX4_minute wsX4_minute rm_X4_minute D cI [.ref aO, .int who] [(aO, .inr (4, [.ref aP, .ref aL, .ref aE, .ref aK, .ref aY, .ref aN, .ref aS, .int ik, .int ofr, .int rd])), (aL, .inr (1, [.ref aLk, .ref aLh, .ref aLs, .int (nI nl)])), (aLh, .inl (cI, 6, .inl ho)), (aLs, .inl (cI, 6, .inl sn)), (aE, .inr (0, [.int li, .int mi, .int (nI pe), .ref aEs, .ref aEw, .ref aEd, .int to, .ref aEl, .ref aEt])), (aEs, .inl (cI, 4, .inl sc)), (aEw, .inl (cI, 4, .inl wv)), (aEd, .inl (cI, 4, .inl dk))] (some (.int (f_X4_minute nl ho sn li pe sc who))) [(aO, .inr (4, [.ref aP, .ref aL, .ref aE, .ref aK, .ref aY, .ref aN, .ref aS, .int ik, .int ofr, .int rd])), (aL, .inr (1, [.ref aLk, .ref aLh, .ref aLs, .int (nI nl)])), (aLh, .inl (cI, 6, .inl ho)), (aLs, .inl (cI, 6, .inl sn)), (aE, .inr (0, [.int (f_X4_minute_E_0 nl ho sn li pe sc who), .int (f_X4_minute_E_1 nl mi pe who), .int (nI pe), .ref aEs, .ref aEw, .ref aEd, .int to, .ref aEl, .ref aEt])), (aEs, .inl (cI, 4, .inl sc)), (aEw, .inl (cI, 4, .inl (f_X4_minute_Ew nl pe wv who))), (aEd, .inl (cI, 4, .inl (f_X4_minute_Ed nl ho sn li pe sc dk who)))] := by
  refine mX (cc := cX4_minute) (maxL := 2) (ret := (some .int)) (by decide) rfl (Nat.le_of_ble_eq_true rfl) ?_
  intro p e s m args below meth c Q A hx hb hr hml hown hts hlk hP hK hD hA hS hQ ls hl
  have hown : s.vm.findClass RX4 = some m.cls := hown
  have hl : lv_has ls 2 [(0, .ref aO), (1, .int who)] := hl
  have w1 := hts (.fieldLink RX4 26 "DarkOffice" "now" "LDarkOffice$Evening;") (List.mem_of_getElem? (i := 1) rfl)
  have uX4 : ∀ w ∈ wsX40, w ∈ wsX4_minute := fun _ h => List.mem_cons_of_mem _ (List.mem_append_left _ (List.mem_append_left _ (List.mem_append_right _ h)))
  have w2 := hts (.fieldLink RX4 125 "DarkOffice$Evening" "people" "I") (List.mem_of_getElem? (i := 2) rfl)
  have uX0 : ∀ w ∈ wsX00, w ∈ wsX4_minute := fun _ h => List.mem_cons_of_mem _ (List.mem_append_left _ (List.mem_append_right _ h))
  have w3 := hts (.fieldLink RX4 19 "DarkOffice" "lamps" "LDarkOffice$Lamps;") (List.mem_of_getElem? (i := 3) rfl)
  have w4 := hts (.fieldLink RX4 90 "DarkOffice$Evening" "lit" "I") (List.mem_of_getElem? (i := 4) rfl)
  have w5 := hts (.fieldLink RX4 137 "DarkOffice$Evening" "minutes" "I") (List.mem_of_getElem? (i := 5) rfl)
  refine lv_iload_n hx hb dX4_minute_0 rfl (lv_at hl 1 rfl) ?_
  refine lv_aload_n hx hb dX4_minute_1 rfl (lv_at hl 0 rfl) ?_
  refine va_get (D := D) (ci := 4) (v := .ref aE) (C := RX4) (T := TX4) (N := 10) hx hb hts uX4 hown hK hP 0 rfl rfl 2 (by decide) w1 (fun _ h9 => h9) rfl dX4_minute_2 ?_
  refine va_get (D := D) (ci := 0) (v := .int (nI pe)) (C := RX0) (T := TX0) (N := 9) hx hb hts uX0 hown hK hP 4 rfl rfl 2 (by decide) w2 (fun _ h9 => h9) rfl dX4_minute_5 ?_
  refine lv_ishr hx hb dX4_minute_8 ?_
  refine lv_if_eq (tgt := 15) hx hb dX4_minute_9 (by decide) (fun c1 => ?_) (fun c1 => ?_)
  · refine lv_aload_n hx hb dX4_minute_15 rfl (lv_at hl 0 rfl) ?_
    refine rV ⟨hx, hb, hml, hown, hts⟩ (c_X4_hasOffice l D cI aO aP aL aLk aLh aLs aE aK aY aN aS ik ofr rd nl hn) (cwV 0 hts gX4_minute_X4_hasOffice rfl rfl rfl hd_X4_hasOffice ⟨Nat.le_of_ble_eq_true rfl, Nat.le_of_ble_eq_true rfl⟩) hK (hP.sub [0, 1] rfl) 0 rfl rfl rfl rfl hl.1 (rest := []) (st' := [.int (f_X4_hasOffice nl)]) rfl rfl (Nat.le_of_ble_eq_true rfl) dX4_minute_16 ⟨Nat.zero_le _, Nat.zero_le _⟩ ?_
    refine lv_if_ne (tgt := 25) hx hb dX4_minute_19 (by decide) (fun c2 => ?_) (fun c2 => ?_)
    · refine lv_aload_n hx hb dX4_minute_25 rfl (lv_at hl 0 rfl) ?_
      refine va_get (D := D) (ci := 4) (v := .ref aE) (C := RX4) (T := TX4) (N := 10) hx hb hts uX4 hown hK hP 0 rfl rfl 2 (by decide) w1 (fun _ h9 => h9) rfl dX4_minute_26 ?_
      refine lv_aload_n hx hb dX4_minute_29 rfl (lv_at hl 0 rfl) ?_
      refine va_get (D := D) (ci := 4) (v := .ref aL) (C := RX4) (T := TX4) (N := 10) hx hb hts uX4 hown hK hP 0 rfl rfl 1 (by decide) w3 (fun _ h9 => h9) rfl dX4_minute_30 ?_
      refine lv_aload_n hx hb dX4_minute_33 rfl (lv_at hl 0 rfl) ?_
      refine va_get (D := D) (ci := 4) (v := .ref aE) (C := RX4) (T := TX4) (N := 10) hx hb hts uX4 hown hK hP 0 rfl rfl 2 (by decide) w1 (fun _ h9 => h9) rfl dX4_minute_34 ?_
      refine va_get (D := D) (ci := 0) (v := .int li) (C := RX0) (T := TX0) (N := 9) hx hb hts uX0 hown hK hP 4 rfl rfl 0 (by decide) w4 (fun _ h9 => h9) rfl dX4_minute_37 ?_
      refine lv_aload_n hx hb dX4_minute_40 rfl (lv_at hl 0 rfl) ?_
      refine va_get (D := D) (ci := 4) (v := .ref aE) (C := RX4) (T := TX4) (N := 10) hx hb hts uX4 hown hK hP 0 rfl rfl 2 (by decide) w1 (fun _ h9 => h9) rfl dX4_minute_41 ?_
      refine lv_iload_n hx hb dX4_minute_44 rfl (lv_at hl 1 rfl) ?_
      refine rV ⟨hx, hb, hml, hown, hts⟩ (c_X0_stirred l D cI aE aEs aEw aEd aEl aEt li mi pe to sc who hpe) (cwV 1 hts gX4_minute_X0_stirred rfl rfl rfl hd_X0_stirred ⟨Nat.le_of_ble_eq_true rfl, Nat.le_of_ble_eq_true rfl⟩) hK (hP.sub [4, 5] rfl) 0 rfl rfl rfl rfl hl.1 (rest := [.int li, .ref aL, .ref aE]) (st' := [.int (f_X0_stirred pe sc who), .int li, .ref aL, .ref aE]) rfl rfl (Nat.le_of_ble_eq_true rfl) dX4_minute_45 ⟨Nat.zero_le _, Nat.zero_le _⟩ ?_
      refine rV ⟨hx, hb, hml, hown, hts⟩ (c_X1_after l D cI aL aLk aLh aLs nl ho sn li (f_X0_stirred pe sc who) hn) (cwV 2 hts gX4_minute_X1_after rfl rfl rfl hd_X1_after ⟨Nat.le_of_ble_eq_true rfl, Nat.le_of_ble_eq_true rfl⟩) hK (hP.sub [1, 2, 3] rfl) 0 rfl rfl rfl rfl hl.1 (rest := [.ref aE]) (st' := [.int (f_X1_after nl ho sn li (f_X0_stirred pe sc who)), .ref aE]) rfl rfl (Nat.le_of_ble_eq_true rfl) dX4_minute_48 ⟨Nat.zero_le _, Nat.zero_le _⟩ ?_
      refine va_put (D := D) (ci := 0) (v := .int (f_X1_after nl ho sn li (f_X0_stirred pe sc who))) (ty := .int) (C := RX0) (T := TX0) (N := 9) hx hb hts uX0 tyX0 tyX0_ok nmX0 hown hK hP hD hS 4 rfl rfl 0 (by decide) w4 (fun _ h9 => h9) rfl (by decide +kernel) rfl rfl (Nat.le_of_ble_eq_true rfl) dX4_minute_51 (fun H locs hP hD hS => ?_)
      have hP : va_P D vwCl [(aO, .inr (4, [.ref aP, .ref aL, .ref aE, .ref aK, .ref aY, .ref aN, .ref aS, .int ik, .int ofr, .int rd])), (aL, .inr (1, [.ref aLk, .ref aLh, .ref aLs, .int (nI nl)])), (aLh, .inl (cI, 6, .inl ho)), (aLs, .inl (cI, 6, .inl sn)), (aE, .inr (0, [.int (f_X1_after nl ho sn li (f_X0_stirred pe sc who)), .int mi, .int (nI pe), .ref aEs, .ref aEw, .ref aEd, .int to, .ref aEl, .ref aEt])), (aEs, .inl (cI, 4, .inl sc)), (aEw, .inl (cI, 4, .inl wv)), (aEd, .inl (cI, 4, .inl dk))] H := hP
      have hD : va_D A [(aO, .inr (4, [.ref aP, .ref aL, .ref aE, .ref aK, .ref aY, .ref aN, .ref aS, .int ik, .int ofr, .int rd])), (aL, .inr (1, [.ref aLk, .ref aLh, .ref aLs, .int (nI nl)])), (aLh, .inl (cI, 6, .inl ho)), (aLs, .inl (cI, 6, .inl sn)), (aE, .inr (0, [.int (f_X1_after nl ho sn li (f_X0_stirred pe sc who)), .int mi, .int (nI pe), .ref aEs, .ref aEw, .ref aEd, .int to, .ref aEl, .ref aEt])), (aEs, .inl (cI, 4, .inl sc)), (aEw, .inl (cI, 4, .inl wv)), (aEd, .inl (cI, 4, .inl dk))] := hD
      refine lv_aload_n hx hb dX4_minute_54 rfl (lv_at hl 0 rfl) ?_
      refine va_get (D := D) (ci := 4) (v := .ref aE) (C := RX4) (T := TX4) (N := 10) hx hb hts uX4 hown hK hP 0 rfl rfl 2 (by decide) w1 (fun _ h9 => h9) rfl dX4_minute_55 ?_
      refine lv_dup hx hb dX4_minute_58 rfl ?_
      refine va_get (D := D) (ci := 0) (v := .int mi) (C := RX0) (T := TX0) (N := 9) hx hb hts uX0 hown hK hP 4 rfl rfl 1 (by decide) w5 (fun _ h9 => h9) rfl dX4_minute_59 ?_
      refine lv_iconst (v := 1) hx hb dX4_minute_62 (by decide) ?_
      refine lv_iadd hx hb dX4_minute_63 ?_
      refine va_put (D := D) (ci := 0) (v := .int (mi + 1)) (ty := .int) (C := RX0) (T := TX0) (N := 9) hx hb hts uX0 tyX0 tyX0_ok nmX0 hown hK hP hD hS 4 rfl rfl 1 (by decide) w5 (fun _ h9 => h9) rfl (by decide +kernel) rfl rfl (Nat.le_of_ble_eq_true rfl) dX4_minute_64 (fun H locs hP hD hS => ?_)
      have hP : va_P D vwCl [(aO, .inr (4, [.ref aP, .ref aL, .ref aE, .ref aK, .ref aY, .ref aN, .ref aS, .int ik, .int ofr, .int rd])), (aL, .inr (1, [.ref aLk, .ref aLh, .ref aLs, .int (nI nl)])), (aLh, .inl (cI, 6, .inl ho)), (aLs, .inl (cI, 6, .inl sn)), (aE, .inr (0, [.int (f_X1_after nl ho sn li (f_X0_stirred pe sc who)), .int (mi + 1), .int (nI pe), .ref aEs, .ref aEw, .ref aEd, .int to, .ref aEl, .ref aEt])), (aEs, .inl (cI, 4, .inl sc)), (aEw, .inl (cI, 4, .inl wv)), (aEd, .inl (cI, 4, .inl dk))] H := hP
      have hD : va_D A [(aO, .inr (4, [.ref aP, .ref aL, .ref aE, .ref aK, .ref aY, .ref aN, .ref aS, .int ik, .int ofr, .int rd])), (aL, .inr (1, [.ref aLk, .ref aLh, .ref aLs, .int (nI nl)])), (aLh, .inl (cI, 6, .inl ho)), (aLs, .inl (cI, 6, .inl sn)), (aE, .inr (0, [.int (f_X1_after nl ho sn li (f_X0_stirred pe sc who)), .int (mi + 1), .int (nI pe), .ref aEs, .ref aEw, .ref aEd, .int to, .ref aEl, .ref aEt])), (aEs, .inl (cI, 4, .inl sc)), (aEw, .inl (cI, 4, .inl wv)), (aEd, .inl (cI, 4, .inl dk))] := hD
      refine lv_aload_n hx hb dX4_minute_67 rfl (lv_at hl 0 rfl) ?_
      refine va_get (D := D) (ci := 4) (v := .ref aE) (C := RX4) (T := TX4) (N := 10) hx hb hts uX4 hown hK hP 0 rfl rfl 2 (by decide) w1 (fun _ h9 => h9) rfl dX4_minute_68 ?_
      refine lv_iload_n hx hb dX4_minute_71 rfl (lv_at hl 1 rfl) ?_
      refine lv_aload_n hx hb dX4_minute_72 rfl (lv_at hl 0 rfl) ?_
      refine va_get (D := D) (ci := 4) (v := .ref aL) (C := RX4) (T := TX4) (N := 10) hx hb hts uX4 hown hK hP 0 rfl rfl 1 (by decide) w3 (fun _ h9 => h9) rfl dX4_minute_73 ?_
      refine lv_aload_n hx hb dX4_minute_76 rfl (lv_at hl 0 rfl) ?_
      refine va_get (D := D) (ci := 4) (v := .ref aE) (C := RX4) (T := TX4) (N := 10) hx hb hts uX4 hown hK hP 0 rfl rfl 2 (by decide) w1 (fun _ h9 => h9) rfl dX4_minute_77 ?_
      refine va_get (D := D) (ci := 0) (v := .int (f_X1_after nl ho sn li (f_X0_stirred pe sc who))) (C := RX0) (T := TX0) (N := 9) hx hb hts uX0 hown hK hP 4 rfl rfl 0 (by decide) w4 (fun _ h9 => h9) rfl dX4_minute_80 ?_
      refine rV ⟨hx, hb, hml, hown, hts⟩ (c_X1_litOnes l D cI aL aLk aLh aLs nl (f_X1_after nl ho sn li (f_X0_stirred pe sc who)) hn) (cwV 1 hts gX4_minute_X1_litOnes rfl rfl rfl hd_X1_litOnes ⟨Nat.le_of_ble_eq_true rfl, Nat.le_of_ble_eq_true rfl⟩) hK (hP.sub [1] rfl) 0 rfl rfl rfl rfl hl.1 (rest := [.int who, .ref aE]) (st' := [.int (f_X1_litOnes nl (f_X1_after nl ho sn li (f_X0_stirred pe sc who))), .int who, .ref aE]) rfl rfl (Nat.le_of_ble_eq_true rfl) dX4_minute_83 ⟨Nat.zero_le _, Nat.zero_le _⟩ ?_
      refine xV (w2 := [(aO, .inr (4, [.ref aP, .ref aL, .ref aE, .ref aK, .ref aY, .ref aN, .ref aS, .int ik, .int ofr, .int rd])), (aL, .inr (1, [.ref aLk, .ref aLh, .ref aLs, .int (nI nl)])), (aLh, .inl (cI, 6, .inl ho)), (aLs, .inl (cI, 6, .inl sn)), (aE, .inr (0, [.int (f_X1_after nl ho sn li (f_X0_stirred pe sc who)), .int (mi + 1), .int (nI pe), .ref aEs, .ref aEw, .ref aEd, .int to, .ref aEl, .ref aEt])), (aEs, .inl (cI, 4, .inl sc)), (aEw, .inl (cI, 4, .inl (f_X0_write_Ew pe wv who))), (aEd, .inl (cI, 4, .inl (f_X0_write_Ed pe sc dk (f_X1_litOnes nl (f_X1_after nl ho sn li (f_X0_stirred pe sc who))))))]) ⟨hx, hb, hml, hown, hts⟩ (c_X0_write l D cI aE aEs aEw aEd aEl aEt (f_X1_after nl ho sn li (f_X0_stirred pe sc who)) (mi + 1) pe to sc wv dk (f_X1_litOnes nl (f_X1_after nl ho sn li (f_X0_stirred pe sc who))) who hpe) (cwV 2 hts gX4_minute_X0_write rfl rfl rfl hd_X0_write ⟨Nat.le_of_ble_eq_true rfl, Nat.le_of_ble_eq_true rfl⟩) hK hP hD hS hA [4, 5, 6, 7] [0, 1, 2, 3] [0, 1, 2, 3, 4, 5, 6, 7] rfl rfl rfl rfl rfl (by decide) rfl rfl rfl 0 rfl rfl rfl rfl hl.1 (rest := []) (st' := []) rfl rfl (Nat.le_of_ble_eq_true rfl) dX4_minute_86 ⟨Nat.zero_le _, Nat.zero_le _⟩ (fun H locs hP hD hS => ?_)
      refine lv_aload_n hx hb dX4_minute_89 rfl (lv_at hl 0 rfl) ?_
      refine va_get (D := D) (ci := 4) (v := .ref aE) (C := RX4) (T := TX4) (N := 10) hx hb hts uX4 hown hK hP 0 rfl rfl 2 (by decide) w1 (fun _ h9 => h9) rfl dX4_minute_90 ?_
      refine lv_aload_n hx hb dX4_minute_93 rfl (lv_at hl 0 rfl) ?_
      refine va_get (D := D) (ci := 4) (v := .ref aL) (C := RX4) (T := TX4) (N := 10) hx hb hts uX4 hown hK hP 0 rfl rfl 1 (by decide) w3 (fun _ h9 => h9) rfl dX4_minute_94 ?_
      refine lv_aload_n hx hb dX4_minute_97 rfl (lv_at hl 0 rfl) ?_
      refine va_get (D := D) (ci := 4) (v := .ref aE) (C := RX4) (T := TX4) (N := 10) hx hb hts uX4 hown hK hP 0 rfl rfl 2 (by decide) w1 (fun _ h9 => h9) rfl dX4_minute_98 ?_
      refine va_get (D := D) (ci := 0) (v := .int (f_X1_after nl ho sn li (f_X0_stirred pe sc who))) (C := RX0) (T := TX0) (N := 9) hx hb hts uX0 hown hK hP 4 rfl rfl 0 (by decide) w4 (fun _ h9 => h9) rfl dX4_minute_101 ?_
      refine rV ⟨hx, hb, hml, hown, hts⟩ (c_X1_litOnes l D cI aL aLk aLh aLs nl (f_X1_after nl ho sn li (f_X0_stirred pe sc who)) hn) (cwV 1 hts gX4_minute_X1_litOnes rfl rfl rfl hd_X1_litOnes ⟨Nat.le_of_ble_eq_true rfl, Nat.le_of_ble_eq_true rfl⟩) hK (hP.sub [1] rfl) 0 rfl rfl rfl rfl hl.1 (rest := [.ref aE]) (st' := [.int (f_X1_litOnes nl (f_X1_after nl ho sn li (f_X0_stirred pe sc who))), .ref aE]) rfl rfl (Nat.le_of_ble_eq_true rfl) dX4_minute_104 ⟨Nat.zero_le _, Nat.zero_le _⟩ ?_
      refine rV ⟨hx, hb, hml, hown, hts⟩ (c_X0_inDark l D cI aE aEs aEw aEd aEl aEt (f_X1_after nl ho sn li (f_X0_stirred pe sc who)) (mi + 1) pe to sc (f_X1_litOnes nl (f_X1_after nl ho sn li (f_X0_stirred pe sc who))) hpe) (cwV 1 hts gX4_minute_X0_inDark rfl rfl rfl hd_X0_inDark ⟨Nat.le_of_ble_eq_true rfl, Nat.le_of_ble_eq_true rfl⟩) hK (hP.sub [4, 5] rfl) 0 rfl rfl rfl rfl hl.1 (rest := []) (st' := [.int (f_X0_inDark pe sc (f_X1_litOnes nl (f_X1_after nl ho sn li (f_X0_stirred pe sc who))))]) rfl rfl (Nat.le_of_ble_eq_true rfl) dX4_minute_107 ⟨Nat.zero_le _, Nat.zero_le _⟩ ?_
      have e_E_0 : (f_X4_minute_E_0 nl ho sn li pe sc who) = (f_X1_after nl ho sn li (f_X0_stirred pe sc who)) := (by simp only [f_X4_minute_E_0, if_pos c1, if_neg c2])
      have e_E_1 : (f_X4_minute_E_1 nl mi pe who) = (mi + 1) := (by simp only [f_X4_minute_E_1, if_pos c1, if_neg c2])
      have e_Ew : (f_X4_minute_Ew nl pe wv who) = (f_X0_write_Ew pe wv who) := (by simp only [f_X4_minute_Ew, if_pos c1, if_neg c2])
      have e_Ed : (f_X4_minute_Ed nl ho sn li pe sc dk who) = (f_X0_write_Ed pe sc dk (f_X1_litOnes nl (f_X1_after nl ho sn li (f_X0_stirred pe sc who)))) := (by simp only [f_X4_minute_Ed, if_pos c1, if_neg c2])
      exact eXi hx hb hr hlk hQ (by rw [e_E_0, e_E_1, e_Ew, e_Ed]; exact hP) (by rw [e_E_0, e_E_1, e_Ew, e_Ed]; exact hD) hS dX4_minute_110 (Eq.symm (by simp only [f_X4_minute, if_pos c1, if_neg c2]))
    · refine lv_bipush (v := (-103)) hx hb dX4_minute_22 (by decide) ?_
      have e_E_0 : (f_X4_minute_E_0 nl ho sn li pe sc who) = li := (by simp only [f_X4_minute_E_0, if_pos c1, if_pos c2])
      have e_E_1 : (f_X4_minute_E_1 nl mi pe who) = mi := (by simp only [f_X4_minute_E_1, if_pos c1, if_pos c2])
      have e_Ew : (f_X4_minute_Ew nl pe wv who) = wv := (by simp only [f_X4_minute_Ew, if_pos c1, if_pos c2])
      have e_Ed : (f_X4_minute_Ed nl ho sn li pe sc dk who) = dk := (by simp only [f_X4_minute_Ed, if_pos c1, if_pos c2])
      exact eXi hx hb hr hlk hQ (by rw [e_E_0, e_E_1, e_Ew, e_Ed]; exact hP) (by rw [e_E_0, e_E_1, e_Ew, e_Ed]; exact hD) hS dX4_minute_24 (Eq.symm (by simp only [f_X4_minute, if_pos c1, if_pos c2]))
  · refine lv_bipush (v := (-102)) hx hb dX4_minute_12 (by decide) ?_
    have e_E_0 : (f_X4_minute_E_0 nl ho sn li pe sc who) = li := (by simp only [f_X4_minute_E_0, if_neg c1])
    have e_E_1 : (f_X4_minute_E_1 nl mi pe who) = mi := (by simp only [f_X4_minute_E_1, if_neg c1])
    have e_Ew : (f_X4_minute_Ew nl pe wv who) = wv := (by simp only [f_X4_minute_Ew, if_neg c1])
    have e_Ed : (f_X4_minute_Ed nl ho sn li pe sc dk who) = dk := (by simp only [f_X4_minute_Ed, if_neg c1])
    exact eXi hx hb hr hlk hQ (by rw [e_E_0, e_E_1, e_Ew, e_Ed]; exact hP) (by rw [e_E_0, e_E_1, e_Ew, e_Ed]; exact hD) hS dX4_minute_14 (Eq.symm (by simp only [f_X4_minute, if_neg c1]))

def rm_X4_together : Room := { frames := 2, cells := 0, slots := 0, locals := 45 }
def f_X4_together (nl : Nat) (sn : Nat → Int32) (what : Int32) : Int32 := (if what < 0 then (-102) else (if what ≤ 1 then (if (f_X4_hasOffice nl) = 0 then (-103) else (if what = 0 then (f_X1_mostSeen nl sn) else (f_X1_seeing nl sn (f_X1_mostSeen nl sn)))) else (-102)))
theorem hd_X4_together : yX4_together.cls = RX4 ∧ yX4_together.cls ≠ "java/lang/invoke/MethodHandle" ∧ yX4_together.cls ≠ "java/lang/invoke/VarHandle" ∧ (parseMethodDescriptor yX4_together.desc).map (fun d => d.parameters.length) = some 1 := by decide +kernel
set_option maxHeartbeats 4000000 in
set_option maxRecDepth 100000 in
theorem c_X4_together (l : Launch) (D : va_G) (cI : ClassId) (aO aP aL aLk aLh aLs aE aK aY aN aS : Nat) (ik : Int32) (ofr : Int32) (rd : Int32) (nl : Nat) (sn : Nat → Int32) (what : Int32) (hn : nl ≤ 6) : MetR l yX4_together wsX4_together rm_X4_together D cI [.ref aO, .int what] [(aO, .inr (4, [.ref aP, .ref aL, .ref aE, .ref aK, .ref aY, .ref aN, .ref aS, .int ik, .int ofr, .int rd])), (aL, .inr (1, [.ref aLk, .ref aLh, .ref aLs, .int (nI nl)])), (aLs, .inl (cI, 6, .inl sn))] (some (.int (f_X4_together nl sn what))) := by
  refine mR (cc := cX4_together) (maxL := 3) (ret := (some .int)) (by decide) rfl (Nat.le_of_ble_eq_true rfl) ?_
  intro p e s m args below meth c Q hx hb hr hml hown hts hlk hP hK hQ ls hl
  have hown : s.vm.findClass RX4 = some m.cls := hown
  have hl : lv_has ls 3 [(0, .ref aO), (1, .int what)] := hl
  have w1 := hts (.fieldLink RX4 19 "DarkOffice" "lamps" "LDarkOffice$Lamps;") (List.mem_of_getElem? (i := 1) rfl)
  have uX4 : ∀ w ∈ wsX40, w ∈ wsX4_together := fun _ h => List.mem_cons_of_mem _ (List.mem_append_left _ (List.mem_append_right _ h))
  refine lv_iload_n hx hb dX4_together_0 rfl (lv_at hl 1 rfl) ?_
  refine lv_if_lt (tgt := 9) hx hb dX4_together_1 (by decide) (fun c1 => ?_) (fun c1 => ?_)
  · refine lv_bipush (v := (-102)) hx hb dX4_together_9 (by decide) ?_
    exact eRi hx hb hr hlk hQ dX4_together_11 (Eq.symm (by simp only [f_X4_together, if_pos c1]))
  · refine lv_iload_n hx hb dX4_together_4 rfl (lv_at hl 1 rfl) ?_
    refine lv_iconst (v := 1) hx hb dX4_together_5 (by decide) ?_
    refine lv_icmp_le (tgt := 12) hx hb dX4_together_6 (by decide) (fun c2 => ?_) (fun c2 => ?_)
    · refine lv_aload_n hx hb dX4_together_12 rfl (lv_at hl 0 rfl) ?_
      refine rV ⟨hx, hb, hml, hown, hts⟩ (c_X4_hasOffice l D cI aO aP aL aLk aLh aLs aE aK aY aN aS ik ofr rd nl hn) (cwV 0 hts gX4_together_X4_hasOffice rfl rfl rfl hd_X4_hasOffice ⟨Nat.le_of_ble_eq_true rfl, Nat.le_of_ble_eq_true rfl⟩) hK (hP.sub [0, 1] rfl) 0 rfl rfl rfl rfl hl.1 (rest := []) (st' := [.int (f_X4_hasOffice nl)]) rfl rfl (Nat.le_of_ble_eq_true rfl) dX4_together_13 ⟨Nat.zero_le _, Nat.zero_le _⟩ ?_
      refine lv_if_ne (tgt := 22) hx hb dX4_together_16 (by decide) (fun c3 => ?_) (fun c3 => ?_)
      · refine lv_aload_n hx hb dX4_together_22 rfl (lv_at hl 0 rfl) ?_
        refine va_get (D := D) (ci := 4) (v := .ref aL) (C := RX4) (T := TX4) (N := 10) hx hb hts uX4 hown hK hP 0 rfl rfl 1 (by decide) w1 (fun _ h9 => h9) rfl dX4_together_23 ?_
        refine rV ⟨hx, hb, hml, hown, hts⟩ (c_X1_mostSeen l D cI aL aLk aLh aLs nl sn hn) (cwV 0 hts gX4_together_X1_mostSeen rfl rfl rfl hd_X1_mostSeen ⟨Nat.le_of_ble_eq_true rfl, Nat.le_of_ble_eq_true rfl⟩) hK (hP.sub [1, 2] rfl) 0 rfl rfl rfl rfl hl.1 (rest := []) (st' := [.int (f_X1_mostSeen nl sn)]) rfl rfl (Nat.le_of_ble_eq_true rfl) dX4_together_26 ⟨Nat.zero_le _, Nat.zero_le _⟩ ?_
        refine lv_istore_n (lv' := [(2, .int (f_X1_mostSeen nl sn)), (0, .ref aO), (1, .int what)]) hx hb dX4_together_29 rfl hl (by decide) rfl (fun ls hl => ?_)
        refine lv_iload_n hx hb dX4_together_30 rfl (lv_at hl 2 rfl) ?_
        refine lv_if_ne (tgt := 38) hx hb dX4_together_31 (by decide) (fun c4 => ?_) (fun c4 => ?_)
        · refine lv_aload_n hx hb dX4_together_38 rfl (lv_at hl 1 rfl) ?_
          refine va_get (D := D) (ci := 4) (v := .ref aL) (C := RX4) (T := TX4) (N := 10) hx hb hts uX4 hown hK hP 0 rfl rfl 1 (by decide) w1 (fun _ h9 => h9) rfl dX4_together_39 ?_
          refine lv_iload_n hx hb dX4_together_42 rfl (lv_at hl 0 rfl) ?_
          refine rV ⟨hx, hb, hml, hown, hts⟩ (c_X1_seeing l D cI aL aLk aLh aLs nl sn (f_X1_mostSeen nl sn) hn) (cwV 1 hts gX4_together_X1_seeing rfl rfl rfl hd_X1_seeing ⟨Nat.le_of_ble_eq_true rfl, Nat.le_of_ble_eq_true rfl⟩) hK (hP.sub [1, 2] rfl) 0 rfl rfl rfl rfl hl.1 (rest := []) (st' := [.int (f_X1_seeing nl sn (f_X1_mostSeen nl sn))]) rfl rfl (Nat.le_of_ble_eq_true rfl) dX4_together_43 ⟨Nat.zero_le _, Nat.zero_le _⟩ ?_
          exact eRi hx hb hr hlk hQ dX4_together_46 (Eq.symm (by simp only [f_X4_together, if_neg c1, if_pos c2, if_neg c3, if_neg c4]))
        · refine lv_iload_n hx hb dX4_together_34 rfl (lv_at hl 0 rfl) ?_
          refine lv_goto (tgt := 46) hx hb dX4_together_35 (by decide) ?_
          exact eRi hx hb hr hlk hQ dX4_together_46 (Eq.symm (by simp only [f_X4_together, if_neg c1, if_pos c2, if_neg c3, if_pos c4]))
      · refine lv_bipush (v := (-103)) hx hb dX4_together_19 (by decide) ?_
        exact eRi hx hb hr hlk hQ dX4_together_21 (Eq.symm (by simp only [f_X4_together, if_neg c1, if_pos c2, if_pos c3]))
    · refine lv_bipush (v := (-102)) hx hb dX4_together_9 (by decide) ?_
      exact eRi hx hb hr hlk hQ dX4_together_11 (Eq.symm (by simp only [f_X4_together, if_neg c1, if_neg c2]))

def rm_X4_book : Room := { frames := 1, cells := 0, slots := 0, locals := 23 }
def f_X4_book (nl : Nat) (to : Int32) (lamp : Int32) (minutes : Int32) : Int32 := (if minutes < 0 then (-102) else (if minutes ≤ 6 then (if (f_X4_isLamp nl lamp) = 0 then (-101) else (f_X0_tell to)) else (-102)))
def f_X4_book_E_6 (nl : Nat) (to : Int32) (lamp : Int32) (minutes : Int32) : Int32 := (if minutes < 0 then to else (if minutes ≤ 6 then (if (f_X4_isLamp nl lamp) = 0 then to else (f_X0_tell_E_6 to)) else to))
def f_X4_book_El (nl : Nat) (to : Int32) (tl : Nat → Int32) (lamp : Int32) (lit : Int32) (minutes : Int32) : Nat → Int32 := (if minutes < 0 then tl else (if minutes ≤ 6 then (if (f_X4_isLamp nl lamp) = 0 then tl else (f_X0_tell_El to tl lit lamp minutes)) else tl))
def f_X4_book_Et (nl : Nat) (to : Int32) (td : Nat → Int32) (lamp : Int32) (lit : Int32) (minutes : Int32) : Nat → Int32 := (if minutes < 0 then td else (if minutes ≤ 6 then (if (f_X4_isLamp nl lamp) = 0 then td else (f_X0_tell_Et to td lit lamp minutes)) else td))
theorem hd_X4_book : yX4_book.cls = RX4 ∧ yX4_book.cls ≠ "java/lang/invoke/MethodHandle" ∧ yX4_book.cls ≠ "java/lang/invoke/VarHandle" ∧ (parseMethodDescriptor yX4_book.desc).map (fun d => d.parameters.length) = some 3 := by decide +kernel
set_option maxHeartbeats 4000000 in
set_option maxRecDepth 100000 in
theorem c_X4_book (l : Launch) (D : va_G) (cI : ClassId) (aO aP aL aLk aLh aLs aE aEs aEw aEd aEl aEt aK aY aN aS : Nat) (ik : Int32) (ofr : Int32) (rd : Int32) (nl : Nat) (li : Int32) (mi : Int32) (pe : Nat) (to : Int32) (tl : Nat → Int32) (td : Nat → Int32) (lamp : Int32) (lit : Int32) (minutes : Int32) (hn : nl ≤ 6) : MetX l yX4_book wsX4_book rm_X4_book D cI [.ref aO, .int minutes, .int lamp, .int lit] [(aO, .inr (4, [.ref aP, .ref aL, .ref aE, .ref aK, .ref aY, .ref aN, .ref aS, .int ik, .int ofr, .int rd])), (aL, .inr (1, [.ref aLk, .ref aLh, .ref aLs, .int (nI nl)])), (aE, .inr (0, [.int li, .int mi, .int (nI pe), .ref aEs, .ref aEw, .ref aEd, .int to, .ref aEl, .ref aEt])), (aEl, .inl (cI, 7, .inl tl)), (aEt, .inl (cI, 7, .inl td))] (some (.int (f_X4_book nl to lamp minutes))) [(aO, .inr (4, [.ref aP, .ref aL, .ref aE, .ref aK, .ref aY, .ref aN, .ref aS, .int ik, .int ofr, .int rd])), (aL, .inr (1, [.ref aLk, .ref aLh, .ref aLs, .int (nI nl)])), (aE, .inr (0, [.int li, .int mi, .int (nI pe), .ref aEs, .ref aEw, .ref aEd, .int (f_X4_book_E_6 nl to lamp minutes), .ref aEl, .ref aEt])), (aEl, .inl (cI, 7, .inl (f_X4_book_El nl to tl lamp lit minutes))), (aEt, .inl (cI, 7, .inl (f_X4_book_Et nl to td lamp lit minutes)))] := by
  refine mX (cc := cX4_book) (maxL := 4) (ret := (some .int)) (by decide) rfl (Nat.le_of_ble_eq_true rfl) ?_
  intro p e s m args below meth c Q A hx hb hr hml hown hts hlk hP hK hD hA hS hQ ls hl
  have hown : s.vm.findClass RX4 = some m.cls := hown
  have hl : lv_has ls 4 [(0, .ref aO), (1, .int minutes), (2, .int lamp), (3, .int lit)] := hl
  have w1 := hts (.fieldLink RX4 26 "DarkOffice" "now" "LDarkOffice$Evening;") (List.mem_of_getElem? (i := 1) rfl)
  have uX4 : ∀ w ∈ wsX40, w ∈ wsX4_book := fun _ h => List.mem_cons_of_mem _ (List.mem_append_left _ (List.mem_append_left _ (List.mem_append_right _ h)))
  refine lv_iload_n hx hb dX4_book_0 rfl (lv_at hl 1 rfl) ?_
  refine lv_if_lt (tgt := 10) hx hb dX4_book_1 (by decide) (fun c1 => ?_) (fun c1 => ?_)
  · refine lv_bipush (v := (-102)) hx hb dX4_book_10 (by decide) ?_
    have e_E_6 : (f_X4_book_E_6 nl to lamp minutes) = to := (by simp only [f_X4_book_E_6, if_pos c1])
    have e_El : (f_X4_book_El nl to tl lamp lit minutes) = tl := (by simp only [f_X4_book_El, if_pos c1])
    have e_Et : (f_X4_book_Et nl to td lamp lit minutes) = td := (by simp only [f_X4_book_Et, if_pos c1])
    exact eXi hx hb hr hlk hQ (by rw [e_E_6, e_El, e_Et]; exact hP) (by rw [e_E_6, e_El, e_Et]; exact hD) hS dX4_book_12 (Eq.symm (by simp only [f_X4_book, if_pos c1]))
  · refine lv_iload_n hx hb dX4_book_4 rfl (lv_at hl 1 rfl) ?_
    refine lv_bipush (v := 6) hx hb dX4_book_5 (by decide) ?_
    refine lv_icmp_le (tgt := 13) hx hb dX4_book_7 (by decide) (fun c2 => ?_) (fun c2 => ?_)
    · refine lv_aload_n hx hb dX4_book_13 rfl (lv_at hl 0 rfl) ?_
      refine lv_iload_n hx hb dX4_book_14 rfl (lv_at hl 2 rfl) ?_
      refine rV ⟨hx, hb, hml, hown, hts⟩ (c_X4_isLamp l D cI aO aP aL aLk aLh aLs aE aK aY aN aS ik ofr rd nl lamp hn) (cwV 1 hts gX4_book_X4_isLamp rfl rfl rfl hd_X4_isLamp ⟨Nat.le_of_ble_eq_true rfl, Nat.le_of_ble_eq_true rfl⟩) hK (hP.sub [0, 1] rfl) 0 rfl rfl rfl rfl hl.1 (rest := []) (st' := [.int (f_X4_isLamp nl lamp)]) rfl rfl (Nat.le_of_ble_eq_true rfl) dX4_book_15 ⟨Nat.zero_le _, Nat.zero_le _⟩ ?_
      refine lv_if_ne (tgt := 24) hx hb dX4_book_18 (by decide) (fun c3 => ?_) (fun c3 => ?_)
      · refine lv_aload_n hx hb dX4_book_24 rfl (lv_at hl 0 rfl) ?_
        refine va_get (D := D) (ci := 4) (v := .ref aE) (C := RX4) (T := TX4) (N := 10) hx hb hts uX4 hown hK hP 0 rfl rfl 2 (by decide) w1 (fun _ h9 => h9) rfl dX4_book_25 ?_
        refine lv_iload_n hx hb dX4_book_28 rfl (lv_at hl 1 rfl) ?_
        refine lv_iload_n hx hb dX4_book_29 rfl (lv_at hl 2 rfl) ?_
        refine lv_iload_n hx hb dX4_book_30 rfl (lv_at hl 3 rfl) ?_
        refine xV (w2 := [(aO, .inr (4, [.ref aP, .ref aL, .ref aE, .ref aK, .ref aY, .ref aN, .ref aS, .int ik, .int ofr, .int rd])), (aL, .inr (1, [.ref aLk, .ref aLh, .ref aLs, .int (nI nl)])), (aE, .inr (0, [.int li, .int mi, .int (nI pe), .ref aEs, .ref aEw, .ref aEd, .int (f_X0_tell_E_6 to), .ref aEl, .ref aEt])), (aEl, .inl (cI, 7, .inl (f_X0_tell_El to tl lit lamp minutes))), (aEt, .inl (cI, 7, .inl (f_X0_tell_Et to td lit lamp minutes)))]) ⟨hx, hb, hml, hown, hts⟩ (c_X0_tell l D cI aE aEs aEw aEd aEl aEt li mi pe to tl td lit lamp minutes (vin6 c1 c2)) (cwV 3 hts gX4_book_X0_tell rfl rfl rfl hd_X0_tell ⟨Nat.le_of_ble_eq_true rfl, Nat.le_of_ble_eq_true rfl⟩) hK hP hD hS hA [2, 3, 4] [0, 1] [0, 1, 2, 3, 4] rfl rfl rfl rfl rfl (by decide) rfl rfl rfl 0 rfl rfl rfl rfl hl.1 (rest := []) (st' := [.int (f_X0_tell to)]) rfl rfl (Nat.le_of_ble_eq_true rfl) dX4_book_31 ⟨Nat.zero_le _, Nat.zero_le _⟩ (fun H locs hP hD hS => ?_)
        have e_E_6 : (f_X4_book_E_6 nl to lamp minutes) = (f_X0_tell_E_6 to) := (by simp only [f_X4_book_E_6, if_neg c1, if_pos c2, if_neg c3])
        have e_El : (f_X4_book_El nl to tl lamp lit minutes) = (f_X0_tell_El to tl lit lamp minutes) := (by simp only [f_X4_book_El, if_neg c1, if_pos c2, if_neg c3])
        have e_Et : (f_X4_book_Et nl to td lamp lit minutes) = (f_X0_tell_Et to td lit lamp minutes) := (by simp only [f_X4_book_Et, if_neg c1, if_pos c2, if_neg c3])
        exact eXi hx hb hr hlk hQ (by rw [e_E_6, e_El, e_Et]; exact hP) (by rw [e_E_6, e_El, e_Et]; exact hD) hS dX4_book_34 (Eq.symm (by simp only [f_X4_book, if_neg c1, if_pos c2, if_neg c3]))
      · refine lv_bipush (v := (-101)) hx hb dX4_book_21 (by decide) ?_
        have e_E_6 : (f_X4_book_E_6 nl to lamp minutes) = to := (by simp only [f_X4_book_E_6, if_neg c1, if_pos c2, if_pos c3])
        have e_El : (f_X4_book_El nl to tl lamp lit minutes) = tl := (by simp only [f_X4_book_El, if_neg c1, if_pos c2, if_pos c3])
        have e_Et : (f_X4_book_Et nl to td lamp lit minutes) = td := (by simp only [f_X4_book_Et, if_neg c1, if_pos c2, if_pos c3])
        exact eXi hx hb hr hlk hQ (by rw [e_E_6, e_El, e_Et]; exact hP) (by rw [e_E_6, e_El, e_Et]; exact hD) hS dX4_book_23 (Eq.symm (by simp only [f_X4_book, if_neg c1, if_pos c2, if_pos c3]))
    · refine lv_bipush (v := (-102)) hx hb dX4_book_10 (by decide) ?_
      have e_E_6 : (f_X4_book_E_6 nl to lamp minutes) = to := (by simp only [f_X4_book_E_6, if_neg c1, if_neg c2])
      have e_El : (f_X4_book_El nl to tl lamp lit minutes) = tl := (by simp only [f_X4_book_El, if_neg c1, if_neg c2])
      have e_Et : (f_X4_book_Et nl to td lamp lit minutes) = td := (by simp only [f_X4_book_Et, if_neg c1, if_neg c2])
      exact eXi hx hb hr hlk hQ (by rw [e_E_6, e_El, e_Et]; exact hP) (by rw [e_E_6, e_El, e_Et]; exact hD) hS dX4_book_12 (Eq.symm (by simp only [f_X4_book, if_neg c1, if_neg c2]))

def rm_X4_forget : Room := { frames := 1, cells := 0, slots := 0, locals := 21 }
def f_X4_forget (to : Int32) : Int32 := to
def f_X4_forget_El (tl : Nat → Int32) : Nat → Int32 := (f_X0_emptyBook_El tl)
def f_X4_forget_Et (td : Nat → Int32) : Nat → Int32 := (f_X0_emptyBook_Et td)
theorem hd_X4_forget : yX4_forget.cls = RX4 ∧ yX4_forget.cls ≠ "java/lang/invoke/MethodHandle" ∧ yX4_forget.cls ≠ "java/lang/invoke/VarHandle" ∧ (parseMethodDescriptor yX4_forget.desc).map (fun d => d.parameters.length) = some 0 := by decide +kernel
set_option maxHeartbeats 4000000 in
set_option maxRecDepth 100000 in
theorem c_X4_forget (l : Launch) (D : va_G) (cI : ClassId) (aO aP aL aE aEs aEw aEd aEl aEt aK aY aN aS : Nat) (ik : Int32) (ofr : Int32) (rd : Int32) (li : Int32) (mi : Int32) (pe : Nat) (to : Int32) (tl : Nat → Int32) (td : Nat → Int32) : MetX l yX4_forget wsX4_forget rm_X4_forget D cI [.ref aO] [(aO, .inr (4, [.ref aP, .ref aL, .ref aE, .ref aK, .ref aY, .ref aN, .ref aS, .int ik, .int ofr, .int rd])), (aE, .inr (0, [.int li, .int mi, .int (nI pe), .ref aEs, .ref aEw, .ref aEd, .int to, .ref aEl, .ref aEt])), (aEl, .inl (cI, 7, .inl tl)), (aEt, .inl (cI, 7, .inl td))] (some (.int (f_X4_forget to))) [(aO, .inr (4, [.ref aP, .ref aL, .ref aE, .ref aK, .ref aY, .ref aN, .ref aS, .int ik, .int ofr, .int rd])), (aE, .inr (0, [.int li, .int mi, .int (nI pe), .ref aEs, .ref aEw, .ref aEd, .int 0, .ref aEl, .ref aEt])), (aEl, .inl (cI, 7, .inl (f_X4_forget_El tl))), (aEt, .inl (cI, 7, .inl (f_X4_forget_Et td)))] := by
  refine mX (cc := cX4_forget) (maxL := 2) (ret := (some .int)) (by decide) rfl (Nat.le_of_ble_eq_true rfl) ?_
  intro p e s m args below meth c Q A hx hb hr hml hown hts hlk hP hK hD hA hS hQ ls hl
  have hown : s.vm.findClass RX4 = some m.cls := hown
  have hl : lv_has ls 2 [(0, .ref aO)] := hl
  have w1 := hts (.fieldLink RX4 26 "DarkOffice" "now" "LDarkOffice$Evening;") (List.mem_of_getElem? (i := 1) rfl)
  have uX4 : ∀ w ∈ wsX40, w ∈ wsX4_forget := fun _ h => List.mem_cons_of_mem _ (List.mem_append_left _ (List.mem_append_right _ h))
  have w2 := hts (.fieldLink RX4 173 "DarkOffice$Evening" "told" "I") (List.mem_of_getElem? (i := 2) rfl)
  have uX0 : ∀ w ∈ wsX00, w ∈ wsX4_forget := fun _ h => List.mem_cons_of_mem _ (List.mem_append_right _ h)
  refine lv_aload_n hx hb dX4_forget_0 rfl (lv_at hl 0 rfl) ?_
  refine va_get (D := D) (ci := 4) (v := .ref aE) (C := RX4) (T := TX4) (N := 10) hx hb hts uX4 hown hK hP 0 rfl rfl 2 (by decide) w1 (fun _ h9 => h9) rfl dX4_forget_1 ?_
  refine va_get (D := D) (ci := 0) (v := .int to) (C := RX0) (T := TX0) (N := 9) hx hb hts uX0 hown hK hP 1 rfl rfl 6 (by decide) w2 (fun _ h9 => h9) rfl dX4_forget_4 ?_
  refine lv_istore_n (lv' := [(1, .int to), (0, .ref aO)]) hx hb dX4_forget_7 rfl hl (by decide) rfl (fun ls hl => ?_)
  refine lv_aload_n hx hb dX4_forget_8 rfl (lv_at hl 1 rfl) ?_
  refine va_get (D := D) (ci := 4) (v := .ref aE) (C := RX4) (T := TX4) (N := 10) hx hb hts uX4 hown hK hP 0 rfl rfl 2 (by decide) w1 (fun _ h9 => h9) rfl dX4_forget_9 ?_
  refine xV (w2 := [(aO, .inr (4, [.ref aP, .ref aL, .ref aE, .ref aK, .ref aY, .ref aN, .ref aS, .int ik, .int ofr, .int rd])), (aE, .inr (0, [.int li, .int mi, .int (nI pe), .ref aEs, .ref aEw, .ref aEd, .int 0, .ref aEl, .ref aEt])), (aEl, .inl (cI, 7, .inl (f_X0_emptyBook_El tl))), (aEt, .inl (cI, 7, .inl (f_X0_emptyBook_Et td)))]) ⟨hx, hb, hml, hown, hts⟩ (c_X0_emptyBook l D cI aE aEs aEw aEd aEl aEt li mi pe to tl td) (cwV 0 hts gX4_forget_X0_emptyBook rfl rfl rfl hd_X0_emptyBook ⟨Nat.le_of_ble_eq_true rfl, Nat.le_of_ble_eq_true rfl⟩) hK hP hD hS hA [1, 2, 3] [0] [0, 1, 2, 3] rfl rfl rfl rfl rfl (by decide) rfl rfl rfl 0 rfl rfl rfl rfl hl.1 (rest := []) (st' := []) rfl rfl (Nat.le_of_ble_eq_true rfl) dX4_forget_12 ⟨Nat.zero_le _, Nat.zero_le _⟩ (fun H locs hP hD hS => ?_)
  refine lv_iload_n hx hb dX4_forget_15 rfl (lv_at hl 0 rfl) ?_
  have e_El : (f_X4_forget_El tl) = (f_X0_emptyBook_El tl) := (by simp only [f_X4_forget_El])
  have e_Et : (f_X4_forget_Et td) = (f_X0_emptyBook_Et td) := (by simp only [f_X4_forget_Et])
  exact eXi hx hb hr hlk hQ (by rw [e_El, e_Et]; exact hP) (by rw [e_El, e_Et]; exact hD) hS dX4_forget_16 (Eq.symm (by simp only [f_X4_forget]))

def rm_X4_waved : Room := { frames := 4, cells := 0, slots := 0, locals := 97 }
def f_X4_waved (nl : Nat) (ho : Nat → Int32) (sn : Nat → Int32) (li : Int32) (pe : Nat) (sc : Nat → Int32) (tl : Nat → Int32) (td : Nat → Int32) (en : Nat → Int32) (minutes : Int32) (person : Int32) (what : Int32) : Int32 := (if (f_X4_isPerson pe person) = 0 then (-101) else (if minutes < 1 then (-102) else (if 6 < minutes then (-102) else (if what < 0 then (-102) else (if what ≤ 1 then (if what = 0 then (f_X3_left (f_X3_follow_Ye nl ho sn li tl td en (minutes.toNatClampNeg) (sc person.toNatClampNeg)) (2 ^ (minutes.toNatClampNeg))) else (f_X3_first (f_X3_follow_Ye nl ho sn li tl td en (minutes.toNatClampNeg) (sc person.toNatClampNeg)) (2 ^ (minutes.toNatClampNeg)))) else (-102))))))
def f_X4_waved_Y_1 (pe : Nat) (zq : Int32) (minutes : Int32) (person : Int32) (what : Int32) : Int32 := (if (f_X4_isPerson pe person) = 0 then zq else (if minutes < 1 then zq else (if 6 < minutes then zq else (if what < 0 then zq else (if what ≤ 1 then nI (2 ^ (minutes.toNatClampNeg)) else zq)))))
def f_X4_waved_Ye (nl : Nat) (ho : Nat → Int32) (sn : Nat → Int32) (li : Int32) (pe : Nat) (sc : Nat → Int32) (tl : Nat → Int32) (td : Nat → Int32) (en : Nat → Int32) (minutes : Int32) (person : Int32) (what : Int32) : Nat → Int32 := (if (f_X4_isPerson pe person) = 0 then en else (if minutes < 1 then en else (if 6 < minutes then en else (if what < 0 then en else (if what ≤ 1 then (f_X3_follow_Ye nl ho sn li tl td en (minutes.toNatClampNeg) (sc person.toNatClampNeg)) else en)))))
theorem hd_X4_waved : yX4_waved.cls = RX4 ∧ yX4_waved.cls ≠ "java/lang/invoke/MethodHandle" ∧ yX4_waved.cls ≠ "java/lang/invoke/VarHandle" ∧ (parseMethodDescriptor yX4_waved.desc).map (fun d => d.parameters.length) = some 3 := by decide +kernel
set_option maxHeartbeats 4000000 in
set_option maxRecDepth 100000 in
theorem c_X4_waved (l : Launch) (D : va_G) (cI : ClassId) (aO aP aL aLk aLh aLs aE aEs aEw aEd aEl aEt aK aY aYe aN aS : Nat) (ik : Int32) (ofr : Int32) (rd : Int32) (nl : Nat) (ho : Nat → Int32) (sn : Nat → Int32) (li : Int32) (mi : Int32) (pe : Nat) (to : Int32) (sc : Nat → Int32) (tl : Nat → Int32) (td : Nat → Int32) (zq : Int32) (en : Nat → Int32) (minutes : Int32) (person : Int32) (what : Int32) (hn : nl ≤ 6) (hpe : pe ≤ 4) : MetX l yX4_waved wsX4_waved rm_X4_waved D cI [.ref aO, .int person, .int minutes, .int what] [(aO, .inr (4, [.ref aP, .ref aL, .ref aE, .ref aK, .ref aY, .ref aN, .ref aS, .int ik, .int ofr, .int rd])), (aL, .inr (1, [.ref aLk, .ref aLh, .ref aLs, .int (nI nl)])), (aLh, .inl (cI, 6, .inl ho)), (aLs, .inl (cI, 6, .inl sn)), (aE, .inr (0, [.int li, .int mi, .int (nI pe), .ref aEs, .ref aEw, .ref aEd, .int to, .ref aEl, .ref aEt])), (aEs, .inl (cI, 4, .inl sc)), (aEl, .inl (cI, 7, .inl tl)), (aEt, .inl (cI, 7, .inl td)), (aY, .inr (3, [.ref aYe, .int zq])), (aYe, .inl (cI, 64, .inl en))] (some (.int (f_X4_waved nl ho sn li pe sc tl td en minutes person what))) [(aO, .inr (4, [.ref aP, .ref aL, .ref aE, .ref aK, .ref aY, .ref aN, .ref aS, .int ik, .int ofr, .int rd])), (aL, .inr (1, [.ref aLk, .ref aLh, .ref aLs, .int (nI nl)])), (aLh, .inl (cI, 6, .inl ho)), (aLs, .inl (cI, 6, .inl sn)), (aE, .inr (0, [.int li, .int mi, .int (nI pe), .ref aEs, .ref aEw, .ref aEd, .int to, .ref aEl, .ref aEt])), (aEs, .inl (cI, 4, .inl sc)), (aEl, .inl (cI, 7, .inl tl)), (aEt, .inl (cI, 7, .inl td)), (aY, .inr (3, [.ref aYe, .int (f_X4_waved_Y_1 pe zq minutes person what)])), (aYe, .inl (cI, 64, .inl (f_X4_waved_Ye nl ho sn li pe sc tl td en minutes person what)))] := by
  refine mX (cc := cX4_waved) (maxL := 4) (ret := (some .int)) (by decide) rfl (Nat.le_of_ble_eq_true rfl) ?_
  intro p e s m args below meth c Q A hx hb hr hml hown hts hlk hP hK hD hA hS hQ ls hl
  have hown : s.vm.findClass RX4 = some m.cls := hown
  have hl : lv_has ls 4 [(0, .ref aO), (1, .int person), (2, .int minutes), (3, .int what)] := hl
  have w1 := hts (.fieldLink RX4 36 "DarkOffice" "ways" "LDarkOffice$Ways;") (List.mem_of_getElem? (i := 1) rfl)
  have uX4 : ∀ w ∈ wsX40, w ∈ wsX4_waved := fun _ h => List.mem_cons_of_mem _ (List.mem_append_left _ (List.mem_append_left _ (List.mem_append_left _ (List.mem_append_right _ h))))
  have w2 := hts (.fieldLink RX4 19 "DarkOffice" "lamps" "LDarkOffice$Lamps;") (List.mem_of_getElem? (i := 2) rfl)
  have w3 := hts (.fieldLink RX4 26 "DarkOffice" "now" "LDarkOffice$Evening;") (List.mem_of_getElem? (i := 3) rfl)
  have w4 := hts (.fieldLink RX4 116 "DarkOffice$Evening" "sections" "[I") (List.mem_of_getElem? (i := 4) rfl)
  have uX0 : ∀ w ∈ wsX00, w ∈ wsX4_waved := fun _ h => List.mem_cons_of_mem _ (List.mem_append_left _ (List.mem_append_left _ (List.mem_append_right _ h)))
  refine lv_aload_n hx hb dX4_waved_0 rfl (lv_at hl 0 rfl) ?_
  refine lv_iload_n hx hb dX4_waved_1 rfl (lv_at hl 1 rfl) ?_
  refine rV ⟨hx, hb, hml, hown, hts⟩ (c_X4_isPerson l D cI aO aP aL aE aEs aEw aEd aEl aEt aK aY aN aS ik ofr rd li mi pe to person hpe) (cwV 1 hts gX4_waved_X4_isPerson rfl rfl rfl hd_X4_isPerson ⟨Nat.le_of_ble_eq_true rfl, Nat.le_of_ble_eq_true rfl⟩) hK (hP.sub [0, 4] rfl) 0 rfl rfl rfl rfl hl.1 (rest := []) (st' := [.int (f_X4_isPerson pe person)]) rfl rfl (Nat.le_of_ble_eq_true rfl) dX4_waved_2 ⟨Nat.zero_le _, Nat.zero_le _⟩ ?_
  refine lv_if_ne (tgt := 11) hx hb dX4_waved_5 (by decide) (fun c1 => ?_) (fun c1 => ?_)
  · refine lv_iload_n hx hb dX4_waved_11 rfl (lv_at hl 2 rfl) ?_
    refine lv_iconst (v := 1) hx hb dX4_waved_12 (by decide) ?_
    refine lv_icmp_lt (tgt := 31) hx hb dX4_waved_13 (by decide) (fun c2 => ?_) (fun c2 => ?_)
    · refine lv_bipush (v := (-102)) hx hb dX4_waved_31 (by decide) ?_
      have e_Y_1 : (f_X4_waved_Y_1 pe zq minutes person what) = zq := (by simp only [f_X4_waved_Y_1, if_neg c1, if_pos c2])
      have e_Ye : (f_X4_waved_Ye nl ho sn li pe sc tl td en minutes person what) = en := (by simp only [f_X4_waved_Ye, if_neg c1, if_pos c2])
      exact eXi hx hb hr hlk hQ (by rw [e_Y_1, e_Ye]; exact hP) (by rw [e_Y_1, e_Ye]; exact hD) hS dX4_waved_33 (Eq.symm (by simp only [f_X4_waved, if_neg c1, if_pos c2]))
    · refine lv_iload_n hx hb dX4_waved_16 rfl (lv_at hl 2 rfl) ?_
      refine lv_bipush (v := 6) hx hb dX4_waved_17 (by decide) ?_
      refine lv_icmp_gt (tgt := 31) hx hb dX4_waved_19 (by decide) (fun c3 => ?_) (fun c3 => ?_)
      · refine lv_bipush (v := (-102)) hx hb dX4_waved_31 (by decide) ?_
        have e_Y_1 : (f_X4_waved_Y_1 pe zq minutes person what) = zq := (by simp only [f_X4_waved_Y_1, if_neg c1, if_neg c2, if_pos c3])
        have e_Ye : (f_X4_waved_Ye nl ho sn li pe sc tl td en minutes person what) = en := (by simp only [f_X4_waved_Ye, if_neg c1, if_neg c2, if_pos c3])
        exact eXi hx hb hr hlk hQ (by rw [e_Y_1, e_Ye]; exact hP) (by rw [e_Y_1, e_Ye]; exact hD) hS dX4_waved_33 (Eq.symm (by simp only [f_X4_waved, if_neg c1, if_neg c2, if_pos c3]))
      · refine lv_iload_n hx hb dX4_waved_22 rfl (lv_at hl 3 rfl) ?_
        refine lv_if_lt (tgt := 31) hx hb dX4_waved_23 (by decide) (fun c4 => ?_) (fun c4 => ?_)
        · refine lv_bipush (v := (-102)) hx hb dX4_waved_31 (by decide) ?_
          have e_Y_1 : (f_X4_waved_Y_1 pe zq minutes person what) = zq := (by simp only [f_X4_waved_Y_1, if_neg c1, if_neg c2, if_neg c3, if_pos c4])
          have e_Ye : (f_X4_waved_Ye nl ho sn li pe sc tl td en minutes person what) = en := (by simp only [f_X4_waved_Ye, if_neg c1, if_neg c2, if_neg c3, if_pos c4])
          exact eXi hx hb hr hlk hQ (by rw [e_Y_1, e_Ye]; exact hP) (by rw [e_Y_1, e_Ye]; exact hD) hS dX4_waved_33 (Eq.symm (by simp only [f_X4_waved, if_neg c1, if_neg c2, if_neg c3, if_pos c4]))
        · refine lv_iload_n hx hb dX4_waved_26 rfl (lv_at hl 3 rfl) ?_
          refine lv_iconst (v := 1) hx hb dX4_waved_27 (by decide) ?_
          refine lv_icmp_le (tgt := 34) hx hb dX4_waved_28 (by decide) (fun c5 => ?_) (fun c5 => ?_)
          · have hm : minutes = nI minutes.toNatClampNeg := nI_self (B := 1) (by decide) c2
            have hm2 : minutes.toNatClampNeg ≤ 6 := nI_bd (B := 6) (b := 6) rfl (by decide) hm c3
            have hz6 : 2 ^ minutes.toNatClampNeg ≤ 64 := Nat.le_trans (Nat.pow_le_pow_right (by decide) hm2) (by decide)
            refine lv_aload_n hx hb dX4_waved_34 rfl (lv_at hl 0 rfl) ?_
            refine va_get (D := D) (ci := 4) (v := .ref aY) (C := RX4) (T := TX4) (N := 10) hx hb hts uX4 hown hK hP 0 rfl rfl 4 (by decide) w1 (fun _ h9 => h9) rfl dX4_waved_35 ?_
            refine lv_aload_n hx hb dX4_waved_38 rfl (lv_at hl 0 rfl) ?_
            refine va_get (D := D) (ci := 4) (v := .ref aL) (C := RX4) (T := TX4) (N := 10) hx hb hts uX4 hown hK hP 0 rfl rfl 1 (by decide) w2 (fun _ h9 => h9) rfl dX4_waved_39 ?_
            refine lv_aload_n hx hb dX4_waved_42 rfl (lv_at hl 0 rfl) ?_
            refine va_get (D := D) (ci := 4) (v := .ref aE) (C := RX4) (T := TX4) (N := 10) hx hb hts uX4 hown hK hP 0 rfl rfl 2 (by decide) w3 (fun _ h9 => h9) rfl dX4_waved_43 ?_
            refine lv_aload_n hx hb dX4_waved_46 rfl (lv_at hl 0 rfl) ?_
            refine va_get (D := D) (ci := 4) (v := .ref aE) (C := RX4) (T := TX4) (N := 10) hx hb hts uX4 hown hK hP 0 rfl rfl 2 (by decide) w3 (fun _ h9 => h9) rfl dX4_waved_47 ?_
            refine va_get (D := D) (ci := 0) (v := .ref aEs) (C := RX0) (T := TX0) (N := 9) hx hb hts uX0 hown hK hP 4 rfl rfl 3 (by decide) w4 (fun _ h9 => h9) rfl dX4_waved_50 ?_
            refine lv_iload_n hx hb dX4_waved_53 rfl (lv_at hl 1 rfl) ?_
            refine va_iald hx hb hK hP 5 0 rfl rfl (vin_pers hpe c1) dX4_waved_54 ?_
            refine lv_iload_n hx hb dX4_waved_55 rfl (lv_at hl 2 rfl) ?_
            refine tpi (y := nI (minutes.toNatClampNeg)) hm ?_
            refine xV (w2 := [(aO, .inr (4, [.ref aP, .ref aL, .ref aE, .ref aK, .ref aY, .ref aN, .ref aS, .int ik, .int ofr, .int rd])), (aL, .inr (1, [.ref aLk, .ref aLh, .ref aLs, .int (nI nl)])), (aLh, .inl (cI, 6, .inl ho)), (aLs, .inl (cI, 6, .inl sn)), (aE, .inr (0, [.int li, .int mi, .int (nI pe), .ref aEs, .ref aEw, .ref aEd, .int to, .ref aEl, .ref aEt])), (aEs, .inl (cI, 4, .inl sc)), (aEl, .inl (cI, 7, .inl tl)), (aEt, .inl (cI, 7, .inl td)), (aY, .inr (3, [.ref aYe, .int (nI (2 ^ (minutes.toNatClampNeg)))])), (aYe, .inl (cI, 64, .inl (f_X3_follow_Ye nl ho sn li tl td en (minutes.toNatClampNeg) (sc person.toNatClampNeg))))]) ⟨hx, hb, hml, hown, hts⟩ (c_X3_follow l D cI aL aLk aLh aLs aE aEs aEw aEd aEl aEt aY aYe nl ho sn li mi pe to tl td zq en (minutes.toNatClampNeg) (sc person.toNatClampNeg) hn hm2) (cwV 4 hts gX4_waved_X3_follow rfl rfl rfl hd_X3_follow ⟨Nat.le_of_ble_eq_true rfl, Nat.le_of_ble_eq_true rfl⟩) hK hP hD hS hA [1, 2, 3, 4, 6, 7, 8, 9] [0, 5] [0, 2, 3, 4, 5, 1, 6, 7, 8, 9] rfl rfl rfl rfl rfl (by decide) rfl rfl rfl 6 rfl rfl rfl rfl hl.1 (rest := []) (st' := []) rfl rfl (Nat.le_of_ble_eq_true rfl) dX4_waved_56 ⟨Nat.zero_le _, Nat.zero_le _⟩ (fun H locs hP hD hS => ?_)
            refine lv_iload_n hx hb dX4_waved_59 rfl (lv_at hl 3 rfl) ?_
            refine lv_if_ne (tgt := 73) hx hb dX4_waved_60 (by decide) (fun c6 => ?_) (fun c6 => ?_)
            · refine lv_aload_n hx hb dX4_waved_73 rfl (lv_at hl 0 rfl) ?_
              refine va_get (D := D) (ci := 4) (v := .ref aY) (C := RX4) (T := TX4) (N := 10) hx hb hts uX4 hown hK hP 0 rfl rfl 4 (by decide) w1 (fun _ h9 => h9) rfl dX4_waved_74 ?_
              refine rV ⟨hx, hb, hml, hown, hts⟩ (c_X3_first l D cI aY aYe (f_X3_follow_Ye nl ho sn li tl td en (minutes.toNatClampNeg) (sc person.toNatClampNeg)) (2 ^ (minutes.toNatClampNeg)) hz6) (cwV 0 hts gX4_waved_X3_first rfl rfl rfl hd_X3_first ⟨Nat.le_of_ble_eq_true rfl, Nat.le_of_ble_eq_true rfl⟩) hK (hP.sub [8, 9] rfl) 0 rfl rfl rfl rfl hl.1 (rest := []) (st' := [.int (f_X3_first (f_X3_follow_Ye nl ho sn li tl td en (minutes.toNatClampNeg) (sc person.toNatClampNeg)) (2 ^ (minutes.toNatClampNeg)))]) rfl rfl (Nat.le_of_ble_eq_true rfl) dX4_waved_77 ⟨Nat.zero_le _, Nat.zero_le _⟩ ?_
              have e_Y_1 : (f_X4_waved_Y_1 pe zq minutes person what) = nI (2 ^ (minutes.toNatClampNeg)) := (by simp only [f_X4_waved_Y_1, if_neg c1, if_neg c2, if_neg c3, if_neg c4, if_pos c5, if_neg c6])
              have e_Ye : (f_X4_waved_Ye nl ho sn li pe sc tl td en minutes person what) = (f_X3_follow_Ye nl ho sn li tl td en (minutes.toNatClampNeg) (sc person.toNatClampNeg)) := (by simp only [f_X4_waved_Ye, if_neg c1, if_neg c2, if_neg c3, if_neg c4, if_pos c5, if_neg c6])
              exact eXi hx hb hr hlk hQ (by rw [e_Y_1, e_Ye]; exact hP) (by rw [e_Y_1, e_Ye]; exact hD) hS dX4_waved_80 (Eq.symm (by simp only [f_X4_waved, if_neg c1, if_neg c2, if_neg c3, if_neg c4, if_pos c5, if_neg c6]))
            · refine lv_aload_n hx hb dX4_waved_63 rfl (lv_at hl 0 rfl) ?_
              refine va_get (D := D) (ci := 4) (v := .ref aY) (C := RX4) (T := TX4) (N := 10) hx hb hts uX4 hown hK hP 0 rfl rfl 4 (by decide) w1 (fun _ h9 => h9) rfl dX4_waved_64 ?_
              refine rV ⟨hx, hb, hml, hown, hts⟩ (c_X3_left l D cI aY aYe (f_X3_follow_Ye nl ho sn li tl td en (minutes.toNatClampNeg) (sc person.toNatClampNeg)) (2 ^ (minutes.toNatClampNeg)) hz6) (cwV 0 hts gX4_waved_X3_left rfl rfl rfl hd_X3_left ⟨Nat.le_of_ble_eq_true rfl, Nat.le_of_ble_eq_true rfl⟩) hK (hP.sub [8, 9] rfl) 0 rfl rfl rfl rfl hl.1 (rest := []) (st' := [.int (f_X3_left (f_X3_follow_Ye nl ho sn li tl td en (minutes.toNatClampNeg) (sc person.toNatClampNeg)) (2 ^ (minutes.toNatClampNeg)))]) rfl rfl (Nat.le_of_ble_eq_true rfl) dX4_waved_67 ⟨Nat.zero_le _, Nat.zero_le _⟩ ?_
              refine lv_goto (tgt := 80) hx hb dX4_waved_70 (by decide) ?_
              have e_Y_1 : (f_X4_waved_Y_1 pe zq minutes person what) = nI (2 ^ (minutes.toNatClampNeg)) := (by simp only [f_X4_waved_Y_1, if_neg c1, if_neg c2, if_neg c3, if_neg c4, if_pos c5, if_pos c6])
              have e_Ye : (f_X4_waved_Ye nl ho sn li pe sc tl td en minutes person what) = (f_X3_follow_Ye nl ho sn li tl td en (minutes.toNatClampNeg) (sc person.toNatClampNeg)) := (by simp only [f_X4_waved_Ye, if_neg c1, if_neg c2, if_neg c3, if_neg c4, if_pos c5, if_pos c6])
              exact eXi hx hb hr hlk hQ (by rw [e_Y_1, e_Ye]; exact hP) (by rw [e_Y_1, e_Ye]; exact hD) hS dX4_waved_80 (Eq.symm (by simp only [f_X4_waved, if_neg c1, if_neg c2, if_neg c3, if_neg c4, if_pos c5, if_pos c6]))
          · refine lv_bipush (v := (-102)) hx hb dX4_waved_31 (by decide) ?_
            have e_Y_1 : (f_X4_waved_Y_1 pe zq minutes person what) = zq := (by simp only [f_X4_waved_Y_1, if_neg c1, if_neg c2, if_neg c3, if_neg c4, if_neg c5])
            have e_Ye : (f_X4_waved_Ye nl ho sn li pe sc tl td en minutes person what) = en := (by simp only [f_X4_waved_Ye, if_neg c1, if_neg c2, if_neg c3, if_neg c4, if_neg c5])
            exact eXi hx hb hr hlk hQ (by rw [e_Y_1, e_Ye]; exact hP) (by rw [e_Y_1, e_Ye]; exact hD) hS dX4_waved_33 (Eq.symm (by simp only [f_X4_waved, if_neg c1, if_neg c2, if_neg c3, if_neg c4, if_neg c5]))
  · refine lv_bipush (v := (-101)) hx hb dX4_waved_8 (by decide) ?_
    have e_Y_1 : (f_X4_waved_Y_1 pe zq minutes person what) = zq := (by simp only [f_X4_waved_Y_1, if_pos c1])
    have e_Ye : (f_X4_waved_Ye nl ho sn li pe sc tl td en minutes person what) = en := (by simp only [f_X4_waved_Ye, if_pos c1])
    exact eXi hx hb hr hlk hQ (by rw [e_Y_1, e_Ye]; exact hP) (by rw [e_Y_1, e_Ye]; exact hD) hS dX4_waved_10 (Eq.symm (by simp only [f_X4_waved, if_pos c1]))

def rm_X4_look : Room := { frames := 4, cells := 0, slots := 0, locals := 97 }
def f_X4_look (nl : Nat) (ho : Nat → Int32) (sn : Nat → Int32) (li : Int32) (pe : Nat) (sc : Nat → Int32) (tl : Nat → Int32) (td : Nat → Int32) (en : Nat → Int32) (minutes : Int32) (person : Int32) : Int32 := (if (f_X4_isPerson pe person) = 0 then (-101) else (if minutes < 1 then (-102) else (if minutes ≤ 6 then (f_X3_tellingLamp nl (f_X3_follow_Ye nl ho sn li tl td en (minutes.toNatClampNeg) (sc person.toNatClampNeg)) (2 ^ (minutes.toNatClampNeg))) else (-102))))
def f_X4_look_Y_1 (pe : Nat) (zq : Int32) (minutes : Int32) (person : Int32) : Int32 := (if (f_X4_isPerson pe person) = 0 then zq else (if minutes < 1 then zq else (if minutes ≤ 6 then nI (2 ^ (minutes.toNatClampNeg)) else zq)))
def f_X4_look_Ye (nl : Nat) (ho : Nat → Int32) (sn : Nat → Int32) (li : Int32) (pe : Nat) (sc : Nat → Int32) (tl : Nat → Int32) (td : Nat → Int32) (en : Nat → Int32) (minutes : Int32) (person : Int32) : Nat → Int32 := (if (f_X4_isPerson pe person) = 0 then en else (if minutes < 1 then en else (if minutes ≤ 6 then (f_X3_follow_Ye nl ho sn li tl td en (minutes.toNatClampNeg) (sc person.toNatClampNeg)) else en)))
theorem hd_X4_look : yX4_look.cls = RX4 ∧ yX4_look.cls ≠ "java/lang/invoke/MethodHandle" ∧ yX4_look.cls ≠ "java/lang/invoke/VarHandle" ∧ (parseMethodDescriptor yX4_look.desc).map (fun d => d.parameters.length) = some 2 := by decide +kernel
set_option maxHeartbeats 4000000 in
set_option maxRecDepth 100000 in
theorem c_X4_look (l : Launch) (D : va_G) (cI : ClassId) (aO aP aL aLk aLh aLs aE aEs aEw aEd aEl aEt aK aY aYe aN aS : Nat) (ik : Int32) (ofr : Int32) (rd : Int32) (nl : Nat) (ho : Nat → Int32) (sn : Nat → Int32) (li : Int32) (mi : Int32) (pe : Nat) (to : Int32) (sc : Nat → Int32) (tl : Nat → Int32) (td : Nat → Int32) (zq : Int32) (en : Nat → Int32) (minutes : Int32) (person : Int32) (hn : nl ≤ 6) (hpe : pe ≤ 4) : MetX l yX4_look wsX4_look rm_X4_look D cI [.ref aO, .int person, .int minutes] [(aO, .inr (4, [.ref aP, .ref aL, .ref aE, .ref aK, .ref aY, .ref aN, .ref aS, .int ik, .int ofr, .int rd])), (aL, .inr (1, [.ref aLk, .ref aLh, .ref aLs, .int (nI nl)])), (aLh, .inl (cI, 6, .inl ho)), (aLs, .inl (cI, 6, .inl sn)), (aE, .inr (0, [.int li, .int mi, .int (nI pe), .ref aEs, .ref aEw, .ref aEd, .int to, .ref aEl, .ref aEt])), (aEs, .inl (cI, 4, .inl sc)), (aEl, .inl (cI, 7, .inl tl)), (aEt, .inl (cI, 7, .inl td)), (aY, .inr (3, [.ref aYe, .int zq])), (aYe, .inl (cI, 64, .inl en))] (some (.int (f_X4_look nl ho sn li pe sc tl td en minutes person))) [(aO, .inr (4, [.ref aP, .ref aL, .ref aE, .ref aK, .ref aY, .ref aN, .ref aS, .int ik, .int ofr, .int rd])), (aL, .inr (1, [.ref aLk, .ref aLh, .ref aLs, .int (nI nl)])), (aLh, .inl (cI, 6, .inl ho)), (aLs, .inl (cI, 6, .inl sn)), (aE, .inr (0, [.int li, .int mi, .int (nI pe), .ref aEs, .ref aEw, .ref aEd, .int to, .ref aEl, .ref aEt])), (aEs, .inl (cI, 4, .inl sc)), (aEl, .inl (cI, 7, .inl tl)), (aEt, .inl (cI, 7, .inl td)), (aY, .inr (3, [.ref aYe, .int (f_X4_look_Y_1 pe zq minutes person)])), (aYe, .inl (cI, 64, .inl (f_X4_look_Ye nl ho sn li pe sc tl td en minutes person)))] := by
  refine mX (cc := cX4_look) (maxL := 3) (ret := (some .int)) (by decide) rfl (Nat.le_of_ble_eq_true rfl) ?_
  intro p e s m args below meth c Q A hx hb hr hml hown hts hlk hP hK hD hA hS hQ ls hl
  have hown : s.vm.findClass RX4 = some m.cls := hown
  have hl : lv_has ls 3 [(0, .ref aO), (1, .int person), (2, .int minutes)] := hl
  have w1 := hts (.fieldLink RX4 36 "DarkOffice" "ways" "LDarkOffice$Ways;") (List.mem_of_getElem? (i := 1) rfl)
  have uX4 : ∀ w ∈ wsX40, w ∈ wsX4_look := fun _ h => List.mem_cons_of_mem _ (List.mem_append_left _ (List.mem_append_left _ (List.mem_append_left _ (List.mem_append_right _ h))))
  have w2 := hts (.fieldLink RX4 19 "DarkOffice" "lamps" "LDarkOffice$Lamps;") (List.mem_of_getElem? (i := 2) rfl)
  have w3 := hts (.fieldLink RX4 26 "DarkOffice" "now" "LDarkOffice$Evening;") (List.mem_of_getElem? (i := 3) rfl)
  have w4 := hts (.fieldLink RX4 116 "DarkOffice$Evening" "sections" "[I") (List.mem_of_getElem? (i := 4) rfl)
  have uX0 : ∀ w ∈ wsX00, w ∈ wsX4_look := fun _ h => List.mem_cons_of_mem _ (List.mem_append_left _ (List.mem_append_left _ (List.mem_append_right _ h)))
  have w5 := hts (.fieldLink RX4 77 "DarkOffice$Lamps" "size" "I") (List.mem_of_getElem? (i := 5) rfl)
  have uX1 : ∀ w ∈ wsX10, w ∈ wsX4_look := fun _ h => List.mem_cons_of_mem _ (List.mem_append_left _ (List.mem_append_right _ h))
  refine lv_aload_n hx hb dX4_look_0 rfl (lv_at hl 0 rfl) ?_
  refine lv_iload_n hx hb dX4_look_1 rfl (lv_at hl 1 rfl) ?_
  refine rV ⟨hx, hb, hml, hown, hts⟩ (c_X4_isPerson l D cI aO aP aL aE aEs aEw aEd aEl aEt aK aY aN aS ik ofr rd li mi pe to person hpe) (cwV 1 hts gX4_look_X4_isPerson rfl rfl rfl hd_X4_isPerson ⟨Nat.le_of_ble_eq_true rfl, Nat.le_of_ble_eq_true rfl⟩) hK (hP.sub [0, 4] rfl) 0 rfl rfl rfl rfl hl.1 (rest := []) (st' := [.int (f_X4_isPerson pe person)]) rfl rfl (Nat.le_of_ble_eq_true rfl) dX4_look_2 ⟨Nat.zero_le _, Nat.zero_le _⟩ ?_
  refine lv_if_ne (tgt := 11) hx hb dX4_look_5 (by decide) (fun c1 => ?_) (fun c1 => ?_)
  · refine lv_iload_n hx hb dX4_look_11 rfl (lv_at hl 2 rfl) ?_
    refine lv_iconst (v := 1) hx hb dX4_look_12 (by decide) ?_
    refine lv_icmp_lt (tgt := 22) hx hb dX4_look_13 (by decide) (fun c2 => ?_) (fun c2 => ?_)
    · refine lv_bipush (v := (-102)) hx hb dX4_look_22 (by decide) ?_
      have e_Y_1 : (f_X4_look_Y_1 pe zq minutes person) = zq := (by simp only [f_X4_look_Y_1, if_neg c1, if_pos c2])
      have e_Ye : (f_X4_look_Ye nl ho sn li pe sc tl td en minutes person) = en := (by simp only [f_X4_look_Ye, if_neg c1, if_pos c2])
      exact eXi hx hb hr hlk hQ (by rw [e_Y_1, e_Ye]; exact hP) (by rw [e_Y_1, e_Ye]; exact hD) hS dX4_look_24 (Eq.symm (by simp only [f_X4_look, if_neg c1, if_pos c2]))
    · refine lv_iload_n hx hb dX4_look_16 rfl (lv_at hl 2 rfl) ?_
      refine lv_bipush (v := 6) hx hb dX4_look_17 (by decide) ?_
      refine lv_icmp_le (tgt := 25) hx hb dX4_look_19 (by decide) (fun c3 => ?_) (fun c3 => ?_)
      · have hm : minutes = nI minutes.toNatClampNeg := nI_self (B := 1) (by decide) c2
        have hm2 : minutes.toNatClampNeg ≤ 6 := nI_bd' (B := 6) (b := 6) rfl (by decide) hm c3
        have hz6 : 2 ^ minutes.toNatClampNeg ≤ 64 := Nat.le_trans (Nat.pow_le_pow_right (by decide) hm2) (by decide)
        refine lv_aload_n hx hb dX4_look_25 rfl (lv_at hl 0 rfl) ?_
        refine va_get (D := D) (ci := 4) (v := .ref aY) (C := RX4) (T := TX4) (N := 10) hx hb hts uX4 hown hK hP 0 rfl rfl 4 (by decide) w1 (fun _ h9 => h9) rfl dX4_look_26 ?_
        refine lv_aload_n hx hb dX4_look_29 rfl (lv_at hl 0 rfl) ?_
        refine va_get (D := D) (ci := 4) (v := .ref aL) (C := RX4) (T := TX4) (N := 10) hx hb hts uX4 hown hK hP 0 rfl rfl 1 (by decide) w2 (fun _ h9 => h9) rfl dX4_look_30 ?_
        refine lv_aload_n hx hb dX4_look_33 rfl (lv_at hl 0 rfl) ?_
        refine va_get (D := D) (ci := 4) (v := .ref aE) (C := RX4) (T := TX4) (N := 10) hx hb hts uX4 hown hK hP 0 rfl rfl 2 (by decide) w3 (fun _ h9 => h9) rfl dX4_look_34 ?_
        refine lv_aload_n hx hb dX4_look_37 rfl (lv_at hl 0 rfl) ?_
        refine va_get (D := D) (ci := 4) (v := .ref aE) (C := RX4) (T := TX4) (N := 10) hx hb hts uX4 hown hK hP 0 rfl rfl 2 (by decide) w3 (fun _ h9 => h9) rfl dX4_look_38 ?_
        refine va_get (D := D) (ci := 0) (v := .ref aEs) (C := RX0) (T := TX0) (N := 9) hx hb hts uX0 hown hK hP 4 rfl rfl 3 (by decide) w4 (fun _ h9 => h9) rfl dX4_look_41 ?_
        refine lv_iload_n hx hb dX4_look_44 rfl (lv_at hl 1 rfl) ?_
        refine va_iald hx hb hK hP 5 0 rfl rfl (vin_pers hpe c1) dX4_look_45 ?_
        refine lv_iload_n hx hb dX4_look_46 rfl (lv_at hl 2 rfl) ?_
        refine tpi (y := nI (minutes.toNatClampNeg)) hm ?_
        refine xV (w2 := [(aO, .inr (4, [.ref aP, .ref aL, .ref aE, .ref aK, .ref aY, .ref aN, .ref aS, .int ik, .int ofr, .int rd])), (aL, .inr (1, [.ref aLk, .ref aLh, .ref aLs, .int (nI nl)])), (aLh, .inl (cI, 6, .inl ho)), (aLs, .inl (cI, 6, .inl sn)), (aE, .inr (0, [.int li, .int mi, .int (nI pe), .ref aEs, .ref aEw, .ref aEd, .int to, .ref aEl, .ref aEt])), (aEs, .inl (cI, 4, .inl sc)), (aEl, .inl (cI, 7, .inl tl)), (aEt, .inl (cI, 7, .inl td)), (aY, .inr (3, [.ref aYe, .int (nI (2 ^ (minutes.toNatClampNeg)))])), (aYe, .inl (cI, 64, .inl (f_X3_follow_Ye nl ho sn li tl td en (minutes.toNatClampNeg) (sc person.toNatClampNeg))))]) ⟨hx, hb, hml, hown, hts⟩ (c_X3_follow l D cI aL aLk aLh aLs aE aEs aEw aEd aEl aEt aY aYe nl ho sn li mi pe to tl td zq en (minutes.toNatClampNeg) (sc person.toNatClampNeg) hn hm2) (cwV 4 hts gX4_look_X3_follow rfl rfl rfl hd_X3_follow ⟨Nat.le_of_ble_eq_true rfl, Nat.le_of_ble_eq_true rfl⟩) hK hP hD hS hA [1, 2, 3, 4, 6, 7, 8, 9] [0, 5] [0, 2, 3, 4, 5, 1, 6, 7, 8, 9] rfl rfl rfl rfl rfl (by decide) rfl rfl rfl 6 rfl rfl rfl rfl hl.1 (rest := []) (st' := []) rfl rfl (Nat.le_of_ble_eq_true rfl) dX4_look_47 ⟨Nat.zero_le _, Nat.zero_le _⟩ (fun H locs hP hD hS => ?_)
        refine lv_aload_n hx hb dX4_look_50 rfl (lv_at hl 0 rfl) ?_
        refine va_get (D := D) (ci := 4) (v := .ref aY) (C := RX4) (T := TX4) (N := 10) hx hb hts uX4 hown hK hP 0 rfl rfl 4 (by decide) w1 (fun _ h9 => h9) rfl dX4_look_51 ?_
        refine lv_aload_n hx hb dX4_look_54 rfl (lv_at hl 0 rfl) ?_
        refine va_get (D := D) (ci := 4) (v := .ref aL) (C := RX4) (T := TX4) (N := 10) hx hb hts uX4 hown hK hP 0 rfl rfl 1 (by decide) w2 (fun _ h9 => h9) rfl dX4_look_55 ?_
        refine va_get (D := D) (ci := 1) (v := .int (nI nl)) (C := RX1) (T := TX1) (N := 4) hx hb hts uX1 hown hK hP 1 rfl rfl 3 (by decide) w5 (fun _ h9 => h9) rfl dX4_look_58 ?_
        refine rV ⟨hx, hb, hml, hown, hts⟩ (c_X3_tellingLamp l D cI aY aYe nl (f_X3_follow_Ye nl ho sn li tl td en (minutes.toNatClampNeg) (sc person.toNatClampNeg)) (2 ^ (minutes.toNatClampNeg)) hn hz6) (cwV 1 hts gX4_look_X3_tellingLamp rfl rfl rfl hd_X3_tellingLamp ⟨Nat.le_of_ble_eq_true rfl, Nat.le_of_ble_eq_true rfl⟩) hK (hP.sub [8, 9] rfl) 0 rfl rfl rfl rfl hl.1 (rest := []) (st' := [.int (f_X3_tellingLamp nl (f_X3_follow_Ye nl ho sn li tl td en (minutes.toNatClampNeg) (sc person.toNatClampNeg)) (2 ^ (minutes.toNatClampNeg)))]) rfl rfl (Nat.le_of_ble_eq_true rfl) dX4_look_61 ⟨Nat.zero_le _, Nat.zero_le _⟩ ?_
        have e_Y_1 : (f_X4_look_Y_1 pe zq minutes person) = nI (2 ^ (minutes.toNatClampNeg)) := (by simp only [f_X4_look_Y_1, if_neg c1, if_neg c2, if_pos c3])
        have e_Ye : (f_X4_look_Ye nl ho sn li pe sc tl td en minutes person) = (f_X3_follow_Ye nl ho sn li tl td en (minutes.toNatClampNeg) (sc person.toNatClampNeg)) := (by simp only [f_X4_look_Ye, if_neg c1, if_neg c2, if_pos c3])
        exact eXi hx hb hr hlk hQ (by rw [e_Y_1, e_Ye]; exact hP) (by rw [e_Y_1, e_Ye]; exact hD) hS dX4_look_64 (Eq.symm (by simp only [f_X4_look, if_neg c1, if_neg c2, if_pos c3]))
      · refine lv_bipush (v := (-102)) hx hb dX4_look_22 (by decide) ?_
        have e_Y_1 : (f_X4_look_Y_1 pe zq minutes person) = zq := (by simp only [f_X4_look_Y_1, if_neg c1, if_neg c2, if_neg c3])
        have e_Ye : (f_X4_look_Ye nl ho sn li pe sc tl td en minutes person) = en := (by simp only [f_X4_look_Ye, if_neg c1, if_neg c2, if_neg c3])
        exact eXi hx hb hr hlk hQ (by rw [e_Y_1, e_Ye]; exact hP) (by rw [e_Y_1, e_Ye]; exact hD) hS dX4_look_24 (Eq.symm (by simp only [f_X4_look, if_neg c1, if_neg c2, if_neg c3]))
  · refine lv_bipush (v := (-101)) hx hb dX4_look_8 (by decide) ?_
    have e_Y_1 : (f_X4_look_Y_1 pe zq minutes person) = zq := (by simp only [f_X4_look_Y_1, if_pos c1])
    have e_Ye : (f_X4_look_Ye nl ho sn li pe sc tl td en minutes person) = en := (by simp only [f_X4_look_Ye, if_pos c1])
    exact eXi hx hb hr hlk hQ (by rw [e_Y_1, e_Ye]; exact hP) (by rw [e_Y_1, e_Ye]; exact hD) hS dX4_look_10 (Eq.symm (by simp only [f_X4_look, if_pos c1]))

def rm_X4_nights : Room := { frames := 2, cells := 0, slots := 0, locals := 46 }
def f_X4_nights_67_v6 (o55_v6 : Int32) : Nat → Int32
  | 0 => o55_v6
  | i2 + 1 => (f_X4_nextSeed ((f_X4_nights_67_v6 o55_v6 i2)))
def f_X4_nights_67_v8 (o55_v6 : Int32) : Nat → Int32
  | 0 => 0
  | i2 + 1 => (if (f_X4_draw (f_X4_nextSeed ((f_X4_nights_67_v6 o55_v6 i2)))) = 0 then ((f_X4_nights_67_v8 o55_v6 i2) ||| ((1 : Int32) <<< (nI i2 &&& 31))) else ((f_X4_nights_67_v8 o55_v6 i2) ||| 0))
def f_X4_nights_55_v6 (pe : Nat) (seed : Int32) : Nat → Int32
  | 0 => seed
  | i1 + 1 => (f_X4_nights_67_v6 (f_X4_nights_55_v6 pe seed i1) pe)
def f_X4_nights_55_v4 (nl : Nat) (ho : Nat → Int32) (sn : Nat → Int32) (li : Int32) (pe : Nat) (sc : Nat → Int32) (seed : Int32) : Nat → Int32
  | 0 => li
  | i1 + 1 => (f_X1_after nl ho sn ((f_X4_nights_55_v4 nl ho sn li pe sc seed i1)) (f_X0_stirred pe sc ((f_X4_nights_67_v8 (f_X4_nights_55_v6 pe seed i1) pe))))
def f_X4_nights_55_v5 (nl : Nat) (ho : Nat → Int32) (sn : Nat → Int32) (li : Int32) (pe : Nat) (sc : Nat → Int32) (seed : Int32) : Nat → Int32
  | 0 => 0
  | i1 + 1 => ((f_X4_nights_55_v5 nl ho sn li pe sc seed i1) + (f_X0_inDark pe sc (f_X1_litOnes nl (f_X1_after nl ho sn ((f_X4_nights_55_v4 nl ho sn li pe sc seed i1)) (f_X0_stirred pe sc ((f_X4_nights_67_v8 (f_X4_nights_55_v6 pe seed i1) pe)))))))
def f_X4_nights (nl : Nat) (ho : Nat → Int32) (sn : Nat → Int32) (li : Int32) (pe : Nat) (sc : Nat → Int32) (minutes : Int32) (seed : Int32) (what : Int32) : Int32 := (if minutes < 1 then (-102) else (if 60 < minutes then (-102) else (if seed < 0 then (-102) else (if what < 0 then (-102) else (if what ≤ 2 then (if (f_X4_hasOffice nl) = 0 then (-103) else (if what = 0 then (f_X4_nights_55_v5 nl ho sn li pe sc seed (minutes.toNatClampNeg)) else (if what = 1 then (f_J6_bitCount_0f7a4 (f_X1_litOnes nl ((f_X4_nights_55_v4 nl ho sn li pe sc seed (minutes.toNatClampNeg))))) else (f_X4_nights_55_v6 pe seed (minutes.toNatClampNeg))))) else (-102))))))
theorem hd_X4_nights : yX4_nights.cls = RX4 ∧ yX4_nights.cls ≠ "java/lang/invoke/MethodHandle" ∧ yX4_nights.cls ≠ "java/lang/invoke/VarHandle" ∧ (parseMethodDescriptor yX4_nights.desc).map (fun d => d.parameters.length) = some 3 := by decide +kernel
set_option maxHeartbeats 4000000 in
set_option maxRecDepth 100000 in
theorem c_X4_nights (l : Launch) (D : va_G) (cI : ClassId) (aO aP aL aLk aLh aLs aE aEs aEw aEd aEl aEt aK aY aN aS : Nat) (ik : Int32) (ofr : Int32) (rd : Int32) (nl : Nat) (ho : Nat → Int32) (sn : Nat → Int32) (li : Int32) (mi : Int32) (pe : Nat) (to : Int32) (sc : Nat → Int32) (minutes : Int32) (seed : Int32) (what : Int32) (hn : nl ≤ 6) (hpe : pe ≤ 4) : MetR l yX4_nights wsX4_nights rm_X4_nights D cI [.ref aO, .int minutes, .int seed, .int what] [(aO, .inr (4, [.ref aP, .ref aL, .ref aE, .ref aK, .ref aY, .ref aN, .ref aS, .int ik, .int ofr, .int rd])), (aL, .inr (1, [.ref aLk, .ref aLh, .ref aLs, .int (nI nl)])), (aLh, .inl (cI, 6, .inl ho)), (aLs, .inl (cI, 6, .inl sn)), (aE, .inr (0, [.int li, .int mi, .int (nI pe), .ref aEs, .ref aEw, .ref aEd, .int to, .ref aEl, .ref aEt])), (aEs, .inl (cI, 4, .inl sc))] (some (.int (f_X4_nights nl ho sn li pe sc minutes seed what))) := by
  refine mR (cc := cX4_nights) (maxL := 10) (ret := (some .int)) (by decide) rfl (Nat.le_of_ble_eq_true rfl) ?_
  intro p e s m args below meth c Q hx hb hr hml hown hts hlk hP hK hQ ls hl
  have hown : s.vm.findClass RX4 = some m.cls := hown
  have hl : lv_has ls 10 [(0, .ref aO), (1, .int minutes), (2, .int seed), (3, .int what)] := hl
  have w1 := hts (.fieldLink RX4 26 "DarkOffice" "now" "LDarkOffice$Evening;") (List.mem_of_getElem? (i := 1) rfl)
  have uX4 : ∀ w ∈ wsX40, w ∈ wsX4_nights := fun _ h => List.mem_cons_of_mem _ (List.mem_append_left _ (List.mem_append_left _ (List.mem_append_right _ h)))
  have w2 := hts (.fieldLink RX4 90 "DarkOffice$Evening" "lit" "I") (List.mem_of_getElem? (i := 2) rfl)
  have uX0 : ∀ w ∈ wsX00, w ∈ wsX4_nights := fun _ h => List.mem_cons_of_mem _ (List.mem_append_left _ (List.mem_append_right _ h))
  have w4 := hts (.fieldLink RX4 19 "DarkOffice" "lamps" "LDarkOffice$Lamps;") (List.mem_of_getElem? (i := 4) rfl)
  have w3 := hts (.fieldLink RX4 125 "DarkOffice$Evening" "people" "I") (List.mem_of_getElem? (i := 3) rfl)
  refine lv_iload_n hx hb dX4_nights_0 rfl (lv_at hl 1 rfl) ?_
  refine lv_iconst (v := 1) hx hb dX4_nights_1 (by decide) ?_
  refine lv_icmp_lt (tgt := 24) hx hb dX4_nights_2 (by decide) (fun c1 => ?_) (fun c1 => ?_)
  · refine lv_bipush (v := (-102)) hx hb dX4_nights_24 (by decide) ?_
    exact eRi hx hb hr hlk hQ dX4_nights_26 (Eq.symm (by simp only [f_X4_nights, if_pos c1]))
  · refine lv_iload_n hx hb dX4_nights_5 rfl (lv_at hl 1 rfl) ?_
    refine lv_bipush (v := 60) hx hb dX4_nights_6 (by decide) ?_
    refine lv_icmp_gt (tgt := 24) hx hb dX4_nights_8 (by decide) (fun c2 => ?_) (fun c2 => ?_)
    · refine lv_bipush (v := (-102)) hx hb dX4_nights_24 (by decide) ?_
      exact eRi hx hb hr hlk hQ dX4_nights_26 (Eq.symm (by simp only [f_X4_nights, if_neg c1, if_pos c2]))
    · refine lv_iload_n hx hb dX4_nights_11 rfl (lv_at hl 2 rfl) ?_
      refine lv_if_lt (tgt := 24) hx hb dX4_nights_12 (by decide) (fun c3 => ?_) (fun c3 => ?_)
      · refine lv_bipush (v := (-102)) hx hb dX4_nights_24 (by decide) ?_
        exact eRi hx hb hr hlk hQ dX4_nights_26 (Eq.symm (by simp only [f_X4_nights, if_neg c1, if_neg c2, if_pos c3]))
      · refine lv_iload_n hx hb dX4_nights_15 rfl (lv_at hl 3 rfl) ?_
        refine lv_if_lt (tgt := 24) hx hb dX4_nights_16 (by decide) (fun c4 => ?_) (fun c4 => ?_)
        · refine lv_bipush (v := (-102)) hx hb dX4_nights_24 (by decide) ?_
          exact eRi hx hb hr hlk hQ dX4_nights_26 (Eq.symm (by simp only [f_X4_nights, if_neg c1, if_neg c2, if_neg c3, if_pos c4]))
        · refine lv_iload_n hx hb dX4_nights_19 rfl (lv_at hl 3 rfl) ?_
          refine lv_iconst (v := 2) hx hb dX4_nights_20 (by decide) ?_
          refine lv_icmp_le (tgt := 27) hx hb dX4_nights_21 (by decide) (fun c5 => ?_) (fun c5 => ?_)
          · refine lv_aload_n hx hb dX4_nights_27 rfl (lv_at hl 0 rfl) ?_
            refine rV ⟨hx, hb, hml, hown, hts⟩ (c_X4_hasOffice l D cI aO aP aL aLk aLh aLs aE aK aY aN aS ik ofr rd nl hn) (cwV 0 hts gX4_nights_X4_hasOffice rfl rfl rfl hd_X4_hasOffice ⟨Nat.le_of_ble_eq_true rfl, Nat.le_of_ble_eq_true rfl⟩) hK (hP.sub [0, 1] rfl) 0 rfl rfl rfl rfl hl.1 (rest := []) (st' := [.int (f_X4_hasOffice nl)]) rfl rfl (Nat.le_of_ble_eq_true rfl) dX4_nights_28 ⟨Nat.zero_le _, Nat.zero_le _⟩ ?_
            refine lv_if_ne (tgt := 37) hx hb dX4_nights_31 (by decide) (fun c6 => ?_) (fun c6 => ?_)
            · have hm : minutes = nI minutes.toNatClampNeg := nI_self (B := 1) (by decide) c1
              have hm2 : minutes.toNatClampNeg ≤ 60 := nI_bd (B := 60) (b := 60) rfl (by decide) hm c2
              refine lv_aload_n hx hb dX4_nights_37 rfl (lv_at hl 0 rfl) ?_
              refine va_get (D := D) (ci := 4) (v := .ref aE) (C := RX4) (T := TX4) (N := 10) hx hb hts uX4 hown hK hP 0 rfl rfl 2 (by decide) w1 (fun _ h9 => h9) rfl dX4_nights_38 ?_
              refine va_get (D := D) (ci := 0) (v := .int li) (C := RX0) (T := TX0) (N := 9) hx hb hts uX0 hown hK hP 4 rfl rfl 0 (by decide) w2 (fun _ h9 => h9) rfl dX4_nights_41 ?_
              refine lv_istore (lv' := [(4, .int li), (0, .ref aO), (1, .int minutes), (2, .int seed), (3, .int what)]) hx hb dX4_nights_44 hl (by decide) rfl (fun ls hl => ?_)
              refine lv_iconst (v := 0) hx hb dX4_nights_46 (by decide) ?_
              refine lv_istore (lv' := [(5, .int 0), (4, .int li), (0, .ref aO), (1, .int minutes), (2, .int seed), (3, .int what)]) hx hb dX4_nights_47 hl (by decide) rfl (fun ls hl => ?_)
              refine lv_iload_n hx hb dX4_nights_49 rfl (lv_at hl 4 rfl) ?_
              refine lv_istore (lv' := [(6, .int seed), (5, .int 0), (4, .int li), (0, .ref aO), (1, .int minutes), (2, .int seed), (3, .int what)]) hx hb dX4_nights_50 hl (by decide) rfl (fun ls hl => ?_)
              refine lv_iconst (v := 0) hx hb dX4_nights_52 (by decide) ?_
              refine lv_istore (lv' := [(7, .int 0), (6, .int seed), (5, .int 0), (4, .int li), (0, .ref aO), (1, .int minutes), (2, .int seed), (3, .int what)]) hx hb dX4_nights_53 hl (by decide) rfl (fun ls hl => ?_)
              have lp55 : ∀ (k55 i1 : Nat), i1 + k55 = minutes.toNatClampNeg → ∀ ls : Array Slot, lv_has ls 10 [(0, .ref aO), (1, .int minutes), (3, .int what), (4, .int ((f_X4_nights_55_v4 nl ho sn li pe sc seed i1))), (5, .int ((f_X4_nights_55_v5 nl ho sn li pe sc seed i1))), (6, .int ((f_X4_nights_55_v6 pe seed i1))), (7, .int (nI i1))] → W p l e rm_X4_nights s m args below meth c s.heap [] 0 0 Q (F0 m 55 ls []) := by
                intro k55
                induction k55 with
                | zero =>
                  intro i1 hk55 ls hl
                  have hN55 : minutes.toNatClampNeg = i1 := by omega
                  subst hN55
                  refine lv_iload hx hb dX4_nights_55 (lv_at hl 6 rfl) ?_
                  refine lv_iload_n hx hb dX4_nights_57 rfl (lv_at hl 1 rfl) ?_
                  refine tpi (y := nI (minutes.toNatClampNeg)) hm ?_
                  refine lv_icmp_ge (tgt := 160) hx hb dX4_nights_58 (by decide) (fun _ => ?_) (fun c => absurd (nle_t (a := minutes.toNatClampNeg) (b := (minutes.toNatClampNeg)) rfl rfl (by omega) (by omega) (by omega)) c)
                  refine lv_iload_n hx hb dX4_nights_160 rfl (lv_at hl 2 rfl) ?_
                  refine lv_if_ne (tgt := 167) hx hb dX4_nights_161 (by decide) (fun c7 => ?_) (fun c7 => ?_)
                  · refine lv_iload_n hx hb dX4_nights_167 rfl (lv_at hl 2 rfl) ?_
                    refine lv_iconst (v := 1) hx hb dX4_nights_168 (by decide) ?_
                    refine lv_icmp_ne (tgt := 187) hx hb dX4_nights_169 (by decide) (fun c8 => ?_) (fun c8 => ?_)
                    · refine lv_iload hx hb dX4_nights_187 (lv_at hl 5 rfl) ?_
                      exact eRi hx hb hr hlk hQ dX4_nights_189 (Eq.symm (by simp only [f_X4_nights, if_neg c1, if_neg c2, if_neg c3, if_neg c4, if_pos c5, if_neg c6, if_neg c7, if_neg c8]))
                    · refine lv_aload_n hx hb dX4_nights_172 rfl (lv_at hl 0 rfl) ?_
                      refine va_get (D := D) (ci := 4) (v := .ref aL) (C := RX4) (T := TX4) (N := 10) hx hb hts uX4 hown hK hP 0 rfl rfl 1 (by decide) w4 (fun _ h9 => h9) rfl dX4_nights_173 ?_
                      refine lv_iload hx hb dX4_nights_176 (lv_at hl 3 rfl) ?_
                      refine rV ⟨hx, hb, hml, hown, hts⟩ (c_X1_litOnes l D cI aL aLk aLh aLs nl ((f_X4_nights_55_v4 nl ho sn li pe sc seed (minutes.toNatClampNeg))) hn) (cwV 1 hts gX4_nights_X1_litOnes rfl rfl rfl hd_X1_litOnes ⟨Nat.le_of_ble_eq_true rfl, Nat.le_of_ble_eq_true rfl⟩) hK (hP.sub [1] rfl) 0 rfl rfl rfl rfl hl.1 (rest := []) (st' := [.int (f_X1_litOnes nl ((f_X4_nights_55_v4 nl ho sn li pe sc seed (minutes.toNatClampNeg))))]) rfl rfl (Nat.le_of_ble_eq_true rfl) dX4_nights_178 ⟨Nat.zero_le _, Nat.zero_le _⟩ ?_
                      refine rS ⟨hx, hb, hml, hown, hts⟩ (c_J6_bitCount_0f7a4 l D cI (f_X1_litOnes nl ((f_X4_nights_55_v4 nl ho sn li pe sc seed (minutes.toNatClampNeg))))) (va_cwS 1 hts gX4_nights_J6_bitCount_0f7a4 rfl rfl rfl hd_J6_bitCount_0f7a4 ⟨Nat.le_of_ble_eq_true rfl, Nat.le_of_ble_eq_true rfl⟩) hK (hP.sub [] rfl) rfl hl.1 (rest := []) (st' := [.int (f_J6_bitCount_0f7a4 (f_X1_litOnes nl ((f_X4_nights_55_v4 nl ho sn li pe sc seed (minutes.toNatClampNeg)))))]) rfl rfl (Nat.le_of_ble_eq_true rfl) dX4_nights_181 ⟨Nat.zero_le _, Nat.zero_le _⟩ ?_
                      refine lv_goto (tgt := 189) hx hb dX4_nights_184 (by decide) ?_
                      exact eRi hx hb hr hlk hQ dX4_nights_189 (Eq.symm (by simp only [f_X4_nights, if_neg c1, if_neg c2, if_neg c3, if_neg c4, if_pos c5, if_neg c6, if_neg c7, if_pos c8]))
                  · refine lv_iload hx hb dX4_nights_164 (lv_at hl 4 rfl) ?_
                    exact eRi hx hb hr hlk hQ dX4_nights_166 (Eq.symm (by simp only [f_X4_nights, if_neg c1, if_neg c2, if_neg c3, if_neg c4, if_pos c5, if_neg c6, if_pos c7]))
                | succ k55 ih55 =>
                  intro i1 hk55 ls hl
                  refine lv_iload hx hb dX4_nights_55 (lv_at hl 6 rfl) ?_
                  refine lv_iload_n hx hb dX4_nights_57 rfl (lv_at hl 1 rfl) ?_
                  refine tpi (y := nI (minutes.toNatClampNeg)) hm ?_
                  refine lv_icmp_ge (tgt := 160) hx hb dX4_nights_58 (by decide) (fun c => absurd c (nle_f (a := minutes.toNatClampNeg) (b := i1) rfl rfl (by omega) (by omega) (by omega))) (fun _ => ?_)
                  refine lv_iconst (v := 0) hx hb dX4_nights_61 (by decide) ?_
                  refine lv_istore (lv' := [(8, .int 0), (0, .ref aO), (1, .int minutes), (3, .int what), (4, .int ((f_X4_nights_55_v4 nl ho sn li pe sc seed i1))), (5, .int ((f_X4_nights_55_v5 nl ho sn li pe sc seed i1))), (6, .int ((f_X4_nights_55_v6 pe seed i1))), (7, .int (nI i1))]) hx hb dX4_nights_62 hl (by decide) rfl (fun ls hl => ?_)
                  refine lv_iconst (v := 0) hx hb dX4_nights_64 (by decide) ?_
                  refine lv_istore (lv' := [(9, .int 0), (8, .int 0), (0, .ref aO), (1, .int minutes), (3, .int what), (4, .int ((f_X4_nights_55_v4 nl ho sn li pe sc seed i1))), (5, .int ((f_X4_nights_55_v5 nl ho sn li pe sc seed i1))), (6, .int ((f_X4_nights_55_v6 pe seed i1))), (7, .int (nI i1))]) hx hb dX4_nights_65 hl (by decide) rfl (fun ls hl => ?_)
                  have lp67 : ∀ (k67 i2 : Nat), i2 + k67 = pe → ∀ ls : Array Slot, lv_has ls 10 [(0, .ref aO), (1, .int minutes), (3, .int what), (4, .int ((f_X4_nights_55_v4 nl ho sn li pe sc seed i1))), (5, .int ((f_X4_nights_55_v5 nl ho sn li pe sc seed i1))), (6, .int ((f_X4_nights_67_v6 (f_X4_nights_55_v6 pe seed i1) i2))), (7, .int (nI i1)), (8, .int ((f_X4_nights_67_v8 (f_X4_nights_55_v6 pe seed i1) i2))), (9, .int (nI i2))] → W p l e rm_X4_nights s m args below meth c s.heap [] 0 0 Q (F0 m 67 ls []) := by
                    intro k67
                    induction k67 with
                    | zero =>
                      intro i2 hk67 ls hl
                      have hN67 : pe = i2 := by omega
                      subst hN67
                      refine lv_iload hx hb dX4_nights_67 (lv_at hl 8 rfl) ?_
                      refine lv_aload_n hx hb dX4_nights_69 rfl (lv_at hl 0 rfl) ?_
                      refine va_get (D := D) (ci := 4) (v := .ref aE) (C := RX4) (T := TX4) (N := 10) hx hb hts uX4 hown hK hP 0 rfl rfl 2 (by decide) w1 (fun _ h9 => h9) rfl dX4_nights_70 ?_
                      refine va_get (D := D) (ci := 0) (v := .int (nI pe)) (C := RX0) (T := TX0) (N := 9) hx hb hts uX0 hown hK hP 4 rfl rfl 2 (by decide) w3 (fun _ h9 => h9) rfl dX4_nights_73 ?_
                      refine lv_icmp_ge (tgt := 113) hx hb dX4_nights_76 (by decide) (fun _ => ?_) (fun c => absurd (nle_t (a := pe) (b := pe) rfl rfl (by omega) (by omega) (by omega)) c)
                      refine lv_aload_n hx hb dX4_nights_113 rfl (lv_at hl 0 rfl) ?_
                      refine va_get (D := D) (ci := 4) (v := .ref aL) (C := RX4) (T := TX4) (N := 10) hx hb hts uX4 hown hK hP 0 rfl rfl 1 (by decide) w4 (fun _ h9 => h9) rfl dX4_nights_114 ?_
                      refine lv_iload hx hb dX4_nights_117 (lv_at hl 3 rfl) ?_
                      refine lv_aload_n hx hb dX4_nights_119 rfl (lv_at hl 0 rfl) ?_
                      refine va_get (D := D) (ci := 4) (v := .ref aE) (C := RX4) (T := TX4) (N := 10) hx hb hts uX4 hown hK hP 0 rfl rfl 2 (by decide) w1 (fun _ h9 => h9) rfl dX4_nights_120 ?_
                      refine lv_iload hx hb dX4_nights_123 (lv_at hl 7 rfl) ?_
                      refine rV ⟨hx, hb, hml, hown, hts⟩ (c_X0_stirred l D cI aE aEs aEw aEd aEl aEt li mi pe to sc ((f_X4_nights_67_v8 (f_X4_nights_55_v6 pe seed i1) pe)) hpe) (cwV 1 hts gX4_nights_X0_stirred rfl rfl rfl hd_X0_stirred ⟨Nat.le_of_ble_eq_true rfl, Nat.le_of_ble_eq_true rfl⟩) hK (hP.sub [4, 5] rfl) 0 rfl rfl rfl rfl hl.1 (rest := [.int ((f_X4_nights_55_v4 nl ho sn li pe sc seed i1)), .ref aL]) (st' := [.int (f_X0_stirred pe sc ((f_X4_nights_67_v8 (f_X4_nights_55_v6 pe seed i1) pe))), .int ((f_X4_nights_55_v4 nl ho sn li pe sc seed i1)), .ref aL]) rfl rfl (Nat.le_of_ble_eq_true rfl) dX4_nights_125 ⟨Nat.zero_le _, Nat.zero_le _⟩ ?_
                      refine rV ⟨hx, hb, hml, hown, hts⟩ (c_X1_after l D cI aL aLk aLh aLs nl ho sn ((f_X4_nights_55_v4 nl ho sn li pe sc seed i1)) (f_X0_stirred pe sc ((f_X4_nights_67_v8 (f_X4_nights_55_v6 pe seed i1) pe))) hn) (cwV 2 hts gX4_nights_X1_after rfl rfl rfl hd_X1_after ⟨Nat.le_of_ble_eq_true rfl, Nat.le_of_ble_eq_true rfl⟩) hK (hP.sub [1, 2, 3] rfl) 0 rfl rfl rfl rfl hl.1 (rest := []) (st' := [.int (f_X1_after nl ho sn ((f_X4_nights_55_v4 nl ho sn li pe sc seed i1)) (f_X0_stirred pe sc ((f_X4_nights_67_v8 (f_X4_nights_55_v6 pe seed i1) pe))))]) rfl rfl (Nat.le_of_ble_eq_true rfl) dX4_nights_128 ⟨Nat.zero_le _, Nat.zero_le _⟩ ?_
                      refine lv_istore (lv' := [(4, .int (f_X1_after nl ho sn ((f_X4_nights_55_v4 nl ho sn li pe sc seed i1)) (f_X0_stirred pe sc ((f_X4_nights_67_v8 (f_X4_nights_55_v6 pe seed i1) pe))))), (0, .ref aO), (1, .int minutes), (3, .int what), (5, .int ((f_X4_nights_55_v5 nl ho sn li pe sc seed i1))), (6, .int ((f_X4_nights_67_v6 (f_X4_nights_55_v6 pe seed i1) pe))), (7, .int (nI i1)), (8, .int ((f_X4_nights_67_v8 (f_X4_nights_55_v6 pe seed i1) pe))), (9, .int (nI pe))]) hx hb dX4_nights_131 hl (by decide) rfl (fun ls hl => ?_)
                      refine lv_iload hx hb dX4_nights_133 (lv_at hl 4 rfl) ?_
                      refine lv_aload_n hx hb dX4_nights_135 rfl (lv_at hl 1 rfl) ?_
                      refine va_get (D := D) (ci := 4) (v := .ref aE) (C := RX4) (T := TX4) (N := 10) hx hb hts uX4 hown hK hP 0 rfl rfl 2 (by decide) w1 (fun _ h9 => h9) rfl dX4_nights_136 ?_
                      refine lv_aload_n hx hb dX4_nights_139 rfl (lv_at hl 1 rfl) ?_
                      refine va_get (D := D) (ci := 4) (v := .ref aL) (C := RX4) (T := TX4) (N := 10) hx hb hts uX4 hown hK hP 0 rfl rfl 1 (by decide) w4 (fun _ h9 => h9) rfl dX4_nights_140 ?_
                      refine lv_iload hx hb dX4_nights_143 (lv_at hl 0 rfl) ?_
                      refine rV ⟨hx, hb, hml, hown, hts⟩ (c_X1_litOnes l D cI aL aLk aLh aLs nl (f_X1_after nl ho sn ((f_X4_nights_55_v4 nl ho sn li pe sc seed i1)) (f_X0_stirred pe sc ((f_X4_nights_67_v8 (f_X4_nights_55_v6 pe seed i1) pe)))) hn) (cwV 1 hts gX4_nights_X1_litOnes rfl rfl rfl hd_X1_litOnes ⟨Nat.le_of_ble_eq_true rfl, Nat.le_of_ble_eq_true rfl⟩) hK (hP.sub [1] rfl) 0 rfl rfl rfl rfl hl.1 (rest := [.ref aE, .int ((f_X4_nights_55_v5 nl ho sn li pe sc seed i1))]) (st' := [.int (f_X1_litOnes nl (f_X1_after nl ho sn ((f_X4_nights_55_v4 nl ho sn li pe sc seed i1)) (f_X0_stirred pe sc ((f_X4_nights_67_v8 (f_X4_nights_55_v6 pe seed i1) pe))))), .ref aE, .int ((f_X4_nights_55_v5 nl ho sn li pe sc seed i1))]) rfl rfl (Nat.le_of_ble_eq_true rfl) dX4_nights_145 ⟨Nat.zero_le _, Nat.zero_le _⟩ ?_
                      refine rV ⟨hx, hb, hml, hown, hts⟩ (c_X0_inDark l D cI aE aEs aEw aEd aEl aEt li mi pe to sc (f_X1_litOnes nl (f_X1_after nl ho sn ((f_X4_nights_55_v4 nl ho sn li pe sc seed i1)) (f_X0_stirred pe sc ((f_X4_nights_67_v8 (f_X4_nights_55_v6 pe seed i1) pe))))) hpe) (cwV 1 hts gX4_nights_X0_inDark rfl rfl rfl hd_X0_inDark ⟨Nat.le_of_ble_eq_true rfl, Nat.le_of_ble_eq_true rfl⟩) hK (hP.sub [4, 5] rfl) 0 rfl rfl rfl rfl hl.1 (rest := [.int ((f_X4_nights_55_v5 nl ho sn li pe sc seed i1))]) (st' := [.int (f_X0_inDark pe sc (f_X1_litOnes nl (f_X1_after nl ho sn ((f_X4_nights_55_v4 nl ho sn li pe sc seed i1)) (f_X0_stirred pe sc ((f_X4_nights_67_v8 (f_X4_nights_55_v6 pe seed i1) pe)))))), .int ((f_X4_nights_55_v5 nl ho sn li pe sc seed i1))]) rfl rfl (Nat.le_of_ble_eq_true rfl) dX4_nights_148 ⟨Nat.zero_le _, Nat.zero_le _⟩ ?_
                      refine lv_iadd hx hb dX4_nights_151 ?_
                      refine lv_istore (lv' := [(5, .int ((f_X4_nights_55_v5 nl ho sn li pe sc seed i1) + (f_X0_inDark pe sc (f_X1_litOnes nl (f_X1_after nl ho sn ((f_X4_nights_55_v4 nl ho sn li pe sc seed i1)) (f_X0_stirred pe sc ((f_X4_nights_67_v8 (f_X4_nights_55_v6 pe seed i1) pe)))))))), (4, .int (f_X1_after nl ho sn ((f_X4_nights_55_v4 nl ho sn li pe sc seed i1)) (f_X0_stirred pe sc ((f_X4_nights_67_v8 (f_X4_nights_55_v6 pe seed i1) pe))))), (0, .ref aO), (1, .int minutes), (3, .int what), (6, .int ((f_X4_nights_67_v6 (f_X4_nights_55_v6 pe seed i1) pe))), (7, .int (nI i1)), (8, .int ((f_X4_nights_67_v8 (f_X4_nights_55_v6 pe seed i1) pe))), (9, .int (nI pe))]) hx hb dX4_nights_152 hl (by decide) rfl (fun ls hl => ?_)
                      refine lv_iinc (v := nI (i1 + 1)) (lv' := [(7, .int (nI (i1 + 1))), (5, .int ((f_X4_nights_55_v5 nl ho sn li pe sc seed i1) + (f_X0_inDark pe sc (f_X1_litOnes nl (f_X1_after nl ho sn ((f_X4_nights_55_v4 nl ho sn li pe sc seed i1)) (f_X0_stirred pe sc ((f_X4_nights_67_v8 (f_X4_nights_55_v6 pe seed i1) pe)))))))), (4, .int (f_X1_after nl ho sn ((f_X4_nights_55_v4 nl ho sn li pe sc seed i1)) (f_X0_stirred pe sc ((f_X4_nights_67_v8 (f_X4_nights_55_v6 pe seed i1) pe))))), (0, .ref aO), (1, .int minutes), (3, .int what), (6, .int ((f_X4_nights_67_v6 (f_X4_nights_55_v6 pe seed i1) pe))), (8, .int ((f_X4_nights_67_v8 (f_X4_nights_55_v6 pe seed i1) pe))), (9, .int (nI pe))]) hx hb dX4_nights_154 hl (k := 6) rfl (nI_add i1 1) (by decide) rfl (fun ls hl => ?_)
                      refine lv_goto (tgt := 55) hx hb dX4_nights_157 (by decide) ?_
                      have e_v4 : (f_X4_nights_55_v4 nl ho sn li pe sc seed (i1 + 1)) = (f_X1_after nl ho sn ((f_X4_nights_55_v4 nl ho sn li pe sc seed i1)) (f_X0_stirred pe sc ((f_X4_nights_67_v8 (f_X4_nights_55_v6 pe seed i1) pe)))) := (by simp only [f_X4_nights_55_v4])
                      have e_v5 : (f_X4_nights_55_v5 nl ho sn li pe sc seed (i1 + 1)) = ((f_X4_nights_55_v5 nl ho sn li pe sc seed i1) + (f_X0_inDark pe sc (f_X1_litOnes nl (f_X1_after nl ho sn ((f_X4_nights_55_v4 nl ho sn li pe sc seed i1)) (f_X0_stirred pe sc ((f_X4_nights_67_v8 (f_X4_nights_55_v6 pe seed i1) pe))))))) := (by simp only [f_X4_nights_55_v5])
                      have e_v6 : (f_X4_nights_55_v6 pe seed (i1 + 1)) = (f_X4_nights_67_v6 (f_X4_nights_55_v6 pe seed i1) pe) := (by simp only [f_X4_nights_55_v6])
                      exact ih55 (i1 + 1) (by omega) ls (by rw [e_v4, e_v5, e_v6]; exact lv_sub hl [3, 4, 5, 2, 1, 6, 0] rfl)
                    | succ k67 ih67 =>
                      intro i2 hk67 ls hl
                      refine lv_iload hx hb dX4_nights_67 (lv_at hl 8 rfl) ?_
                      refine lv_aload_n hx hb dX4_nights_69 rfl (lv_at hl 0 rfl) ?_
                      refine va_get (D := D) (ci := 4) (v := .ref aE) (C := RX4) (T := TX4) (N := 10) hx hb hts uX4 hown hK hP 0 rfl rfl 2 (by decide) w1 (fun _ h9 => h9) rfl dX4_nights_70 ?_
                      refine va_get (D := D) (ci := 0) (v := .int (nI pe)) (C := RX0) (T := TX0) (N := 9) hx hb hts uX0 hown hK hP 4 rfl rfl 2 (by decide) w3 (fun _ h9 => h9) rfl dX4_nights_73 ?_
                      refine lv_icmp_ge (tgt := 113) hx hb dX4_nights_76 (by decide) (fun c => absurd c (nle_f (a := pe) (b := i2) rfl rfl (by omega) (by omega) (by omega))) (fun _ => ?_)
                      refine lv_iload hx hb dX4_nights_79 (lv_at hl 5 rfl) ?_
                      refine rS ⟨hx, hb, hml, hown, hts⟩ (c_X4_nextSeed l D cI ((f_X4_nights_67_v6 (f_X4_nights_55_v6 pe seed i1) i2))) (va_cwS 1 hts gX4_nights_X4_nextSeed rfl rfl rfl hd_X4_nextSeed ⟨Nat.le_of_ble_eq_true rfl, Nat.le_of_ble_eq_true rfl⟩) hK (hP.sub [] rfl) rfl hl.1 (rest := []) (st' := [.int (f_X4_nextSeed ((f_X4_nights_67_v6 (f_X4_nights_55_v6 pe seed i1) i2)))]) rfl rfl (Nat.le_of_ble_eq_true rfl) dX4_nights_81 ⟨Nat.zero_le _, Nat.zero_le _⟩ ?_
                      refine lv_istore (lv' := [(6, .int (f_X4_nextSeed ((f_X4_nights_67_v6 (f_X4_nights_55_v6 pe seed i1) i2)))), (0, .ref aO), (1, .int minutes), (3, .int what), (4, .int ((f_X4_nights_55_v4 nl ho sn li pe sc seed i1))), (5, .int ((f_X4_nights_55_v5 nl ho sn li pe sc seed i1))), (7, .int (nI i1)), (8, .int ((f_X4_nights_67_v8 (f_X4_nights_55_v6 pe seed i1) i2))), (9, .int (nI i2))]) hx hb dX4_nights_84 hl (by decide) rfl (fun ls hl => ?_)
                      refine lv_iload hx hb dX4_nights_86 (lv_at hl 7 rfl) ?_
                      refine lv_iload hx hb dX4_nights_88 (lv_at hl 0 rfl) ?_
                      refine rS ⟨hx, hb, hml, hown, hts⟩ (c_X4_draw l D cI (f_X4_nextSeed ((f_X4_nights_67_v6 (f_X4_nights_55_v6 pe seed i1) i2)))) (va_cwS 1 hts gX4_nights_X4_draw rfl rfl rfl hd_X4_draw ⟨Nat.le_of_ble_eq_true rfl, Nat.le_of_ble_eq_true rfl⟩) hK (hP.sub [] rfl) rfl hl.1 (rest := [.int ((f_X4_nights_67_v8 (f_X4_nights_55_v6 pe seed i1) i2))]) (st' := [.int (f_X4_draw (f_X4_nextSeed ((f_X4_nights_67_v6 (f_X4_nights_55_v6 pe seed i1) i2)))), .int ((f_X4_nights_67_v8 (f_X4_nights_55_v6 pe seed i1) i2))]) rfl rfl (Nat.le_of_ble_eq_true rfl) dX4_nights_90 ⟨Nat.zero_le _, Nat.zero_le _⟩ ?_
                      refine lv_if_ne (tgt := 103) hx hb dX4_nights_93 (by decide) (fun c9 => ?_) (fun c9 => ?_)
                      · refine lv_iconst (v := 0) hx hb dX4_nights_103 (by decide) ?_
                        refine lv_ior hx hb dX4_nights_104 ?_
                        refine lv_istore (lv' := [(8, .int ((f_X4_nights_67_v8 (f_X4_nights_55_v6 pe seed i1) i2) ||| 0)), (6, .int (f_X4_nextSeed ((f_X4_nights_67_v6 (f_X4_nights_55_v6 pe seed i1) i2)))), (0, .ref aO), (1, .int minutes), (3, .int what), (4, .int ((f_X4_nights_55_v4 nl ho sn li pe sc seed i1))), (5, .int ((f_X4_nights_55_v5 nl ho sn li pe sc seed i1))), (7, .int (nI i1)), (9, .int (nI i2))]) hx hb dX4_nights_105 hl (by decide) rfl (fun ls hl => ?_)
                        refine lv_iinc (v := nI (i2 + 1)) (lv' := [(9, .int (nI (i2 + 1))), (8, .int ((f_X4_nights_67_v8 (f_X4_nights_55_v6 pe seed i1) i2) ||| 0)), (6, .int (f_X4_nextSeed ((f_X4_nights_67_v6 (f_X4_nights_55_v6 pe seed i1) i2)))), (0, .ref aO), (1, .int minutes), (3, .int what), (4, .int ((f_X4_nights_55_v4 nl ho sn li pe sc seed i1))), (5, .int ((f_X4_nights_55_v5 nl ho sn li pe sc seed i1))), (7, .int (nI i1))]) hx hb dX4_nights_107 hl (k := 8) rfl (nI_add i2 1) (by decide) rfl (fun ls hl => ?_)
                        refine lv_goto (tgt := 67) hx hb dX4_nights_110 (by decide) ?_
                        have e_v6 : (f_X4_nights_67_v6 (f_X4_nights_55_v6 pe seed i1) (i2 + 1)) = (f_X4_nextSeed ((f_X4_nights_67_v6 (f_X4_nights_55_v6 pe seed i1) i2))) := (by simp only [f_X4_nights_67_v6, if_neg c9])
                        have e_v8 : (f_X4_nights_67_v8 (f_X4_nights_55_v6 pe seed i1) (i2 + 1)) = ((f_X4_nights_67_v8 (f_X4_nights_55_v6 pe seed i1) i2) ||| 0) := (by simp only [f_X4_nights_67_v8, if_neg c9])
                        exact ih67 (i2 + 1) (by omega) ls (by rw [e_v6, e_v8]; exact lv_sub hl [3, 4, 5, 6, 7, 2, 8, 1, 0] rfl)
                      · refine lv_iconst (v := 1) hx hb dX4_nights_96 (by decide) ?_
                        refine lv_iload hx hb dX4_nights_97 (lv_at hl 8 rfl) ?_
                        refine lv_ishl hx hb dX4_nights_99 ?_
                        refine lv_goto (tgt := 104) hx hb dX4_nights_100 (by decide) ?_
                        refine lv_ior hx hb dX4_nights_104 ?_
                        refine lv_istore (lv' := [(8, .int ((f_X4_nights_67_v8 (f_X4_nights_55_v6 pe seed i1) i2) ||| ((1 : Int32) <<< (nI i2 &&& 31)))), (6, .int (f_X4_nextSeed ((f_X4_nights_67_v6 (f_X4_nights_55_v6 pe seed i1) i2)))), (0, .ref aO), (1, .int minutes), (3, .int what), (4, .int ((f_X4_nights_55_v4 nl ho sn li pe sc seed i1))), (5, .int ((f_X4_nights_55_v5 nl ho sn li pe sc seed i1))), (7, .int (nI i1)), (9, .int (nI i2))]) hx hb dX4_nights_105 hl (by decide) rfl (fun ls hl => ?_)
                        refine lv_iinc (v := nI (i2 + 1)) (lv' := [(9, .int (nI (i2 + 1))), (8, .int ((f_X4_nights_67_v8 (f_X4_nights_55_v6 pe seed i1) i2) ||| ((1 : Int32) <<< (nI i2 &&& 31)))), (6, .int (f_X4_nextSeed ((f_X4_nights_67_v6 (f_X4_nights_55_v6 pe seed i1) i2)))), (0, .ref aO), (1, .int minutes), (3, .int what), (4, .int ((f_X4_nights_55_v4 nl ho sn li pe sc seed i1))), (5, .int ((f_X4_nights_55_v5 nl ho sn li pe sc seed i1))), (7, .int (nI i1))]) hx hb dX4_nights_107 hl (k := 8) rfl (nI_add i2 1) (by decide) rfl (fun ls hl => ?_)
                        refine lv_goto (tgt := 67) hx hb dX4_nights_110 (by decide) ?_
                        have e_v6 : (f_X4_nights_67_v6 (f_X4_nights_55_v6 pe seed i1) (i2 + 1)) = (f_X4_nextSeed ((f_X4_nights_67_v6 (f_X4_nights_55_v6 pe seed i1) i2))) := (by simp only [f_X4_nights_67_v6, if_pos c9])
                        have e_v8 : (f_X4_nights_67_v8 (f_X4_nights_55_v6 pe seed i1) (i2 + 1)) = ((f_X4_nights_67_v8 (f_X4_nights_55_v6 pe seed i1) i2) ||| ((1 : Int32) <<< (nI i2 &&& 31))) := (by simp only [f_X4_nights_67_v8, if_pos c9])
                        exact ih67 (i2 + 1) (by omega) ls (by rw [e_v6, e_v8]; exact lv_sub hl [3, 4, 5, 6, 7, 2, 8, 1, 0] rfl)
                  exact lp67 pe 0 (by omega) ls (lv_sub hl [2, 3, 4, 5, 6, 7, 8, 1, 0] rfl)
              exact lp55 (minutes.toNatClampNeg) 0 (by omega) ls (lv_sub hl [4, 5, 7, 3, 2, 1, 0] rfl)
            · refine lv_bipush (v := (-103)) hx hb dX4_nights_34 (by decide) ?_
              exact eRi hx hb hr hlk hQ dX4_nights_36 (Eq.symm (by simp only [f_X4_nights, if_neg c1, if_neg c2, if_neg c3, if_neg c4, if_pos c5, if_pos c6]))
          · refine lv_bipush (v := (-102)) hx hb dX4_nights_24 (by decide) ?_
            exact eRi hx hb hr hlk hQ dX4_nights_26 (Eq.symm (by simp only [f_X4_nights, if_neg c1, if_neg c2, if_neg c3, if_neg c4, if_neg c5]))

def rm_X4_image : Room := { frames := 1, cells := 0, slots := 0, locals := 22 }
def f_X4_image (nl : Nat) (mi : Int32) : Int32 := (if (f_X4_hasOffice nl) = 0 then (-103) else mi)
def f_X4_image_O_7 (ik : Int32) (nl : Nat) : Int32 := (if (f_X4_hasOffice nl) = 0 then ik else 1)
def f_X4_image_K_0 (nl : Nat) (li : Int32) (kli : Int32) : Int32 := (if (f_X4_hasOffice nl) = 0 then kli else (f_X0_copy_E_0 li))
def f_X4_image_K_1 (nl : Nat) (mi : Int32) (kmi : Int32) : Int32 := (if (f_X4_hasOffice nl) = 0 then kmi else (f_X0_copy_E_1 mi))
def f_X4_image_K_2 (nl : Nat) (pe : Nat) (kpe : Int32) : Int32 := (if (f_X4_hasOffice nl) = 0 then kpe else (f_X0_copy_E_2 (nI pe)))
def f_X4_image_K_6 (nl : Nat) (to : Int32) (kto : Int32) : Int32 := (if (f_X4_hasOffice nl) = 0 then kto else (f_X0_copy_E_6 to))
def f_X4_image_Ks (nl : Nat) (sc : Nat → Int32) (ksc : Nat → Int32) : Nat → Int32 := (if (f_X4_hasOffice nl) = 0 then ksc else (f_X0_copy_Es ksc sc))
def f_X4_image_Kw (nl : Nat) (wv : Nat → Int32) (kwv : Nat → Int32) : Nat → Int32 := (if (f_X4_hasOffice nl) = 0 then kwv else (f_X0_copy_Ew kwv wv))
def f_X4_image_Kd (nl : Nat) (dk : Nat → Int32) (kdk : Nat → Int32) : Nat → Int32 := (if (f_X4_hasOffice nl) = 0 then kdk else (f_X0_copy_Ed kdk dk))
def f_X4_image_Kl (nl : Nat) (tl : Nat → Int32) (ktl : Nat → Int32) : Nat → Int32 := (if (f_X4_hasOffice nl) = 0 then ktl else (f_X0_copy_El ktl tl))
def f_X4_image_Kt (nl : Nat) (td : Nat → Int32) (ktd : Nat → Int32) : Nat → Int32 := (if (f_X4_hasOffice nl) = 0 then ktd else (f_X0_copy_Et ktd td))
theorem hd_X4_image : yX4_image.cls = RX4 ∧ yX4_image.cls ≠ "java/lang/invoke/MethodHandle" ∧ yX4_image.cls ≠ "java/lang/invoke/VarHandle" ∧ (parseMethodDescriptor yX4_image.desc).map (fun d => d.parameters.length) = some 0 := by decide +kernel
set_option maxHeartbeats 4000000 in
set_option maxRecDepth 100000 in
theorem c_X4_image (l : Launch) (D : va_G) (cI : ClassId) (aO aP aL aLk aLh aLs aE aEs aEw aEd aEl aEt aK aKs aKw aKd aKl aKt aY aN aS : Nat) (ik : Int32) (ofr : Int32) (rd : Int32) (nl : Nat) (li : Int32) (mi : Int32) (pe : Nat) (to : Int32) (sc : Nat → Int32) (wv : Nat → Int32) (dk : Nat → Int32) (tl : Nat → Int32) (td : Nat → Int32) (kli : Int32) (kmi : Int32) (kpe : Int32) (kto : Int32) (ksc : Nat → Int32) (kwv : Nat → Int32) (kdk : Nat → Int32) (ktl : Nat → Int32) (ktd : Nat → Int32) (hn : nl ≤ 6) : MetX l yX4_image wsX4_image rm_X4_image D cI [.ref aO] [(aO, .inr (4, [.ref aP, .ref aL, .ref aE, .ref aK, .ref aY, .ref aN, .ref aS, .int ik, .int ofr, .int rd])), (aL, .inr (1, [.ref aLk, .ref aLh, .ref aLs, .int (nI nl)])), (aE, .inr (0, [.int li, .int mi, .int (nI pe), .ref aEs, .ref aEw, .ref aEd, .int to, .ref aEl, .ref aEt])), (aEs, .inl (cI, 4, .inl sc)), (aEw, .inl (cI, 4, .inl wv)), (aEd, .inl (cI, 4, .inl dk)), (aEl, .inl (cI, 7, .inl tl)), (aEt, .inl (cI, 7, .inl td)), (aK, .inr (0, [.int kli, .int kmi, .int kpe, .ref aKs, .ref aKw, .ref aKd, .int kto, .ref aKl, .ref aKt])), (aKs, .inl (cI, 4, .inl ksc)), (aKw, .inl (cI, 4, .inl kwv)), (aKd, .inl (cI, 4, .inl kdk)), (aKl, .inl (cI, 7, .inl ktl)), (aKt, .inl (cI, 7, .inl ktd))] (some (.int (f_X4_image nl mi))) [(aO, .inr (4, [.ref aP, .ref aL, .ref aE, .ref aK, .ref aY, .ref aN, .ref aS, .int (f_X4_image_O_7 ik nl), .int ofr, .int rd])), (aL, .inr (1, [.ref aLk, .ref aLh, .ref aLs, .int (nI nl)])), (aE, .inr (0, [.int li, .int mi, .int (nI pe), .ref aEs, .ref aEw, .ref aEd, .int to, .ref aEl, .ref aEt])), (aEs, .inl (cI, 4, .inl sc)), (aEw, .inl (cI, 4, .inl wv)), (aEd, .inl (cI, 4, .inl dk)), (aEl, .inl (cI, 7, .inl tl)), (aEt, .inl (cI, 7, .inl td)), (aK, .inr (0, [.int (f_X4_image_K_0 nl li kli), .int (f_X4_image_K_1 nl mi kmi), .int (f_X4_image_K_2 nl pe kpe), .ref aKs, .ref aKw, .ref aKd, .int (f_X4_image_K_6 nl to kto), .ref aKl, .ref aKt])), (aKs, .inl (cI, 4, .inl (f_X4_image_Ks nl sc ksc))), (aKw, .inl (cI, 4, .inl (f_X4_image_Kw nl wv kwv))), (aKd, .inl (cI, 4, .inl (f_X4_image_Kd nl dk kdk))), (aKl, .inl (cI, 7, .inl (f_X4_image_Kl nl tl ktl))), (aKt, .inl (cI, 7, .inl (f_X4_image_Kt nl td ktd)))] := by
  refine mX (cc := cX4_image) (maxL := 1) (ret := (some .int)) (by decide) rfl (Nat.le_of_ble_eq_true rfl) ?_
  intro p e s m args below meth c Q A hx hb hr hml hown hts hlk hP hK hD hA hS hQ ls hl
  have hown : s.vm.findClass RX4 = some m.cls := hown
  have hl : lv_has ls 1 [(0, .ref aO)] := hl
  have w1 := hts (.fieldLink RX4 30 "DarkOffice" "kept" "LDarkOffice$Evening;") (List.mem_of_getElem? (i := 1) rfl)
  have uX4 : ∀ w ∈ wsX40, w ∈ wsX4_image := fun _ h => List.mem_cons_of_mem _ (List.mem_append_left _ (List.mem_append_left _ (List.mem_append_right _ h)))
  have w2 := hts (.fieldLink RX4 26 "DarkOffice" "now" "LDarkOffice$Evening;") (List.mem_of_getElem? (i := 2) rfl)
  have w3 := hts (.fieldLink RX4 70 "DarkOffice" "imageKept" "Z") (List.mem_of_getElem? (i := 3) rfl)
  have w4 := hts (.fieldLink RX4 137 "DarkOffice$Evening" "minutes" "I") (List.mem_of_getElem? (i := 4) rfl)
  have uX0 : ∀ w ∈ wsX00, w ∈ wsX4_image := fun _ h => List.mem_cons_of_mem _ (List.mem_append_left _ (List.mem_append_right _ h))
  refine lv_aload_n hx hb dX4_image_0 rfl (lv_at hl 0 rfl) ?_
  refine rV ⟨hx, hb, hml, hown, hts⟩ (c_X4_hasOffice l D cI aO aP aL aLk aLh aLs aE aK aY aN aS ik ofr rd nl hn) (cwV 0 hts gX4_image_X4_hasOffice rfl rfl rfl hd_X4_hasOffice ⟨Nat.le_of_ble_eq_true rfl, Nat.le_of_ble_eq_true rfl⟩) hK (hP.sub [0, 1] rfl) 0 rfl rfl rfl rfl hl.1 (rest := []) (st' := [.int (f_X4_hasOffice nl)]) rfl rfl (Nat.le_of_ble_eq_true rfl) dX4_image_1 ⟨Nat.zero_le _, Nat.zero_le _⟩ ?_
  refine lv_if_ne (tgt := 10) hx hb dX4_image_4 (by decide) (fun c1 => ?_) (fun c1 => ?_)
  · refine lv_aload_n hx hb dX4_image_10 rfl (lv_at hl 0 rfl) ?_
    refine va_get (D := D) (ci := 4) (v := .ref aK) (C := RX4) (T := TX4) (N := 10) hx hb hts uX4 hown hK hP 0 rfl rfl 3 (by decide) w1 (fun _ h9 => h9) rfl dX4_image_11 ?_
    refine lv_aload_n hx hb dX4_image_14 rfl (lv_at hl 0 rfl) ?_
    refine va_get (D := D) (ci := 4) (v := .ref aE) (C := RX4) (T := TX4) (N := 10) hx hb hts uX4 hown hK hP 0 rfl rfl 2 (by decide) w2 (fun _ h9 => h9) rfl dX4_image_15 ?_
    refine xV (w2 := [(aO, .inr (4, [.ref aP, .ref aL, .ref aE, .ref aK, .ref aY, .ref aN, .ref aS, .int ik, .int ofr, .int rd])), (aL, .inr (1, [.ref aLk, .ref aLh, .ref aLs, .int (nI nl)])), (aE, .inr (0, [.int li, .int mi, .int (nI pe), .ref aEs, .ref aEw, .ref aEd, .int to, .ref aEl, .ref aEt])), (aEs, .inl (cI, 4, .inl sc)), (aEw, .inl (cI, 4, .inl wv)), (aEd, .inl (cI, 4, .inl dk)), (aEl, .inl (cI, 7, .inl tl)), (aEt, .inl (cI, 7, .inl td)), (aK, .inr (0, [.int (f_X0_copy_E_0 li), .int (f_X0_copy_E_1 mi), .int (f_X0_copy_E_2 (nI pe)), .ref aKs, .ref aKw, .ref aKd, .int (f_X0_copy_E_6 to), .ref aKl, .ref aKt])), (aKs, .inl (cI, 4, .inl (f_X0_copy_Es ksc sc))), (aKw, .inl (cI, 4, .inl (f_X0_copy_Ew kwv wv))), (aKd, .inl (cI, 4, .inl (f_X0_copy_Ed kdk dk))), (aKl, .inl (cI, 7, .inl (f_X0_copy_El ktl tl))), (aKt, .inl (cI, 7, .inl (f_X0_copy_Et ktd td)))]) ⟨hx, hb, hml, hown, hts⟩ (c_X0_copy l D cI aK aKs aKw aKd aKl aKt aE aEs aEw aEd aEl aEt kli kmi kto ksc kwv kdk ktl ktd li mi (nI pe) to sc wv dk tl td kpe) (cwV 1 hts gX4_image_X0_copy rfl rfl rfl hd_X0_copy ⟨Nat.le_of_ble_eq_true rfl, Nat.le_of_ble_eq_true rfl⟩) hK hP hD hS hA [8, 9, 10, 11, 12, 13, 2, 3, 4, 5, 6, 7] [0, 1] [0, 1, 8, 9, 10, 11, 12, 13, 2, 3, 4, 5, 6, 7] rfl rfl rfl rfl rfl (by decide) rfl rfl rfl 0 rfl rfl rfl rfl hl.1 (rest := []) (st' := []) rfl rfl (Nat.le_of_ble_eq_true rfl) dX4_image_18 ⟨Nat.zero_le _, Nat.zero_le _⟩ (fun H locs hP hD hS => ?_)
    refine lv_aload_n hx hb dX4_image_21 rfl (lv_at hl 0 rfl) ?_
    refine lv_iconst (v := 1) hx hb dX4_image_22 (by decide) ?_
    refine va_put (D := D) (ci := 4) (v := .int 1) (ty := .boolean) (C := RX4) (T := TX4) (N := 10) hx hb hts uX4 tyX4 tyX4_ok nmX4 hown hK hP hD hS 0 rfl rfl 7 (by decide) w3 (fun _ h9 => h9) rfl (by decide +kernel) rfl rfl (Nat.le_of_ble_eq_true rfl) dX4_image_23 (fun H locs hP hD hS => ?_)
    have hP : va_P D vwCl [(aO, .inr (4, [.ref aP, .ref aL, .ref aE, .ref aK, .ref aY, .ref aN, .ref aS, .int 1, .int ofr, .int rd])), (aL, .inr (1, [.ref aLk, .ref aLh, .ref aLs, .int (nI nl)])), (aE, .inr (0, [.int li, .int mi, .int (nI pe), .ref aEs, .ref aEw, .ref aEd, .int to, .ref aEl, .ref aEt])), (aEs, .inl (cI, 4, .inl sc)), (aEw, .inl (cI, 4, .inl wv)), (aEd, .inl (cI, 4, .inl dk)), (aEl, .inl (cI, 7, .inl tl)), (aEt, .inl (cI, 7, .inl td)), (aK, .inr (0, [.int (f_X0_copy_E_0 li), .int (f_X0_copy_E_1 mi), .int (f_X0_copy_E_2 (nI pe)), .ref aKs, .ref aKw, .ref aKd, .int (f_X0_copy_E_6 to), .ref aKl, .ref aKt])), (aKs, .inl (cI, 4, .inl (f_X0_copy_Es ksc sc))), (aKw, .inl (cI, 4, .inl (f_X0_copy_Ew kwv wv))), (aKd, .inl (cI, 4, .inl (f_X0_copy_Ed kdk dk))), (aKl, .inl (cI, 7, .inl (f_X0_copy_El ktl tl))), (aKt, .inl (cI, 7, .inl (f_X0_copy_Et ktd td)))] H := hP
    have hD : va_D A [(aO, .inr (4, [.ref aP, .ref aL, .ref aE, .ref aK, .ref aY, .ref aN, .ref aS, .int 1, .int ofr, .int rd])), (aL, .inr (1, [.ref aLk, .ref aLh, .ref aLs, .int (nI nl)])), (aE, .inr (0, [.int li, .int mi, .int (nI pe), .ref aEs, .ref aEw, .ref aEd, .int to, .ref aEl, .ref aEt])), (aEs, .inl (cI, 4, .inl sc)), (aEw, .inl (cI, 4, .inl wv)), (aEd, .inl (cI, 4, .inl dk)), (aEl, .inl (cI, 7, .inl tl)), (aEt, .inl (cI, 7, .inl td)), (aK, .inr (0, [.int (f_X0_copy_E_0 li), .int (f_X0_copy_E_1 mi), .int (f_X0_copy_E_2 (nI pe)), .ref aKs, .ref aKw, .ref aKd, .int (f_X0_copy_E_6 to), .ref aKl, .ref aKt])), (aKs, .inl (cI, 4, .inl (f_X0_copy_Es ksc sc))), (aKw, .inl (cI, 4, .inl (f_X0_copy_Ew kwv wv))), (aKd, .inl (cI, 4, .inl (f_X0_copy_Ed kdk dk))), (aKl, .inl (cI, 7, .inl (f_X0_copy_El ktl tl))), (aKt, .inl (cI, 7, .inl (f_X0_copy_Et ktd td)))] := hD
    refine lv_aload_n hx hb dX4_image_26 rfl (lv_at hl 0 rfl) ?_
    refine va_get (D := D) (ci := 4) (v := .ref aE) (C := RX4) (T := TX4) (N := 10) hx hb hts uX4 hown hK hP 0 rfl rfl 2 (by decide) w2 (fun _ h9 => h9) rfl dX4_image_27 ?_
    refine va_get (D := D) (ci := 0) (v := .int mi) (C := RX0) (T := TX0) (N := 9) hx hb hts uX0 hown hK hP 2 rfl rfl 1 (by decide) w4 (fun _ h9 => h9) rfl dX4_image_30 ?_
    have e_O_7 : (f_X4_image_O_7 ik nl) = 1 := (by simp only [f_X4_image_O_7, if_neg c1])
    have e_K_0 : (f_X4_image_K_0 nl li kli) = (f_X0_copy_E_0 li) := (by simp only [f_X4_image_K_0, if_neg c1])
    have e_K_1 : (f_X4_image_K_1 nl mi kmi) = (f_X0_copy_E_1 mi) := (by simp only [f_X4_image_K_1, if_neg c1])
    have e_K_2 : (f_X4_image_K_2 nl pe kpe) = (f_X0_copy_E_2 (nI pe)) := (by simp only [f_X4_image_K_2, if_neg c1])
    have e_K_6 : (f_X4_image_K_6 nl to kto) = (f_X0_copy_E_6 to) := (by simp only [f_X4_image_K_6, if_neg c1])
    have e_Ks : (f_X4_image_Ks nl sc ksc) = (f_X0_copy_Es ksc sc) := (by simp only [f_X4_image_Ks, if_neg c1])
    have e_Kw : (f_X4_image_Kw nl wv kwv) = (f_X0_copy_Ew kwv wv) := (by simp only [f_X4_image_Kw, if_neg c1])
    have e_Kd : (f_X4_image_Kd nl dk kdk) = (f_X0_copy_Ed kdk dk) := (by simp only [f_X4_image_Kd, if_neg c1])
    have e_Kl : (f_X4_image_Kl nl tl ktl) = (f_X0_copy_El ktl tl) := (by simp only [f_X4_image_Kl, if_neg c1])
    have e_Kt : (f_X4_image_Kt nl td ktd) = (f_X0_copy_Et ktd td) := (by simp only [f_X4_image_Kt, if_neg c1])
    exact eXi hx hb hr hlk hQ (by rw [e_O_7, e_K_0, e_K_1, e_K_2, e_K_6, e_Ks, e_Kw, e_Kd, e_Kl, e_Kt]; exact hP) (by rw [e_O_7, e_K_0, e_K_1, e_K_2, e_K_6, e_Ks, e_Kw, e_Kd, e_Kl, e_Kt]; exact hD) hS dX4_image_33 (Eq.symm (by simp only [f_X4_image, if_neg c1]))
  · refine lv_bipush (v := (-103)) hx hb dX4_image_7 (by decide) ?_
    have e_O_7 : (f_X4_image_O_7 ik nl) = ik := (by simp only [f_X4_image_O_7, if_pos c1])
    have e_K_0 : (f_X4_image_K_0 nl li kli) = kli := (by simp only [f_X4_image_K_0, if_pos c1])
    have e_K_1 : (f_X4_image_K_1 nl mi kmi) = kmi := (by simp only [f_X4_image_K_1, if_pos c1])
    have e_K_2 : (f_X4_image_K_2 nl pe kpe) = kpe := (by simp only [f_X4_image_K_2, if_pos c1])
    have e_K_6 : (f_X4_image_K_6 nl to kto) = kto := (by simp only [f_X4_image_K_6, if_pos c1])
    have e_Ks : (f_X4_image_Ks nl sc ksc) = ksc := (by simp only [f_X4_image_Ks, if_pos c1])
    have e_Kw : (f_X4_image_Kw nl wv kwv) = kwv := (by simp only [f_X4_image_Kw, if_pos c1])
    have e_Kd : (f_X4_image_Kd nl dk kdk) = kdk := (by simp only [f_X4_image_Kd, if_pos c1])
    have e_Kl : (f_X4_image_Kl nl tl ktl) = ktl := (by simp only [f_X4_image_Kl, if_pos c1])
    have e_Kt : (f_X4_image_Kt nl td ktd) = ktd := (by simp only [f_X4_image_Kt, if_pos c1])
    exact eXi hx hb hr hlk hQ (by rw [e_O_7, e_K_0, e_K_1, e_K_2, e_K_6, e_Ks, e_Kw, e_Kd, e_Kl, e_Kt]; exact hP) (by rw [e_O_7, e_K_0, e_K_1, e_K_2, e_K_6, e_Ks, e_Kw, e_Kd, e_Kl, e_Kt]; exact hD) hS dX4_image_9 (Eq.symm (by simp only [f_X4_image, if_pos c1]))

def rm_X4_restore : Room := { frames := 1, cells := 0, slots := 0, locals := 22 }
def f_X4_restore (ik : Int32) (kmi : Int32) : Int32 := (if ik = 0 then (-103) else (f_X0_copy_E_1 kmi))
def f_X4_restore_E_0 (ik : Int32) (li : Int32) (kli : Int32) : Int32 := (if ik = 0 then li else (f_X0_copy_E_0 kli))
def f_X4_restore_E_1 (ik : Int32) (mi : Int32) (kmi : Int32) : Int32 := (if ik = 0 then mi else (f_X0_copy_E_1 kmi))
def f_X4_restore_E_2 (ik : Int32) (pe : Nat) (kpe : Int32) : Int32 := (if ik = 0 then nI pe else (f_X0_copy_E_2 kpe))
def f_X4_restore_E_6 (ik : Int32) (to : Int32) (kto : Int32) : Int32 := (if ik = 0 then to else (f_X0_copy_E_6 kto))
def f_X4_restore_Es (ik : Int32) (sc : Nat → Int32) (ksc : Nat → Int32) : Nat → Int32 := (if ik = 0 then sc else (f_X0_copy_Es sc ksc))
def f_X4_restore_Ew (ik : Int32) (wv : Nat → Int32) (kwv : Nat → Int32) : Nat → Int32 := (if ik = 0 then wv else (f_X0_copy_Ew wv kwv))
def f_X4_restore_Ed (ik : Int32) (dk : Nat → Int32) (kdk : Nat → Int32) : Nat → Int32 := (if ik = 0 then dk else (f_X0_copy_Ed dk kdk))
def f_X4_restore_El (ik : Int32) (tl : Nat → Int32) (ktl : Nat → Int32) : Nat → Int32 := (if ik = 0 then tl else (f_X0_copy_El tl ktl))
def f_X4_restore_Et (ik : Int32) (td : Nat → Int32) (ktd : Nat → Int32) : Nat → Int32 := (if ik = 0 then td else (f_X0_copy_Et td ktd))
theorem hd_X4_restore : yX4_restore.cls = RX4 ∧ yX4_restore.cls ≠ "java/lang/invoke/MethodHandle" ∧ yX4_restore.cls ≠ "java/lang/invoke/VarHandle" ∧ (parseMethodDescriptor yX4_restore.desc).map (fun d => d.parameters.length) = some 0 := by decide +kernel
set_option maxHeartbeats 4000000 in
set_option maxRecDepth 100000 in
theorem c_X4_restore (l : Launch) (D : va_G) (cI : ClassId) (aO aP aL aE aEs aEw aEd aEl aEt aK aKs aKw aKd aKl aKt aY aN aS : Nat) (ik : Int32) (ofr : Int32) (rd : Int32) (li : Int32) (mi : Int32) (pe : Nat) (to : Int32) (sc : Nat → Int32) (wv : Nat → Int32) (dk : Nat → Int32) (tl : Nat → Int32) (td : Nat → Int32) (kli : Int32) (kmi : Int32) (kpe : Int32) (kto : Int32) (ksc : Nat → Int32) (kwv : Nat → Int32) (kdk : Nat → Int32) (ktl : Nat → Int32) (ktd : Nat → Int32) : MetX l yX4_restore wsX4_restore rm_X4_restore D cI [.ref aO] [(aO, .inr (4, [.ref aP, .ref aL, .ref aE, .ref aK, .ref aY, .ref aN, .ref aS, .int ik, .int ofr, .int rd])), (aE, .inr (0, [.int li, .int mi, .int (nI pe), .ref aEs, .ref aEw, .ref aEd, .int to, .ref aEl, .ref aEt])), (aEs, .inl (cI, 4, .inl sc)), (aEw, .inl (cI, 4, .inl wv)), (aEd, .inl (cI, 4, .inl dk)), (aEl, .inl (cI, 7, .inl tl)), (aEt, .inl (cI, 7, .inl td)), (aK, .inr (0, [.int kli, .int kmi, .int kpe, .ref aKs, .ref aKw, .ref aKd, .int kto, .ref aKl, .ref aKt])), (aKs, .inl (cI, 4, .inl ksc)), (aKw, .inl (cI, 4, .inl kwv)), (aKd, .inl (cI, 4, .inl kdk)), (aKl, .inl (cI, 7, .inl ktl)), (aKt, .inl (cI, 7, .inl ktd))] (some (.int (f_X4_restore ik kmi))) [(aO, .inr (4, [.ref aP, .ref aL, .ref aE, .ref aK, .ref aY, .ref aN, .ref aS, .int ik, .int ofr, .int rd])), (aE, .inr (0, [.int (f_X4_restore_E_0 ik li kli), .int (f_X4_restore_E_1 ik mi kmi), .int (f_X4_restore_E_2 ik pe kpe), .ref aEs, .ref aEw, .ref aEd, .int (f_X4_restore_E_6 ik to kto), .ref aEl, .ref aEt])), (aEs, .inl (cI, 4, .inl (f_X4_restore_Es ik sc ksc))), (aEw, .inl (cI, 4, .inl (f_X4_restore_Ew ik wv kwv))), (aEd, .inl (cI, 4, .inl (f_X4_restore_Ed ik dk kdk))), (aEl, .inl (cI, 7, .inl (f_X4_restore_El ik tl ktl))), (aEt, .inl (cI, 7, .inl (f_X4_restore_Et ik td ktd))), (aK, .inr (0, [.int kli, .int kmi, .int kpe, .ref aKs, .ref aKw, .ref aKd, .int kto, .ref aKl, .ref aKt])), (aKs, .inl (cI, 4, .inl ksc)), (aKw, .inl (cI, 4, .inl kwv)), (aKd, .inl (cI, 4, .inl kdk)), (aKl, .inl (cI, 7, .inl ktl)), (aKt, .inl (cI, 7, .inl ktd))] := by
  refine mX (cc := cX4_restore) (maxL := 1) (ret := (some .int)) (by decide) rfl (Nat.le_of_ble_eq_true rfl) ?_
  intro p e s m args below meth c Q A hx hb hr hml hown hts hlk hP hK hD hA hS hQ ls hl
  have hown : s.vm.findClass RX4 = some m.cls := hown
  have hl : lv_has ls 1 [(0, .ref aO)] := hl
  have w1 := hts (.fieldLink RX4 70 "DarkOffice" "imageKept" "Z") (List.mem_of_getElem? (i := 1) rfl)
  have uX4 : ∀ w ∈ wsX40, w ∈ wsX4_restore := fun _ h => List.mem_cons_of_mem _ (List.mem_append_left _ (List.mem_append_right _ h))
  have w2 := hts (.fieldLink RX4 26 "DarkOffice" "now" "LDarkOffice$Evening;") (List.mem_of_getElem? (i := 2) rfl)
  have w3 := hts (.fieldLink RX4 30 "DarkOffice" "kept" "LDarkOffice$Evening;") (List.mem_of_getElem? (i := 3) rfl)
  have w4 := hts (.fieldLink RX4 137 "DarkOffice$Evening" "minutes" "I") (List.mem_of_getElem? (i := 4) rfl)
  have uX0 : ∀ w ∈ wsX00, w ∈ wsX4_restore := fun _ h => List.mem_cons_of_mem _ (List.mem_append_right _ h)
  refine lv_aload_n hx hb dX4_restore_0 rfl (lv_at hl 0 rfl) ?_
  refine va_get (D := D) (ci := 4) (v := .int ik) (C := RX4) (T := TX4) (N := 10) hx hb hts uX4 hown hK hP 0 rfl rfl 7 (by decide) w1 (fun _ h9 => h9) rfl dX4_restore_1 ?_
  refine lv_if_ne (tgt := 10) hx hb dX4_restore_4 (by decide) (fun c1 => ?_) (fun c1 => ?_)
  · refine lv_aload_n hx hb dX4_restore_10 rfl (lv_at hl 0 rfl) ?_
    refine va_get (D := D) (ci := 4) (v := .ref aE) (C := RX4) (T := TX4) (N := 10) hx hb hts uX4 hown hK hP 0 rfl rfl 2 (by decide) w2 (fun _ h9 => h9) rfl dX4_restore_11 ?_
    refine lv_aload_n hx hb dX4_restore_14 rfl (lv_at hl 0 rfl) ?_
    refine va_get (D := D) (ci := 4) (v := .ref aK) (C := RX4) (T := TX4) (N := 10) hx hb hts uX4 hown hK hP 0 rfl rfl 3 (by decide) w3 (fun _ h9 => h9) rfl dX4_restore_15 ?_
    refine xV (w2 := [(aO, .inr (4, [.ref aP, .ref aL, .ref aE, .ref aK, .ref aY, .ref aN, .ref aS, .int ik, .int ofr, .int rd])), (aE, .inr (0, [.int (f_X0_copy_E_0 kli), .int (f_X0_copy_E_1 kmi), .int (f_X0_copy_E_2 kpe), .ref aEs, .ref aEw, .ref aEd, .int (f_X0_copy_E_6 kto), .ref aEl, .ref aEt])), (aEs, .inl (cI, 4, .inl (f_X0_copy_Es sc ksc))), (aEw, .inl (cI, 4, .inl (f_X0_copy_Ew wv kwv))), (aEd, .inl (cI, 4, .inl (f_X0_copy_Ed dk kdk))), (aEl, .inl (cI, 7, .inl (f_X0_copy_El tl ktl))), (aEt, .inl (cI, 7, .inl (f_X0_copy_Et td ktd))), (aK, .inr (0, [.int kli, .int kmi, .int kpe, .ref aKs, .ref aKw, .ref aKd, .int kto, .ref aKl, .ref aKt])), (aKs, .inl (cI, 4, .inl ksc)), (aKw, .inl (cI, 4, .inl kwv)), (aKd, .inl (cI, 4, .inl kdk)), (aKl, .inl (cI, 7, .inl ktl)), (aKt, .inl (cI, 7, .inl ktd))]) ⟨hx, hb, hml, hown, hts⟩ (c_X0_copy l D cI aE aEs aEw aEd aEl aEt aK aKs aKw aKd aKl aKt li mi to sc wv dk tl td kli kmi kpe kto ksc kwv kdk ktl ktd (nI pe)) (cwV 1 hts gX4_restore_X0_copy rfl rfl rfl hd_X0_copy ⟨Nat.le_of_ble_eq_true rfl, Nat.le_of_ble_eq_true rfl⟩) hK hP hD hS hA [1, 2, 3, 4, 5, 6, 7, 8, 9, 10, 11, 12] [0] [0, 1, 2, 3, 4, 5, 6, 7, 8, 9, 10, 11, 12] rfl rfl rfl rfl rfl (by decide) rfl rfl rfl 0 rfl rfl rfl rfl hl.1 (rest := []) (st' := []) rfl rfl (Nat.le_of_ble_eq_true rfl) dX4_restore_18 ⟨Nat.zero_le _, Nat.zero_le _⟩ (fun H locs hP hD hS => ?_)
    refine lv_aload_n hx hb dX4_restore_21 rfl (lv_at hl 0 rfl) ?_
    refine va_get (D := D) (ci := 4) (v := .ref aE) (C := RX4) (T := TX4) (N := 10) hx hb hts uX4 hown hK hP 0 rfl rfl 2 (by decide) w2 (fun _ h9 => h9) rfl dX4_restore_22 ?_
    refine va_get (D := D) (ci := 0) (v := .int (f_X0_copy_E_1 kmi)) (C := RX0) (T := TX0) (N := 9) hx hb hts uX0 hown hK hP 1 rfl rfl 1 (by decide) w4 (fun _ h9 => h9) rfl dX4_restore_25 ?_
    have e_E_0 : (f_X4_restore_E_0 ik li kli) = (f_X0_copy_E_0 kli) := (by simp only [f_X4_restore_E_0, if_neg c1])
    have e_E_1 : (f_X4_restore_E_1 ik mi kmi) = (f_X0_copy_E_1 kmi) := (by simp only [f_X4_restore_E_1, if_neg c1])
    have e_E_2 : (f_X4_restore_E_2 ik pe kpe) = (f_X0_copy_E_2 kpe) := (by simp only [f_X4_restore_E_2, if_neg c1])
    have e_E_6 : (f_X4_restore_E_6 ik to kto) = (f_X0_copy_E_6 kto) := (by simp only [f_X4_restore_E_6, if_neg c1])
    have e_Es : (f_X4_restore_Es ik sc ksc) = (f_X0_copy_Es sc ksc) := (by simp only [f_X4_restore_Es, if_neg c1])
    have e_Ew : (f_X4_restore_Ew ik wv kwv) = (f_X0_copy_Ew wv kwv) := (by simp only [f_X4_restore_Ew, if_neg c1])
    have e_Ed : (f_X4_restore_Ed ik dk kdk) = (f_X0_copy_Ed dk kdk) := (by simp only [f_X4_restore_Ed, if_neg c1])
    have e_El : (f_X4_restore_El ik tl ktl) = (f_X0_copy_El tl ktl) := (by simp only [f_X4_restore_El, if_neg c1])
    have e_Et : (f_X4_restore_Et ik td ktd) = (f_X0_copy_Et td ktd) := (by simp only [f_X4_restore_Et, if_neg c1])
    exact eXi hx hb hr hlk hQ (by rw [e_E_0, e_E_1, e_E_2, e_E_6, e_Es, e_Ew, e_Ed, e_El, e_Et]; exact hP) (by rw [e_E_0, e_E_1, e_E_2, e_E_6, e_Es, e_Ew, e_Ed, e_El, e_Et]; exact hD) hS dX4_restore_28 (Eq.symm (by simp only [f_X4_restore, if_neg c1]))
  · refine lv_bipush (v := (-103)) hx hb dX4_restore_7 (by decide) ?_
    have e_E_0 : (f_X4_restore_E_0 ik li kli) = li := (by simp only [f_X4_restore_E_0, if_pos c1])
    have e_E_1 : (f_X4_restore_E_1 ik mi kmi) = mi := (by simp only [f_X4_restore_E_1, if_pos c1])
    have e_E_2 : (f_X4_restore_E_2 ik pe kpe) = nI pe := (by simp only [f_X4_restore_E_2, if_pos c1])
    have e_E_6 : (f_X4_restore_E_6 ik to kto) = to := (by simp only [f_X4_restore_E_6, if_pos c1])
    have e_Es : (f_X4_restore_Es ik sc ksc) = sc := (by simp only [f_X4_restore_Es, if_pos c1])
    have e_Ew : (f_X4_restore_Ew ik wv kwv) = wv := (by simp only [f_X4_restore_Ew, if_pos c1])
    have e_Ed : (f_X4_restore_Ed ik dk kdk) = dk := (by simp only [f_X4_restore_Ed, if_pos c1])
    have e_El : (f_X4_restore_El ik tl ktl) = tl := (by simp only [f_X4_restore_El, if_pos c1])
    have e_Et : (f_X4_restore_Et ik td ktd) = td := (by simp only [f_X4_restore_Et, if_pos c1])
    exact eXi hx hb hr hlk hQ (by rw [e_E_0, e_E_1, e_E_2, e_E_6, e_Es, e_Ew, e_Ed, e_El, e_Et]; exact hP) (by rw [e_E_0, e_E_1, e_E_2, e_E_6, e_Es, e_Ew, e_Ed, e_El, e_Et]; exact hD) hS dX4_restore_9 (Eq.symm (by simp only [f_X4_restore, if_pos c1]))

def rm_X4_count : Room := { frames := 2, cells := 0, slots := 0, locals := 44 }
def f_X4_count (ofr : Int32) (rd : Int32) (pl : Nat) (nl : Nat) (li : Int32) (mi : Int32) (pe : Nat) (to : Int32) (sc : Nat → Int32) (wv : Nat → Int32) (dk : Nat → Int32) (what : Int32) : Int32 := (if what = 0 then nI nl else (if what = 1 then (f_J6_bitCount_0f7a4 (f_X1_litOnes nl li)) else (if what = 2 then nI pe else (if what = 3 then (nI pe - (f_X0_inDark pe sc (f_X1_litOnes nl li))) else (if what = 4 then mi else (if what = 5 then (f_X0_ofAll pe wv) else (if what = 6 then (f_X0_ofAll pe dk) else (if what = 7 then to else (if what = 8 then nI pl else (if what = 9 then ofr else (if what = 10 then rd else (-102))))))))))))
theorem hd_X4_count : yX4_count.cls = RX4 ∧ yX4_count.cls ≠ "java/lang/invoke/MethodHandle" ∧ yX4_count.cls ≠ "java/lang/invoke/VarHandle" ∧ (parseMethodDescriptor yX4_count.desc).map (fun d => d.parameters.length) = some 1 := by decide +kernel
set_option maxHeartbeats 4000000 in
set_option maxRecDepth 100000 in
theorem c_X4_count (l : Launch) (D : va_G) (cI : ClassId) (aO aP aPc aL aLk aLh aLs aE aEs aEw aEd aEl aEt aK aY aN aS : Nat) (ik : Int32) (ofr : Int32) (rd : Int32) (pl : Nat) (nl : Nat) (li : Int32) (mi : Int32) (pe : Nat) (to : Int32) (sc : Nat → Int32) (wv : Nat → Int32) (dk : Nat → Int32) (what : Int32) (hn : nl ≤ 6) (hpe : pe ≤ 4) : MetR l yX4_count wsX4_count rm_X4_count D cI [.ref aO, .int what] [(aO, .inr (4, [.ref aP, .ref aL, .ref aE, .ref aK, .ref aY, .ref aN, .ref aS, .int ik, .int ofr, .int rd])), (aP, .inr (2, [.ref aPc, .int (nI pl)])), (aL, .inr (1, [.ref aLk, .ref aLh, .ref aLs, .int (nI nl)])), (aE, .inr (0, [.int li, .int mi, .int (nI pe), .ref aEs, .ref aEw, .ref aEd, .int to, .ref aEl, .ref aEt])), (aEs, .inl (cI, 4, .inl sc)), (aEw, .inl (cI, 4, .inl wv)), (aEd, .inl (cI, 4, .inl dk))] (some (.int (f_X4_count ofr rd pl nl li mi pe to sc wv dk what))) := by
  refine mR (cc := cX4_count) (maxL := 2) (ret := (some .int)) (by decide) rfl (Nat.le_of_ble_eq_true rfl) ?_
  intro p e s m args below meth c Q hx hb hr hml hown hts hlk hP hK hQ ls hl
  have hown : s.vm.findClass RX4 = some m.cls := hown
  have hl : lv_has ls 2 [(0, .ref aO), (1, .int what)] := hl
  have w1 := hts (.fieldLink RX4 19 "DarkOffice" "lamps" "LDarkOffice$Lamps;") (List.mem_of_getElem? (i := 1) rfl)
  have uX4 : ∀ w ∈ wsX40, w ∈ wsX4_count := fun _ h => List.mem_cons_of_mem _ (List.mem_append_left _ (List.mem_append_left _ (List.mem_append_left _ (List.mem_append_right _ h))))
  have w2 := hts (.fieldLink RX4 77 "DarkOffice$Lamps" "size" "I") (List.mem_of_getElem? (i := 2) rfl)
  have uX1 : ∀ w ∈ wsX10, w ∈ wsX4_count := fun _ h => List.mem_cons_of_mem _ (List.mem_append_left _ (List.mem_append_left _ (List.mem_append_right _ h)))
  have w3 := hts (.fieldLink RX4 26 "DarkOffice" "now" "LDarkOffice$Evening;") (List.mem_of_getElem? (i := 3) rfl)
  have w4 := hts (.fieldLink RX4 90 "DarkOffice$Evening" "lit" "I") (List.mem_of_getElem? (i := 4) rfl)
  have uX0 : ∀ w ∈ wsX00, w ∈ wsX4_count := fun _ h => List.mem_cons_of_mem _ (List.mem_append_left _ (List.mem_append_right _ h))
  have w5 := hts (.fieldLink RX4 125 "DarkOffice$Evening" "people" "I") (List.mem_of_getElem? (i := 5) rfl)
  have w6 := hts (.fieldLink RX4 137 "DarkOffice$Evening" "minutes" "I") (List.mem_of_getElem? (i := 6) rfl)
  have w7 := hts (.fieldLink RX4 119 "DarkOffice$Evening" "waves" "[I") (List.mem_of_getElem? (i := 7) rfl)
  have w8 := hts (.fieldLink RX4 122 "DarkOffice$Evening" "darks" "[I") (List.mem_of_getElem? (i := 8) rfl)
  have w9 := hts (.fieldLink RX4 173 "DarkOffice$Evening" "told" "I") (List.mem_of_getElem? (i := 9) rfl)
  have w10 := hts (.fieldLink RX4 10 "DarkOffice" "page" "LDarkOffice$Page;") (List.mem_of_getElem? (i := 10) rfl)
  have w11 := hts (.fieldLink RX4 51 "DarkOffice$Page" "length" "I") (List.mem_of_getElem? (i := 11) rfl)
  have uX2 : ∀ w ∈ wsX20, w ∈ wsX4_count := fun _ h => List.mem_cons_of_mem _ (List.mem_append_right _ h)
  have w12 := hts (.fieldLink RX4 74 "DarkOffice" "officesRead" "I") (List.mem_of_getElem? (i := 12) rfl)
  have w13 := hts (.fieldLink RX4 160 "DarkOffice" "roundsDone" "I") (List.mem_of_getElem? (i := 13) rfl)
  refine lv_iload_n hx hb dX4_count_0 rfl (lv_at hl 1 rfl) ?_
  by_cases c1 : what = 0
  · refine lv_tableIn (off := 59) (tgt := 60) hx hb dX4_count_1 (by rw [c1]; decide) (by rw [c1]; decide) (by rw [c1]; rfl) (by decide) ?_
    refine lv_aload_n hx hb dX4_count_60 rfl (lv_at hl 0 rfl) ?_
    refine va_get (D := D) (ci := 4) (v := .ref aL) (C := RX4) (T := TX4) (N := 10) hx hb hts uX4 hown hK hP 0 rfl rfl 1 (by decide) w1 (fun _ h9 => h9) rfl dX4_count_61 ?_
    refine va_get (D := D) (ci := 1) (v := .int (nI nl)) (C := RX1) (T := TX1) (N := 4) hx hb hts uX1 hown hK hP 2 rfl rfl 3 (by decide) w2 (fun _ h9 => h9) rfl dX4_count_64 ?_
    exact eRi hx hb hr hlk hQ dX4_count_67 (Eq.symm (by simp only [f_X4_count, if_pos c1]))
  · by_cases c2 : what = 1
    · refine lv_tableIn (off := 67) (tgt := 68) hx hb dX4_count_1 (by rw [c2]; decide) (by rw [c2]; decide) (by rw [c2]; rfl) (by decide) ?_
      refine lv_aload_n hx hb dX4_count_68 rfl (lv_at hl 0 rfl) ?_
      refine va_get (D := D) (ci := 4) (v := .ref aL) (C := RX4) (T := TX4) (N := 10) hx hb hts uX4 hown hK hP 0 rfl rfl 1 (by decide) w1 (fun _ h9 => h9) rfl dX4_count_69 ?_
      refine lv_aload_n hx hb dX4_count_72 rfl (lv_at hl 0 rfl) ?_
      refine va_get (D := D) (ci := 4) (v := .ref aE) (C := RX4) (T := TX4) (N := 10) hx hb hts uX4 hown hK hP 0 rfl rfl 2 (by decide) w3 (fun _ h9 => h9) rfl dX4_count_73 ?_
      refine va_get (D := D) (ci := 0) (v := .int li) (C := RX0) (T := TX0) (N := 9) hx hb hts uX0 hown hK hP 3 rfl rfl 0 (by decide) w4 (fun _ h9 => h9) rfl dX4_count_76 ?_
      refine rV ⟨hx, hb, hml, hown, hts⟩ (c_X1_litOnes l D cI aL aLk aLh aLs nl li hn) (cwV 1 hts gX4_count_X1_litOnes rfl rfl rfl hd_X1_litOnes ⟨Nat.le_of_ble_eq_true rfl, Nat.le_of_ble_eq_true rfl⟩) hK (hP.sub [2] rfl) 0 rfl rfl rfl rfl hl.1 (rest := []) (st' := [.int (f_X1_litOnes nl li)]) rfl rfl (Nat.le_of_ble_eq_true rfl) dX4_count_79 ⟨Nat.zero_le _, Nat.zero_le _⟩ ?_
      refine rS ⟨hx, hb, hml, hown, hts⟩ (c_J6_bitCount_0f7a4 l D cI (f_X1_litOnes nl li)) (va_cwS 1 hts gX4_count_J6_bitCount_0f7a4 rfl rfl rfl hd_J6_bitCount_0f7a4 ⟨Nat.le_of_ble_eq_true rfl, Nat.le_of_ble_eq_true rfl⟩) hK (hP.sub [] rfl) rfl hl.1 (rest := []) (st' := [.int (f_J6_bitCount_0f7a4 (f_X1_litOnes nl li))]) rfl rfl (Nat.le_of_ble_eq_true rfl) dX4_count_82 ⟨Nat.zero_le _, Nat.zero_le _⟩ ?_
      exact eRi hx hb hr hlk hQ dX4_count_85 (Eq.symm (by simp only [f_X4_count, if_neg c1, if_pos c2]))
    · by_cases c3 : what = 2
      · refine lv_tableIn (off := 85) (tgt := 86) hx hb dX4_count_1 (by rw [c3]; decide) (by rw [c3]; decide) (by rw [c3]; rfl) (by decide) ?_
        refine lv_aload_n hx hb dX4_count_86 rfl (lv_at hl 0 rfl) ?_
        refine va_get (D := D) (ci := 4) (v := .ref aE) (C := RX4) (T := TX4) (N := 10) hx hb hts uX4 hown hK hP 0 rfl rfl 2 (by decide) w3 (fun _ h9 => h9) rfl dX4_count_87 ?_
        refine va_get (D := D) (ci := 0) (v := .int (nI pe)) (C := RX0) (T := TX0) (N := 9) hx hb hts uX0 hown hK hP 3 rfl rfl 2 (by decide) w5 (fun _ h9 => h9) rfl dX4_count_90 ?_
        exact eRi hx hb hr hlk hQ dX4_count_93 (Eq.symm (by simp only [f_X4_count, if_neg c1, if_neg c2, if_pos c3]))
      · by_cases c4 : what = 3
        · refine lv_tableIn (off := 93) (tgt := 94) hx hb dX4_count_1 (by rw [c4]; decide) (by rw [c4]; decide) (by rw [c4]; rfl) (by decide) ?_
          refine lv_aload_n hx hb dX4_count_94 rfl (lv_at hl 0 rfl) ?_
          refine va_get (D := D) (ci := 4) (v := .ref aE) (C := RX4) (T := TX4) (N := 10) hx hb hts uX4 hown hK hP 0 rfl rfl 2 (by decide) w3 (fun _ h9 => h9) rfl dX4_count_95 ?_
          refine va_get (D := D) (ci := 0) (v := .int (nI pe)) (C := RX0) (T := TX0) (N := 9) hx hb hts uX0 hown hK hP 3 rfl rfl 2 (by decide) w5 (fun _ h9 => h9) rfl dX4_count_98 ?_
          refine lv_aload_n hx hb dX4_count_101 rfl (lv_at hl 0 rfl) ?_
          refine va_get (D := D) (ci := 4) (v := .ref aE) (C := RX4) (T := TX4) (N := 10) hx hb hts uX4 hown hK hP 0 rfl rfl 2 (by decide) w3 (fun _ h9 => h9) rfl dX4_count_102 ?_
          refine lv_aload_n hx hb dX4_count_105 rfl (lv_at hl 0 rfl) ?_
          refine va_get (D := D) (ci := 4) (v := .ref aL) (C := RX4) (T := TX4) (N := 10) hx hb hts uX4 hown hK hP 0 rfl rfl 1 (by decide) w1 (fun _ h9 => h9) rfl dX4_count_106 ?_
          refine lv_aload_n hx hb dX4_count_109 rfl (lv_at hl 0 rfl) ?_
          refine va_get (D := D) (ci := 4) (v := .ref aE) (C := RX4) (T := TX4) (N := 10) hx hb hts uX4 hown hK hP 0 rfl rfl 2 (by decide) w3 (fun _ h9 => h9) rfl dX4_count_110 ?_
          refine va_get (D := D) (ci := 0) (v := .int li) (C := RX0) (T := TX0) (N := 9) hx hb hts uX0 hown hK hP 3 rfl rfl 0 (by decide) w4 (fun _ h9 => h9) rfl dX4_count_113 ?_
          refine rV ⟨hx, hb, hml, hown, hts⟩ (c_X1_litOnes l D cI aL aLk aLh aLs nl li hn) (cwV 1 hts gX4_count_X1_litOnes rfl rfl rfl hd_X1_litOnes ⟨Nat.le_of_ble_eq_true rfl, Nat.le_of_ble_eq_true rfl⟩) hK (hP.sub [2] rfl) 0 rfl rfl rfl rfl hl.1 (rest := [.ref aE, .int (nI pe)]) (st' := [.int (f_X1_litOnes nl li), .ref aE, .int (nI pe)]) rfl rfl (Nat.le_of_ble_eq_true rfl) dX4_count_116 ⟨Nat.zero_le _, Nat.zero_le _⟩ ?_
          refine rV ⟨hx, hb, hml, hown, hts⟩ (c_X0_inDark l D cI aE aEs aEw aEd aEl aEt li mi pe to sc (f_X1_litOnes nl li) hpe) (cwV 1 hts gX4_count_X0_inDark rfl rfl rfl hd_X0_inDark ⟨Nat.le_of_ble_eq_true rfl, Nat.le_of_ble_eq_true rfl⟩) hK (hP.sub [3, 4] rfl) 0 rfl rfl rfl rfl hl.1 (rest := [.int (nI pe)]) (st' := [.int (f_X0_inDark pe sc (f_X1_litOnes nl li)), .int (nI pe)]) rfl rfl (Nat.le_of_ble_eq_true rfl) dX4_count_119 ⟨Nat.zero_le _, Nat.zero_le _⟩ ?_
          refine lv_isub hx hb dX4_count_122 ?_
          exact eRi hx hb hr hlk hQ dX4_count_123 (Eq.symm (by simp only [f_X4_count, if_neg c1, if_neg c2, if_neg c3, if_pos c4]))
        · by_cases c5 : what = 4
          · refine lv_tableIn (off := 123) (tgt := 124) hx hb dX4_count_1 (by rw [c5]; decide) (by rw [c5]; decide) (by rw [c5]; rfl) (by decide) ?_
            refine lv_aload_n hx hb dX4_count_124 rfl (lv_at hl 0 rfl) ?_
            refine va_get (D := D) (ci := 4) (v := .ref aE) (C := RX4) (T := TX4) (N := 10) hx hb hts uX4 hown hK hP 0 rfl rfl 2 (by decide) w3 (fun _ h9 => h9) rfl dX4_count_125 ?_
            refine va_get (D := D) (ci := 0) (v := .int mi) (C := RX0) (T := TX0) (N := 9) hx hb hts uX0 hown hK hP 3 rfl rfl 1 (by decide) w6 (fun _ h9 => h9) rfl dX4_count_128 ?_
            exact eRi hx hb hr hlk hQ dX4_count_131 (Eq.symm (by simp only [f_X4_count, if_neg c1, if_neg c2, if_neg c3, if_neg c4, if_pos c5]))
          · by_cases c6 : what = 5
            · refine lv_tableIn (off := 131) (tgt := 132) hx hb dX4_count_1 (by rw [c6]; decide) (by rw [c6]; decide) (by rw [c6]; rfl) (by decide) ?_
              refine lv_aload_n hx hb dX4_count_132 rfl (lv_at hl 0 rfl) ?_
              refine va_get (D := D) (ci := 4) (v := .ref aE) (C := RX4) (T := TX4) (N := 10) hx hb hts uX4 hown hK hP 0 rfl rfl 2 (by decide) w3 (fun _ h9 => h9) rfl dX4_count_133 ?_
              refine lv_aload_n hx hb dX4_count_136 rfl (lv_at hl 0 rfl) ?_
              refine va_get (D := D) (ci := 4) (v := .ref aE) (C := RX4) (T := TX4) (N := 10) hx hb hts uX4 hown hK hP 0 rfl rfl 2 (by decide) w3 (fun _ h9 => h9) rfl dX4_count_137 ?_
              refine va_get (D := D) (ci := 0) (v := .ref aEw) (C := RX0) (T := TX0) (N := 9) hx hb hts uX0 hown hK hP 3 rfl rfl 4 (by decide) w7 (fun _ h9 => h9) rfl dX4_count_140 ?_
              refine rV ⟨hx, hb, hml, hown, hts⟩ (c_X0_ofAll l D cI aE aEs aEw aEd aEl aEt aEw li mi pe to wv hpe) (cwV 1 hts gX4_count_X0_ofAll rfl rfl rfl hd_X0_ofAll ⟨Nat.le_of_ble_eq_true rfl, Nat.le_of_ble_eq_true rfl⟩) hK (hP.sub [3, 5] rfl) 0 rfl rfl rfl rfl hl.1 (rest := []) (st' := [.int (f_X0_ofAll pe wv)]) rfl rfl (Nat.le_of_ble_eq_true rfl) dX4_count_143 ⟨Nat.zero_le _, Nat.zero_le _⟩ ?_
              exact eRi hx hb hr hlk hQ dX4_count_146 (Eq.symm (by simp only [f_X4_count, if_neg c1, if_neg c2, if_neg c3, if_neg c4, if_neg c5, if_pos c6]))
            · by_cases c7 : what = 6
              · refine lv_tableIn (off := 146) (tgt := 147) hx hb dX4_count_1 (by rw [c7]; decide) (by rw [c7]; decide) (by rw [c7]; rfl) (by decide) ?_
                refine lv_aload_n hx hb dX4_count_147 rfl (lv_at hl 0 rfl) ?_
                refine va_get (D := D) (ci := 4) (v := .ref aE) (C := RX4) (T := TX4) (N := 10) hx hb hts uX4 hown hK hP 0 rfl rfl 2 (by decide) w3 (fun _ h9 => h9) rfl dX4_count_148 ?_
                refine lv_aload_n hx hb dX4_count_151 rfl (lv_at hl 0 rfl) ?_
                refine va_get (D := D) (ci := 4) (v := .ref aE) (C := RX4) (T := TX4) (N := 10) hx hb hts uX4 hown hK hP 0 rfl rfl 2 (by decide) w3 (fun _ h9 => h9) rfl dX4_count_152 ?_
                refine va_get (D := D) (ci := 0) (v := .ref aEd) (C := RX0) (T := TX0) (N := 9) hx hb hts uX0 hown hK hP 3 rfl rfl 5 (by decide) w8 (fun _ h9 => h9) rfl dX4_count_155 ?_
                refine rV ⟨hx, hb, hml, hown, hts⟩ (c_X0_ofAll l D cI aE aEs aEw aEd aEl aEt aEd li mi pe to dk hpe) (cwV 1 hts gX4_count_X0_ofAll rfl rfl rfl hd_X0_ofAll ⟨Nat.le_of_ble_eq_true rfl, Nat.le_of_ble_eq_true rfl⟩) hK (hP.sub [3, 6] rfl) 0 rfl rfl rfl rfl hl.1 (rest := []) (st' := [.int (f_X0_ofAll pe dk)]) rfl rfl (Nat.le_of_ble_eq_true rfl) dX4_count_158 ⟨Nat.zero_le _, Nat.zero_le _⟩ ?_
                exact eRi hx hb hr hlk hQ dX4_count_161 (Eq.symm (by simp only [f_X4_count, if_neg c1, if_neg c2, if_neg c3, if_neg c4, if_neg c5, if_neg c6, if_pos c7]))
              · by_cases c8 : what = 7
                · refine lv_tableIn (off := 161) (tgt := 162) hx hb dX4_count_1 (by rw [c8]; decide) (by rw [c8]; decide) (by rw [c8]; rfl) (by decide) ?_
                  refine lv_aload_n hx hb dX4_count_162 rfl (lv_at hl 0 rfl) ?_
                  refine va_get (D := D) (ci := 4) (v := .ref aE) (C := RX4) (T := TX4) (N := 10) hx hb hts uX4 hown hK hP 0 rfl rfl 2 (by decide) w3 (fun _ h9 => h9) rfl dX4_count_163 ?_
                  refine va_get (D := D) (ci := 0) (v := .int to) (C := RX0) (T := TX0) (N := 9) hx hb hts uX0 hown hK hP 3 rfl rfl 6 (by decide) w9 (fun _ h9 => h9) rfl dX4_count_166 ?_
                  exact eRi hx hb hr hlk hQ dX4_count_169 (Eq.symm (by simp only [f_X4_count, if_neg c1, if_neg c2, if_neg c3, if_neg c4, if_neg c5, if_neg c6, if_neg c7, if_pos c8]))
                · by_cases c9 : what = 8
                  · refine lv_tableIn (off := 169) (tgt := 170) hx hb dX4_count_1 (by rw [c9]; decide) (by rw [c9]; decide) (by rw [c9]; rfl) (by decide) ?_
                    refine lv_aload_n hx hb dX4_count_170 rfl (lv_at hl 0 rfl) ?_
                    refine va_get (D := D) (ci := 4) (v := .ref aP) (C := RX4) (T := TX4) (N := 10) hx hb hts uX4 hown hK hP 0 rfl rfl 0 (by decide) w10 (fun _ h9 => h9) rfl dX4_count_171 ?_
                    refine va_get (D := D) (ci := 2) (v := .int (nI pl)) (C := RX2) (T := TX2) (N := 2) hx hb hts uX2 hown hK hP 1 rfl rfl 1 (by decide) w11 (fun _ h9 => h9) rfl dX4_count_174 ?_
                    exact eRi hx hb hr hlk hQ dX4_count_177 (Eq.symm (by simp only [f_X4_count, if_neg c1, if_neg c2, if_neg c3, if_neg c4, if_neg c5, if_neg c6, if_neg c7, if_neg c8, if_pos c9]))
                  · by_cases c10 : what = 9
                    · refine lv_tableIn (off := 177) (tgt := 178) hx hb dX4_count_1 (by rw [c10]; decide) (by rw [c10]; decide) (by rw [c10]; rfl) (by decide) ?_
                      refine lv_aload_n hx hb dX4_count_178 rfl (lv_at hl 0 rfl) ?_
                      refine va_get (D := D) (ci := 4) (v := .int ofr) (C := RX4) (T := TX4) (N := 10) hx hb hts uX4 hown hK hP 0 rfl rfl 8 (by decide) w12 (fun _ h9 => h9) rfl dX4_count_179 ?_
                      exact eRi hx hb hr hlk hQ dX4_count_182 (Eq.symm (by simp only [f_X4_count, if_neg c1, if_neg c2, if_neg c3, if_neg c4, if_neg c5, if_neg c6, if_neg c7, if_neg c8, if_neg c9, if_pos c10]))
                    · by_cases c11 : what = 10
                      · refine lv_tableIn (off := 182) (tgt := 183) hx hb dX4_count_1 (by rw [c11]; decide) (by rw [c11]; decide) (by rw [c11]; rfl) (by decide) ?_
                        refine lv_aload_n hx hb dX4_count_183 rfl (lv_at hl 0 rfl) ?_
                        refine va_get (D := D) (ci := 4) (v := .int rd) (C := RX4) (T := TX4) (N := 10) hx hb hts uX4 hown hK hP 0 rfl rfl 9 (by decide) w13 (fun _ h9 => h9) rfl dX4_count_184 ?_
                        exact eRi hx hb hr hlk hQ dX4_count_187 (Eq.symm (by simp only [f_X4_count, if_neg c1, if_neg c2, if_neg c3, if_neg c4, if_neg c5, if_neg c6, if_neg c7, if_neg c8, if_neg c9, if_neg c10, if_pos c11]))
                      · have z1_0 := lv_neT (a := 0) c1 (by decide)
                        have z1_1 := lv_neT (a := 1) c2 (by decide)
                        have z1_2 := lv_neT (a := 2) c3 (by decide)
                        have z1_3 := lv_neT (a := 3) c4 (by decide)
                        have z1_4 := lv_neT (a := 4) c5 (by decide)
                        have z1_5 := lv_neT (a := 5) c6 (by decide)
                        have z1_6 := lv_neT (a := 6) c7 (by decide)
                        have z1_7 := lv_neT (a := 7) c8 (by decide)
                        have z1_8 := lv_neT (a := 8) c9 (by decide)
                        have z1_9 := lv_neT (a := 9) c10 (by decide)
                        have z1_10 := lv_neT (a := 10) c11 (by decide)
                        refine lv_tableOut (tgt := 188) hx hb dX4_count_1 (by omega) (by decide) ?_
                        refine lv_bipush (v := (-102)) hx hb dX4_count_188 (by decide) ?_
                        exact eRi hx hb hr hlk hQ dX4_count_190 (Eq.symm (by simp only [f_X4_count, if_neg c1, if_neg c2, if_neg c3, if_neg c4, if_neg c5, if_neg c6, if_neg c7, if_neg c8, if_neg c9, if_neg c10, if_neg c11]))

def rm_X4_digestPerson : Room := { frames := 5, cells := 0, slots := 0, locals := 119 }
def f_X4_digestPerson_6_v4 (li : Int32) (pe : Nat) (sc : Nat → Int32) (wv : Nat → Int32) (dk : Nat → Int32) (before : Int64) (pj : Nat) : Nat → Int64
  | 0 => before
  | i1 + 1 => ((31 * (f_X4_digestPerson_6_v4 li pe sc wv dk before pj i1)) + (f_X4_about li pe sc wv dk (nI pj) (nI i1)).toInt64)
def f_X4_digestPerson (nl : Nat) (ho : Nat → Int32) (sn : Nat → Int32) (li : Int32) (pe : Nat) (sc : Nat → Int32) (wv : Nat → Int32) (dk : Nat → Int32) (tl : Nat → Int32) (td : Nat → Int32) (en : Nat → Int32) (before : Int64) (pj : Nat) : Int64 := ((31 * ((31 * ((31 * (f_X4_digestPerson_6_v4 li pe sc wv dk before pj 4)) + (f_X3_left (f_X3_follow_Ye nl ho sn li tl td en 4 (sc pj)) (2 ^ 4)).toInt64)) + (f_X3_first (f_X3_follow_Ye nl ho sn li tl td en 4 (sc pj)) (2 ^ 4)).toInt64)) + (f_X4_look nl ho sn li pe sc tl td (f_X3_follow_Ye nl ho sn li tl td en 4 (sc pj)) 3 (nI pj)).toInt64)
def f_X4_digestPerson_Y_1 (pe : Nat) (pj : Nat) : Int32 := (f_X4_look_Y_1 pe (nI (2 ^ 4)) 3 (nI pj))
def f_X4_digestPerson_Ye (nl : Nat) (ho : Nat → Int32) (sn : Nat → Int32) (li : Int32) (pe : Nat) (sc : Nat → Int32) (tl : Nat → Int32) (td : Nat → Int32) (en : Nat → Int32) (pj : Nat) : Nat → Int32 := (f_X4_look_Ye nl ho sn li pe sc tl td (f_X3_follow_Ye nl ho sn li tl td en 4 (sc pj)) 3 (nI pj))
theorem hd_X4_digestPerson : yX4_digestPerson.cls = RX4 ∧ yX4_digestPerson.cls ≠ "java/lang/invoke/MethodHandle" ∧ yX4_digestPerson.cls ≠ "java/lang/invoke/VarHandle" ∧ (parseMethodDescriptor yX4_digestPerson.desc).map (fun d => d.parameters.length) = some 2 := by decide +kernel
set_option maxHeartbeats 4000000 in
set_option maxRecDepth 100000 in
theorem c_X4_digestPerson (l : Launch) (D : va_G) (cI : ClassId) (aO aP aL aLk aLh aLs aE aEs aEw aEd aEl aEt aK aY aYe aN aS : Nat) (ik : Int32) (ofr : Int32) (rd : Int32) (nl : Nat) (ho : Nat → Int32) (sn : Nat → Int32) (li : Int32) (mi : Int32) (pe : Nat) (to : Int32) (sc : Nat → Int32) (wv : Nat → Int32) (dk : Nat → Int32) (tl : Nat → Int32) (td : Nat → Int32) (zq : Int32) (en : Nat → Int32) (before : Int64) (pj : Nat) (hn : nl ≤ 6) (hpe : pe ≤ 4) (hpj : pj < pe) : MetX l yX4_digestPerson wsX4_digestPerson rm_X4_digestPerson D cI [.ref aO, .long before, .int (nI pj)] [(aO, .inr (4, [.ref aP, .ref aL, .ref aE, .ref aK, .ref aY, .ref aN, .ref aS, .int ik, .int ofr, .int rd])), (aL, .inr (1, [.ref aLk, .ref aLh, .ref aLs, .int (nI nl)])), (aLh, .inl (cI, 6, .inl ho)), (aLs, .inl (cI, 6, .inl sn)), (aE, .inr (0, [.int li, .int mi, .int (nI pe), .ref aEs, .ref aEw, .ref aEd, .int to, .ref aEl, .ref aEt])), (aEs, .inl (cI, 4, .inl sc)), (aEw, .inl (cI, 4, .inl wv)), (aEd, .inl (cI, 4, .inl dk)), (aEl, .inl (cI, 7, .inl tl)), (aEt, .inl (cI, 7, .inl td)), (aY, .inr (3, [.ref aYe, .int zq])), (aYe, .inl (cI, 64, .inl en))] (some (.long (f_X4_digestPerson nl ho sn li pe sc wv dk tl td en before pj))) [(aO, .inr (4, [.ref aP, .ref aL, .ref aE, .ref aK, .ref aY, .ref aN, .ref aS, .int ik, .int ofr, .int rd])), (aL, .inr (1, [.ref aLk, .ref aLh, .ref aLs, .int (nI nl)])), (aLh, .inl (cI, 6, .inl ho)), (aLs, .inl (cI, 6, .inl sn)), (aE, .inr (0, [.int li, .int mi, .int (nI pe), .ref aEs, .ref aEw, .ref aEd, .int to, .ref aEl, .ref aEt])), (aEs, .inl (cI, 4, .inl sc)), (aEw, .inl (cI, 4, .inl wv)), (aEd, .inl (cI, 4, .inl dk)), (aEl, .inl (cI, 7, .inl tl)), (aEt, .inl (cI, 7, .inl td)), (aY, .inr (3, [.ref aYe, .int (f_X4_digestPerson_Y_1 pe pj)])), (aYe, .inl (cI, 64, .inl (f_X4_digestPerson_Ye nl ho sn li pe sc tl td en pj)))] := by
  refine mX (cc := cX4_digestPerson) (maxL := 7) (ret := (some .long)) (by decide) rfl (Nat.le_of_ble_eq_true rfl) ?_
  intro p e s m args below meth c Q A hx hb hr hml hown hts hlk hP hK hD hA hS hQ ls hl
  have hown : s.vm.findClass RX4 = some m.cls := hown
  have hl : lv_has ls 7 [(0, .ref aO), (1, .long before), (3, .int (nI pj))] := hl
  have w2 := hts (.fieldLink RX4 36 "DarkOffice" "ways" "LDarkOffice$Ways;") (List.mem_of_getElem? (i := 2) rfl)
  have uX4 : ∀ w ∈ wsX40, w ∈ wsX4_digestPerson := fun _ h => List.mem_cons_of_mem _ (List.mem_append_left _ (List.mem_append_left _ (List.mem_append_left _ (List.mem_append_right _ h))))
  have w3 := hts (.fieldLink RX4 19 "DarkOffice" "lamps" "LDarkOffice$Lamps;") (List.mem_of_getElem? (i := 3) rfl)
  have w4 := hts (.fieldLink RX4 26 "DarkOffice" "now" "LDarkOffice$Evening;") (List.mem_of_getElem? (i := 4) rfl)
  have w5 := hts (.fieldLink RX4 116 "DarkOffice$Evening" "sections" "[I") (List.mem_of_getElem? (i := 5) rfl)
  have uX0 : ∀ w ∈ wsX00, w ∈ wsX4_digestPerson := fun _ h => List.mem_cons_of_mem _ (List.mem_append_left _ (List.mem_append_left _ (List.mem_append_right _ h)))
  have w1 := hts (.constantLong RX4 212 (31)) (List.mem_of_getElem? (i := 1) rfl)
  refine lv_lload_n hx hb dX4_digestPerson_0 rfl (lv_at hl 1 rfl) ?_
  refine lv_lstore (lv' := [(4, .long before), (0, .ref aO), (1, .long before), (3, .int (nI pj))]) hx hb dX4_digestPerson_1 hl (by decide) rfl (fun ls hl => ?_)
  refine lv_iconst (v := 0) hx hb dX4_digestPerson_3 (by decide) ?_
  refine lv_istore (lv' := [(6, .int 0), (4, .long before), (0, .ref aO), (1, .long before), (3, .int (nI pj))]) hx hb dX4_digestPerson_4 hl (by decide) rfl (fun ls hl => ?_)
  have lp6 : ∀ (k6 i1 : Nat), i1 + k6 = 4 → ∀ (H : Heap) (locs : List Loc), va_P D vwCl [(aO, .inr (4, [.ref aP, .ref aL, .ref aE, .ref aK, .ref aY, .ref aN, .ref aS, .int ik, .int ofr, .int rd])), (aL, .inr (1, [.ref aLk, .ref aLh, .ref aLs, .int (nI nl)])), (aLh, .inl (cI, 6, .inl ho)), (aLs, .inl (cI, 6, .inl sn)), (aE, .inr (0, [.int li, .int mi, .int (nI pe), .ref aEs, .ref aEw, .ref aEd, .int to, .ref aEl, .ref aEt])), (aEs, .inl (cI, 4, .inl sc)), (aEw, .inl (cI, 4, .inl wv)), (aEd, .inl (cI, 4, .inl dk)), (aEl, .inl (cI, 7, .inl tl)), (aEt, .inl (cI, 7, .inl td)), (aY, .inr (3, [.ref aYe, .int zq])), (aYe, .inl (cI, 64, .inl en))] H → va_D A [(aO, .inr (4, [.ref aP, .ref aL, .ref aE, .ref aK, .ref aY, .ref aN, .ref aS, .int ik, .int ofr, .int rd])), (aL, .inr (1, [.ref aLk, .ref aLh, .ref aLs, .int (nI nl)])), (aLh, .inl (cI, 6, .inl ho)), (aLs, .inl (cI, 6, .inl sn)), (aE, .inr (0, [.int li, .int mi, .int (nI pe), .ref aEs, .ref aEw, .ref aEd, .int to, .ref aEl, .ref aEt])), (aEs, .inl (cI, 4, .inl sc)), (aEw, .inl (cI, 4, .inl wv)), (aEd, .inl (cI, 4, .inl dk)), (aEl, .inl (cI, 7, .inl tl)), (aEt, .inl (cI, 7, .inl td)), (aY, .inr (3, [.ref aYe, .int zq])), (aYe, .inl (cI, 64, .inl en))] → va_S A s.heap H locs → ∀ ls : Array Slot, lv_has ls 7 [(0, .ref aO), (3, .int (nI pj)), (4, .long ((f_X4_digestPerson_6_v4 li pe sc wv dk before pj i1))), (6, .int (nI i1))] → W p l e rm_X4_digestPerson s m args below meth c H locs 0 0 Q (F0 m 6 ls []) := by
    intro k6
    induction k6 with
    | zero =>
      intro i1 hk6 H locs hP hD hS ls hl
      have hN6 : 4 = i1 := by omega
      subst hN6
      refine lv_iload hx hb dX4_digestPerson_6 (lv_at hl 3 rfl) ?_
      refine lv_iconst (v := 3) hx hb dX4_digestPerson_8 (by decide) ?_
      refine lv_icmp_gt (tgt := 35) hx hb dX4_digestPerson_9 (by decide) (fun _ => ?_) (fun c => absurd (nlt_t (a := 3) (b := 4) rfl rfl (by omega) (by omega) (by omega)) c)
      refine lv_aload_n hx hb dX4_digestPerson_35 rfl (lv_at hl 0 rfl) ?_
      refine va_get (D := D) (ci := 4) (v := .ref aY) (C := RX4) (T := TX4) (N := 10) hx hb hts uX4 hown hK hP 0 rfl rfl 4 (by decide) w2 (fun _ h9 => h9) rfl dX4_digestPerson_36 ?_
      refine lv_aload_n hx hb dX4_digestPerson_39 rfl (lv_at hl 0 rfl) ?_
      refine va_get (D := D) (ci := 4) (v := .ref aL) (C := RX4) (T := TX4) (N := 10) hx hb hts uX4 hown hK hP 0 rfl rfl 1 (by decide) w3 (fun _ h9 => h9) rfl dX4_digestPerson_40 ?_
      refine lv_aload_n hx hb dX4_digestPerson_43 rfl (lv_at hl 0 rfl) ?_
      refine va_get (D := D) (ci := 4) (v := .ref aE) (C := RX4) (T := TX4) (N := 10) hx hb hts uX4 hown hK hP 0 rfl rfl 2 (by decide) w4 (fun _ h9 => h9) rfl dX4_digestPerson_44 ?_
      refine lv_aload_n hx hb dX4_digestPerson_47 rfl (lv_at hl 0 rfl) ?_
      refine va_get (D := D) (ci := 4) (v := .ref aE) (C := RX4) (T := TX4) (N := 10) hx hb hts uX4 hown hK hP 0 rfl rfl 2 (by decide) w4 (fun _ h9 => h9) rfl dX4_digestPerson_48 ?_
      refine va_get (D := D) (ci := 0) (v := .ref aEs) (C := RX0) (T := TX0) (N := 9) hx hb hts uX0 hown hK hP 4 rfl rfl 3 (by decide) w5 (fun _ h9 => h9) rfl dX4_digestPerson_51 ?_
      refine lv_iload_n hx hb dX4_digestPerson_54 rfl (lv_at hl 1 rfl) ?_
      refine xald hx hb hK hP 5 rfl pj rfl (by omega) (by decide) dX4_digestPerson_55 ?_
      refine lv_iconst (v := 4) hx hb dX4_digestPerson_56 (by decide) ?_
      refine xV (w2 := [(aO, .inr (4, [.ref aP, .ref aL, .ref aE, .ref aK, .ref aY, .ref aN, .ref aS, .int ik, .int ofr, .int rd])), (aL, .inr (1, [.ref aLk, .ref aLh, .ref aLs, .int (nI nl)])), (aLh, .inl (cI, 6, .inl ho)), (aLs, .inl (cI, 6, .inl sn)), (aE, .inr (0, [.int li, .int mi, .int (nI pe), .ref aEs, .ref aEw, .ref aEd, .int to, .ref aEl, .ref aEt])), (aEs, .inl (cI, 4, .inl sc)), (aEw, .inl (cI, 4, .inl wv)), (aEd, .inl (cI, 4, .inl dk)), (aEl, .inl (cI, 7, .inl tl)), (aEt, .inl (cI, 7, .inl td)), (aY, .inr (3, [.ref aYe, .int (nI (2 ^ 4))])), (aYe, .inl (cI, 64, .inl (f_X3_follow_Ye nl ho sn li tl td en 4 (sc pj))))]) ⟨hx, hb, hml, hown, hts⟩ (c_X3_follow l D cI aL aLk aLh aLs aE aEs aEw aEd aEl aEt aY aYe nl ho sn li mi pe to tl td zq en 4 (sc pj) hn (by decide)) (cwV 4 hts gX4_digestPerson_X3_follow rfl rfl rfl hd_X3_follow ⟨Nat.le_of_ble_eq_true rfl, Nat.le_of_ble_eq_true rfl⟩) hK hP hD hS hA [1, 2, 3, 4, 8, 9, 10, 11] [0, 5, 6, 7] [0, 4, 5, 6, 7, 1, 2, 3, 8, 9, 10, 11] rfl rfl rfl rfl rfl (by decide) rfl rfl rfl 6 rfl rfl rfl rfl hl.1 (rest := []) (st' := []) rfl rfl (Nat.le_of_ble_eq_true rfl) dX4_digestPerson_57 ⟨Nat.zero_le _, Nat.zero_le _⟩ (fun H locs hP hD hS => ?_)
      refine lv_ldc2 (v := 31) hx hb hown w1 dX4_digestPerson_60 ?_
      refine lv_lload hx hb dX4_digestPerson_63 (lv_at hl 2 rfl) ?_
      refine lv_lmul hx hb dX4_digestPerson_65 ?_
      refine lv_aload_n hx hb dX4_digestPerson_66 rfl (lv_at hl 0 rfl) ?_
      refine va_get (D := D) (ci := 4) (v := .ref aY) (C := RX4) (T := TX4) (N := 10) hx hb hts uX4 hown hK hP 0 rfl rfl 4 (by decide) w2 (fun _ h9 => h9) rfl dX4_digestPerson_67 ?_
      refine rV ⟨hx, hb, hml, hown, hts⟩ (c_X3_left l D cI aY aYe (f_X3_follow_Ye nl ho sn li tl td en 4 (sc pj)) (2 ^ 4) (by decide)) (cwV 0 hts gX4_digestPerson_X3_left rfl rfl rfl hd_X3_left ⟨Nat.le_of_ble_eq_true rfl, Nat.le_of_ble_eq_true rfl⟩) hK (hP.sub [10, 11] rfl) 0 rfl rfl rfl rfl hl.1 (rest := [.long (31 * (f_X4_digestPerson_6_v4 li pe sc wv dk before pj 4))]) (st' := [.int (f_X3_left (f_X3_follow_Ye nl ho sn li tl td en 4 (sc pj)) (2 ^ 4)), .long (31 * (f_X4_digestPerson_6_v4 li pe sc wv dk before pj 4))]) rfl rfl (Nat.le_of_ble_eq_true rfl) dX4_digestPerson_70 ⟨Nat.zero_le _, Nat.zero_le _⟩ ?_
      refine lv_i2l (v := (f_X3_left (f_X3_follow_Ye nl ho sn li tl td en 4 (sc pj)) (2 ^ 4)).toInt64) hx hb dX4_digestPerson_73 rfl ?_
      refine lv_ladd hx hb dX4_digestPerson_74 ?_
      refine lv_lstore (lv' := [(4, .long ((31 * (f_X4_digestPerson_6_v4 li pe sc wv dk before pj 4)) + (f_X3_left (f_X3_follow_Ye nl ho sn li tl td en 4 (sc pj)) (2 ^ 4)).toInt64)), (0, .ref aO), (3, .int (nI pj)), (6, .int (nI 4))]) hx hb dX4_digestPerson_75 hl (by decide) rfl (fun ls hl => ?_)
      refine lv_ldc2 (v := 31) hx hb hown w1 dX4_digestPerson_77 ?_
      refine lv_lload hx hb dX4_digestPerson_80 (lv_at hl 0 rfl) ?_
      refine lv_lmul hx hb dX4_digestPerson_82 ?_
      refine lv_aload_n hx hb dX4_digestPerson_83 rfl (lv_at hl 1 rfl) ?_
      refine va_get (D := D) (ci := 4) (v := .ref aY) (C := RX4) (T := TX4) (N := 10) hx hb hts uX4 hown hK hP 0 rfl rfl 4 (by decide) w2 (fun _ h9 => h9) rfl dX4_digestPerson_84 ?_
      refine rV ⟨hx, hb, hml, hown, hts⟩ (c_X3_first l D cI aY aYe (f_X3_follow_Ye nl ho sn li tl td en 4 (sc pj)) (2 ^ 4) (by decide)) (cwV 0 hts gX4_digestPerson_X3_first rfl rfl rfl hd_X3_first ⟨Nat.le_of_ble_eq_true rfl, Nat.le_of_ble_eq_true rfl⟩) hK (hP.sub [10, 11] rfl) 0 rfl rfl rfl rfl hl.1 (rest := [.long (31 * ((31 * (f_X4_digestPerson_6_v4 li pe sc wv dk before pj 4)) + (f_X3_left (f_X3_follow_Ye nl ho sn li tl td en 4 (sc pj)) (2 ^ 4)).toInt64))]) (st' := [.int (f_X3_first (f_X3_follow_Ye nl ho sn li tl td en 4 (sc pj)) (2 ^ 4)), .long (31 * ((31 * (f_X4_digestPerson_6_v4 li pe sc wv dk before pj 4)) + (f_X3_left (f_X3_follow_Ye nl ho sn li tl td en 4 (sc pj)) (2 ^ 4)).toInt64))]) rfl rfl (Nat.le_of_ble_eq_true rfl) dX4_digestPerson_87 ⟨Nat.zero_le _, Nat.zero_le _⟩ ?_
      refine lv_i2l (v := (f_X3_first (f_X3_follow_Ye nl ho sn li tl td en 4 (sc pj)) (2 ^ 4)).toInt64) hx hb dX4_digestPerson_90 rfl ?_
      refine lv_ladd hx hb dX4_digestPerson_91 ?_
      refine lv_lstore (lv' := [(4, .long ((31 * ((31 * (f_X4_digestPerson_6_v4 li pe sc wv dk before pj 4)) + (f_X3_left (f_X3_follow_Ye nl ho sn li tl td en 4 (sc pj)) (2 ^ 4)).toInt64)) + (f_X3_first (f_X3_follow_Ye nl ho sn li tl td en 4 (sc pj)) (2 ^ 4)).toInt64)), (0, .ref aO), (3, .int (nI pj)), (6, .int (nI 4))]) hx hb dX4_digestPerson_92 hl (by decide) rfl (fun ls hl => ?_)
      refine lv_ldc2 (v := 31) hx hb hown w1 dX4_digestPerson_94 ?_
      refine lv_lload hx hb dX4_digestPerson_97 (lv_at hl 0 rfl) ?_
      refine lv_lmul hx hb dX4_digestPerson_99 ?_
      refine lv_aload_n hx hb dX4_digestPerson_100 rfl (lv_at hl 1 rfl) ?_
      refine lv_iload_n hx hb dX4_digestPerson_101 rfl (lv_at hl 2 rfl) ?_
      refine lv_iconst (v := 3) hx hb dX4_digestPerson_102 (by decide) ?_
      refine xV (w2 := [(aO, .inr (4, [.ref aP, .ref aL, .ref aE, .ref aK, .ref aY, .ref aN, .ref aS, .int ik, .int ofr, .int rd])), (aL, .inr (1, [.ref aLk, .ref aLh, .ref aLs, .int (nI nl)])), (aLh, .inl (cI, 6, .inl ho)), (aLs, .inl (cI, 6, .inl sn)), (aE, .inr (0, [.int li, .int mi, .int (nI pe), .ref aEs, .ref aEw, .ref aEd, .int to, .ref aEl, .ref aEt])), (aEs, .inl (cI, 4, .inl sc)), (aEw, .inl (cI, 4, .inl wv)), (aEd, .inl (cI, 4, .inl dk)), (aEl, .inl (cI, 7, .inl tl)), (aEt, .inl (cI, 7, .inl td)), (aY, .inr (3, [.ref aYe, .int (f_X4_look_Y_1 pe (nI (2 ^ 4)) 3 (nI pj))])), (aYe, .inl (cI, 64, .inl (f_X4_look_Ye nl ho sn li pe sc tl td (f_X3_follow_Ye nl ho sn li tl td en 4 (sc pj)) 3 (nI pj))))]) ⟨hx, hb, hml, hown, hts⟩ (c_X4_look l D cI aO aP aL aLk aLh aLs aE aEs aEw aEd aEl aEt aK aY aYe aN aS ik ofr rd nl ho sn li mi pe to sc tl td (nI (2 ^ 4)) (f_X3_follow_Ye nl ho sn li tl td en 4 (sc pj)) 3 (nI pj) hn hpe) (cwV 2 hts gX4_digestPerson_X4_look rfl rfl rfl hd_X4_look ⟨Nat.le_of_ble_eq_true rfl, Nat.le_of_ble_eq_true rfl⟩) hK hP hD hS hA [0, 1, 2, 3, 4, 5, 8, 9, 10, 11] [6, 7] [2, 3, 4, 5, 6, 7, 0, 1, 8, 9, 10, 11] rfl rfl rfl rfl rfl (by decide) rfl rfl rfl 0 rfl rfl rfl rfl hl.1 (rest := [.long (31 * ((31 * ((31 * (f_X4_digestPerson_6_v4 li pe sc wv dk before pj 4)) + (f_X3_left (f_X3_follow_Ye nl ho sn li tl td en 4 (sc pj)) (2 ^ 4)).toInt64)) + (f_X3_first (f_X3_follow_Ye nl ho sn li tl td en 4 (sc pj)) (2 ^ 4)).toInt64))]) (st' := [.int (f_X4_look nl ho sn li pe sc tl td (f_X3_follow_Ye nl ho sn li tl td en 4 (sc pj)) 3 (nI pj)), .long (31 * ((31 * ((31 * (f_X4_digestPerson_6_v4 li pe sc wv dk before pj 4)) + (f_X3_left (f_X3_follow_Ye nl ho sn li tl td en 4 (sc pj)) (2 ^ 4)).toInt64)) + (f_X3_first (f_X3_follow_Ye nl ho sn li tl td en 4 (sc pj)) (2 ^ 4)).toInt64))]) rfl rfl (Nat.le_of_ble_eq_true rfl) dX4_digestPerson_103 ⟨Nat.zero_le _, Nat.zero_le _⟩ (fun H locs hP hD hS => ?_)
      refine lv_i2l (v := (f_X4_look nl ho sn li pe sc tl td (f_X3_follow_Ye nl ho sn li tl td en 4 (sc pj)) 3 (nI pj)).toInt64) hx hb dX4_digestPerson_106 rfl ?_
      refine lv_ladd hx hb dX4_digestPerson_107 ?_
      have e_Y_1 : (f_X4_digestPerson_Y_1 pe pj) = (f_X4_look_Y_1 pe (nI (2 ^ 4)) 3 (nI pj)) := (by simp only [f_X4_digestPerson_Y_1])
      have e_Ye : (f_X4_digestPerson_Ye nl ho sn li pe sc tl td en pj) = (f_X4_look_Ye nl ho sn li pe sc tl td (f_X3_follow_Ye nl ho sn li tl td en 4 (sc pj)) 3 (nI pj)) := (by simp only [f_X4_digestPerson_Ye])
      exact eXl hx hb hr hlk hQ (by rw [e_Y_1, e_Ye]; exact hP) (by rw [e_Y_1, e_Ye]; exact hD) hS dX4_digestPerson_108 (Eq.symm (by simp only [f_X4_digestPerson]))
    | succ k6 ih6 =>
      intro i1 hk6 H locs hP hD hS ls hl
      refine lv_iload hx hb dX4_digestPerson_6 (lv_at hl 3 rfl) ?_
      refine lv_iconst (v := 3) hx hb dX4_digestPerson_8 (by decide) ?_
      refine lv_icmp_gt (tgt := 35) hx hb dX4_digestPerson_9 (by decide) (fun c => absurd c (nlt_f (a := 3) (b := i1) rfl rfl (by omega) (by omega) (by omega))) (fun _ => ?_)
      refine lv_ldc2 (v := 31) hx hb hown w1 dX4_digestPerson_12 ?_
      refine lv_lload hx hb dX4_digestPerson_15 (lv_at hl 2 rfl) ?_
      refine lv_lmul hx hb dX4_digestPerson_17 ?_
      refine lv_aload_n hx hb dX4_digestPerson_18 rfl (lv_at hl 0 rfl) ?_
      refine lv_iload_n hx hb dX4_digestPerson_19 rfl (lv_at hl 1 rfl) ?_
      refine lv_iload hx hb dX4_digestPerson_20 (lv_at hl 3 rfl) ?_
      refine rV ⟨hx, hb, hml, hown, hts⟩ (c_X4_about l D cI aO aP aL aE aEs aEw aEd aEl aEt aK aY aN aS ik ofr rd li mi pe to sc wv dk (nI pj) (nI i1) hpe) (cwV 2 hts gX4_digestPerson_X4_about rfl rfl rfl hd_X4_about ⟨Nat.le_of_ble_eq_true rfl, Nat.le_of_ble_eq_true rfl⟩) hK (hP.sub [0, 4, 5, 6, 7] rfl) 0 rfl rfl rfl rfl hl.1 (rest := [.long (31 * (f_X4_digestPerson_6_v4 li pe sc wv dk before pj i1))]) (st' := [.int (f_X4_about li pe sc wv dk (nI pj) (nI i1)), .long (31 * (f_X4_digestPerson_6_v4 li pe sc wv dk before pj i1))]) rfl rfl (Nat.le_of_ble_eq_true rfl) dX4_digestPerson_22 ⟨Nat.zero_le _, Nat.zero_le _⟩ ?_
      refine lv_i2l (v := (f_X4_about li pe sc wv dk (nI pj) (nI i1)).toInt64) hx hb dX4_digestPerson_25 rfl ?_
      refine lv_ladd hx hb dX4_digestPerson_26 ?_
      refine lv_lstore (lv' := [(4, .long ((31 * (f_X4_digestPerson_6_v4 li pe sc wv dk before pj i1)) + (f_X4_about li pe sc wv dk (nI pj) (nI i1)).toInt64)), (0, .ref aO), (3, .int (nI pj)), (6, .int (nI i1))]) hx hb dX4_digestPerson_27 hl (by decide) rfl (fun ls hl => ?_)
      refine lv_iinc (v := nI (i1 + 1)) (lv' := [(6, .int (nI (i1 + 1))), (4, .long ((31 * (f_X4_digestPerson_6_v4 li pe sc wv dk before pj i1)) + (f_X4_about li pe sc wv dk (nI pj) (nI i1)).toInt64)), (0, .ref aO), (3, .int (nI pj))]) hx hb dX4_digestPerson_29 hl (k := 3) rfl (nI_add i1 1) (by decide) rfl (fun ls hl => ?_)
      refine lv_goto (tgt := 6) hx hb dX4_digestPerson_32 (by decide) ?_
      have e_v4 : (f_X4_digestPerson_6_v4 li pe sc wv dk before pj (i1 + 1)) = ((31 * (f_X4_digestPerson_6_v4 li pe sc wv dk before pj i1)) + (f_X4_about li pe sc wv dk (nI pj) (nI i1)).toInt64) := (by simp only [f_X4_digestPerson_6_v4])
      exact ih6 (i1 + 1) (by omega) _ _ (hP) (hD) hS ls (by rw [e_v4]; exact lv_sub hl [2, 3, 1, 0] rfl)
  exact lp6 4 0 (by omega) _ _ hP hD hS ls (lv_sub hl [2, 4, 1, 0] rfl)
