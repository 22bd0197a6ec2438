def rm_J0_coder_7d493 : Room := { frames := 0, cells := 0, slots := 0, locals := 0 }
def f_J0_coder_7d493  : Int32 := 0
theorem hd_J0_coder_7d493 : yJ0_coder_7d493.cls = RJ0 ∧ yJ0_coder_7d493.cls ≠ "java/lang/invoke/MethodHandle" ∧ yJ0_coder_7d493.cls ≠ "java/lang/invoke/VarHandle" ∧ (parseMethodDescriptor yJ0_coder_7d493.desc).map (fun d => d.parameters.length) = some 0 := by decide +kernel
set_option maxHeartbeats 4000000 in
set_option maxRecDepth 100000 in
theorem c_J0_coder_7d493 (l : Launch) (D : va_G) (cI : ClassId) (aT aV : Nat) : MetRZ l yJ0_coder_7d493 wsJ0_coder_7d493 rm_J0_coder_7d493 D cI aT aV [.ref aT] [] (some (.int f_J0_coder_7d493)) := by
  refine mRZ (cc := cJ0_coder_7d493) (maxL := 1) (ret := (some .byte)) (by decide) rfl (Nat.le_of_ble_eq_true rfl) ?_
  intro p e s m args below meth c Q hx hb hr hml hown hts hlk hP hK hZ hQ ls hl
  have zO := hZ.2.2.1.1 0 (by decide)
  have zC : va_OF "java/lang/String" "coder" "B" (.int 0) aT (fun _ => False) s s.heap := zO.2.1
  have zV : va_OF "java/lang/String" "value" "[B" (.ref aV) aT (fun _ => False) s s.heap := zO.2.2.1
  have zT : va_T .byte aV 5 (fun j => .int (bS j)) (fun _ => False) s s.heap := zO.2.2.2
  have zK := hZ.2.2.2
  have hSr : va_S (fun _ => False) s.heap s.heap [] := va_S.rf
  have hown : s.vm.findClass RJ0 = some m.cls := hown
  have hl : lv_has ls 1 [(0, .ref aT)] := hl
  have w1 := hts (.fieldLink RJ0 38 "java/lang/String" "COMPACT_STRINGS" "Z") (List.mem_of_getElem? (i := 1) rfl)
  have w2 := hts (.fieldLink RJ0 15 "java/lang/String" "coder" "B") (List.mem_of_getElem? (i := 2) rfl)
  refine va_gets hx hb zK hSr hown w1 (fun _ h9 => h9) dJ0_coder_7d493_0 ?_
  refine lv_if_eq (tgt := 13) hx hb dJ0_coder_7d493_3 (by decide) (fun c => absurd c (by decide)) (fun _ => ?_)
  refine lv_aload_n hx hb dJ0_coder_7d493_6 rfl (lv_at hl 0 rfl) ?_
  refine vk_getf hx hb zC hSr hown w2 (fun _ h9 => h9) dJ0_coder_7d493_7 ?_
  refine lv_goto (tgt := 14) hx hb dJ0_coder_7d493_10 (by decide) ?_
  exact eRz hx hb hr hlk hQ dJ0_coder_7d493_14 rfl (Eq.symm (by simp only [f_J0_coder_7d493]))

def rm_J0_isLatin1_aae02 : Room := { frames := 0, cells := 0, slots := 0, locals := 0 }
def f_J0_isLatin1_aae02  : Int32 := 1
theorem hd_J0_isLatin1_aae02 : yJ0_isLatin1_aae02.cls = RJ0 ∧ yJ0_isLatin1_aae02.cls ≠ "java/lang/invoke/MethodHandle" ∧ yJ0_isLatin1_aae02.cls ≠ "java/lang/invoke/VarHandle" ∧ (parseMethodDescriptor yJ0_isLatin1_aae02.desc).map (fun d => d.parameters.length) = some 0 := by decide +kernel
set_option maxHeartbeats 4000000 in
set_option maxRecDepth 100000 in
theorem c_J0_isLatin1_aae02 (l : Launch) (D : va_G) (cI : ClassId) (aT aV : Nat) : MetRZ l yJ0_isLatin1_aae02 wsJ0_isLatin1_aae02 rm_J0_isLatin1_aae02 D cI aT aV [.ref aT] [] (some (.int f_J0_isLatin1_aae02)) := by
  refine mRZ (cc := cJ0_isLatin1_aae02) (maxL := 1) (ret := (some .boolean)) (by decide) rfl (Nat.le_of_ble_eq_true rfl) ?_
  intro p e s m args below meth c Q hx hb hr hml hown hts hlk hP hK hZ hQ ls hl
  have zO := hZ.2.2.1.1 0 (by decide)
  have zC : va_OF "java/lang/String" "coder" "B" (.int 0) aT (fun _ => False) s s.heap := zO.2.1
  have zV : va_OF "java/lang/String" "value" "[B" (.ref aV) aT (fun _ => False) s s.heap := zO.2.2.1
  have zT : va_T .byte aV 5 (fun j => .int (bS j)) (fun _ => False) s s.heap := zO.2.2.2
  have zK := hZ.2.2.2
  have hSr : va_S (fun _ => False) s.heap s.heap [] := va_S.rf
  have hown : s.vm.findClass RJ0 = some m.cls := hown
  have hl : lv_has ls 1 [(0, .ref aT)] := hl
  have w1 := hts (.fieldLink RJ0 38 "java/lang/String" "COMPACT_STRINGS" "Z") (List.mem_of_getElem? (i := 1) rfl)
  have w2 := hts (.fieldLink RJ0 15 "java/lang/String" "coder" "B") (List.mem_of_getElem? (i := 2) rfl)
  refine va_gets hx hb zK hSr hown w1 (fun _ h9 => h9) dJ0_isLatin1_aae02_0 ?_
  refine lv_if_eq (tgt := 17) hx hb dJ0_isLatin1_aae02_3 (by decide) (fun c => absurd c (by decide)) (fun _ => ?_)
  refine lv_aload_n hx hb dJ0_isLatin1_aae02_6 rfl (lv_at hl 0 rfl) ?_
  refine vk_getf hx hb zC hSr hown w2 (fun _ h9 => h9) dJ0_isLatin1_aae02_7 ?_
  refine lv_if_ne (tgt := 17) hx hb dJ0_isLatin1_aae02_10 (by decide) (fun c => absurd (by decide) c) (fun _ => ?_)
  refine lv_iconst (v := 1) hx hb dJ0_isLatin1_aae02_13 (by decide) ?_
  refine lv_goto (tgt := 18) hx hb dJ0_isLatin1_aae02_14 (by decide) ?_
  exact eRz hx hb hr hlk hQ dJ0_isLatin1_aae02_18 rfl (Eq.symm (by simp only [f_J0_isLatin1_aae02]))

def rm_J0_length_8abf5 : Room := { frames := 1, cells := 0, slots := 0, locals := 20 }
def f_J0_length_8abf5  : Int32 := 5
theorem hd_J0_length_8abf5 : yJ0_length_8abf5.cls = RJ0 ∧ yJ0_length_8abf5.cls ≠ "java/lang/invoke/MethodHandle" ∧ yJ0_length_8abf5.cls ≠ "java/lang/invoke/VarHandle" ∧ (parseMethodDescriptor yJ0_length_8abf5.desc).map (fun d => d.parameters.length) = some 0 := by decide +kernel
set_option maxHeartbeats 4000000 in
set_option maxRecDepth 100000 in
theorem c_J0_length_8abf5 (l : Launch) (D : va_G) (cI : ClassId) (aT aV : Nat) : MetRZ l yJ0_length_8abf5 wsJ0_length_8abf5 rm_J0_length_8abf5 D cI aT aV [.ref aT] [] (some (.int f_J0_length_8abf5)) := by
  refine mRZ (cc := cJ0_length_8abf5) (maxL := 1) (ret := (some .int)) (by decide) rfl (Nat.le_of_ble_eq_true rfl) ?_
  intro p e s m args below meth c Q hx hb hr hml hown hts hlk hP hK hZ hQ ls hl
  have zO := hZ.2.2.1.1 0 (by decide)
  have zC : va_OF "java/lang/String" "coder" "B" (.int 0) aT (fun _ => False) s s.heap := zO.2.1
  have zV : va_OF "java/lang/String" "value" "[B" (.ref aV) aT (fun _ => False) s s.heap := zO.2.2.1
  have zT : va_T .byte aV 5 (fun j => .int (bS j)) (fun _ => False) s s.heap := zO.2.2.2
  have zK := hZ.2.2.2
  have hSr : va_S (fun _ => False) s.heap s.heap [] := va_S.rf
  have hown : s.vm.findClass RJ0 = some m.cls := hown
  have hl : lv_has ls 1 [(0, .ref aT)] := hl
  have w1 := hts (.fieldLink RJ0 9 "java/lang/String" "value" "[B") (List.mem_of_getElem? (i := 1) rfl)
  refine lv_aload_n hx hb dJ0_length_8abf5_0 rfl (lv_at hl 0 rfl) ?_
  refine vk_getf hx hb zV hSr hown w1 (fun _ h9 => h9) dJ0_length_8abf5_1 ?_
  refine va_tlen (v := 5) hx hb zT hSr rfl dJ0_length_8abf5_4 ?_
  refine lv_aload_n hx hb dJ0_length_8abf5_5 rfl (lv_at hl 0 rfl) ?_
  refine rVT ⟨hx, hb, hml, hown, hts⟩ (c_J0_coder_7d493 l D cI aT aV) (cwV 0 hts gJ0_length_8abf5_J0_coder_7d493 rfl rfl rfl hd_J0_coder_7d493 ⟨Nat.le_of_ble_eq_true rfl, Nat.le_of_ble_eq_true rfl⟩) hK (hP.sub [] rfl) hZ rfl rfl hl.1 (rest := [.int 5]) (st' := [.int f_J0_coder_7d493, .int 5]) rfl rfl (Nat.le_of_ble_eq_true rfl) dJ0_length_8abf5_6 ⟨Nat.zero_le _, Nat.zero_le _⟩ ?_
  refine tpi (y := 0) rfl ?_
  refine lv_ishr hx hb dJ0_length_8abf5_9 ?_
  refine tpi (y := 5) (by decide) ?_
  exact eRi hx hb hr hlk hQ dJ0_length_8abf5_10 (Eq.symm (by simp only [f_J0_length_8abf5]))

def rm_J1_canEncode_9a6ad : Room := { frames := 0, cells := 0, slots := 0, locals := 0 }
def f_J1_canEncode_9a6ad (ch : Int32) : Int32 := (if ch < 0 then 0 else (if 255 < ch then 0 else 1))
theorem hd_J1_canEncode_9a6ad : yJ1_canEncode_9a6ad.cls ≠ "java/lang/invoke/MethodHandle" ∧ yJ1_canEncode_9a6ad.cls ≠ "java/lang/invoke/VarHandle" ∧ (parseMethodDescriptor yJ1_canEncode_9a6ad.desc).map (fun d => d.parameters.length) = some 1 := by decide +kernel
set_option maxHeartbeats 4000000 in
set_option maxRecDepth 100000 in
theorem c_J1_canEncode_9a6ad (l : Launch) (D : va_G) (cI : ClassId) (ch : Int32) : MetR l yJ1_canEncode_9a6ad wsJ1_canEncode_9a6ad rm_J1_canEncode_9a6ad D cI [.int ch] [] (some (.int (f_J1_canEncode_9a6ad ch))) := by
  refine mR (cc := cJ1_canEncode_9a6ad) (maxL := 1) (ret := (some .boolean)) (by decide) rfl (Nat.le_of_ble_eq_true rfl) ?_
  intro p e s m args below meth c Q hx hb hr hml hown hts hlk hP hK hQ ls hl
  have hown : s.vm.findClass RJ1 = some m.cls := hown
  have hl : lv_has ls 1 [(0, .int ch)] := hl
  refine lv_iload_n hx hb dJ1_canEncode_9a6ad_0 rfl (lv_at hl 0 rfl) ?_
  refine lv_if_lt (tgt := 15) hx hb dJ1_canEncode_9a6ad_1 (by decide) (fun c1 => ?_) (fun c1 => ?_)
  · refine lv_iconst (v := 0) hx hb dJ1_canEncode_9a6ad_15 (by decide) ?_
    exact eRz hx hb hr hlk hQ dJ1_canEncode_9a6ad_16 rfl (Eq.symm (by simp only [f_J1_canEncode_9a6ad, if_pos c1]))
  · refine lv_iload_n hx hb dJ1_canEncode_9a6ad_4 rfl (lv_at hl 0 rfl) ?_
    refine lv_sipush (v := 255) hx hb dJ1_canEncode_9a6ad_5 (by decide) ?_
    refine lv_icmp_gt (tgt := 15) hx hb dJ1_canEncode_9a6ad_8 (by decide) (fun c2 => ?_) (fun c2 => ?_)
    · refine lv_iconst (v := 0) hx hb dJ1_canEncode_9a6ad_15 (by decide) ?_
      exact eRz hx hb hr hlk hQ dJ1_canEncode_9a6ad_16 rfl (Eq.symm (by simp only [f_J1_canEncode_9a6ad, if_neg c1, if_pos c2]))
    · refine lv_iconst (v := 1) hx hb dJ1_canEncode_9a6ad_11 (by decide) ?_
      refine lv_goto (tgt := 16) hx hb dJ1_canEncode_9a6ad_12 (by decide) ?_
      exact eRz hx hb hr hlk hQ dJ1_canEncode_9a6ad_16 rfl (Eq.symm (by simp only [f_J1_canEncode_9a6ad, if_neg c1, if_neg c2]))

def rm_J1_indexOfChar_4cfef : Room := { frames := 0, cells := 0, slots := 0, locals := 0 }
def f_J1_indexOfChar_4cfef_7_r (ch : Int32) : Nat → Nat → Int32
  | 0, _ => 0
  | k7 + 1, i1 => (if 5 ≤ nI i1 then (-1) else (if (bS i1) = ch.toInt8.toInt32 then nI i1 else (f_J1_indexOfChar_4cfef_7_r ch k7 (i1 + 1))))
def f_J1_indexOfChar_4cfef (ch : Int32) : Int32 := (f_J1_indexOfChar_4cfef_7_r ch 6 0)
theorem hd_J1_indexOfChar_4cfef : yJ1_indexOfChar_4cfef.cls ≠ "java/lang/invoke/MethodHandle" ∧ yJ1_indexOfChar_4cfef.cls ≠ "java/lang/invoke/VarHandle" ∧ (parseMethodDescriptor yJ1_indexOfChar_4cfef.desc).map (fun d => d.parameters.length) = some 4 := by decide +kernel
set_option maxHeartbeats 4000000 in
set_option maxRecDepth 100000 in
theorem c_J1_indexOfChar_4cfef (l : Launch) (D : va_G) (cI : ClassId) (aT aV : Nat) (ch : Int32) : MetRZ l yJ1_indexOfChar_4cfef wsJ1_indexOfChar_4cfef rm_J1_indexOfChar_4cfef D cI aT aV [.ref aV, .int ch, .int 0, .int 5] [] (some (.int (f_J1_indexOfChar_4cfef ch))) := by
  refine mRZ (cc := cJ1_indexOfChar_4cfef) (maxL := 6) (ret := (some .int)) (by decide) rfl (Nat.le_of_ble_eq_true rfl) ?_
  intro p e s m args below meth c Q hx hb hr hml hown hts hlk hP hK hZ hQ ls hl
  have zO := hZ.2.2.1.1 0 (by decide)
  have zC : va_OF "java/lang/String" "coder" "B" (.int 0) aT (fun _ => False) s s.heap := zO.2.1
  have zV : va_OF "java/lang/String" "value" "[B" (.ref aV) aT (fun _ => False) s s.heap := zO.2.2.1
  have zT : va_T .byte aV 5 (fun j => .int (bS j)) (fun _ => False) s s.heap := zO.2.2.2
  have zK := hZ.2.2.2
  have hSr : va_S (fun _ => False) s.heap s.heap [] := va_S.rf
  have hown : s.vm.findClass RJ1 = some m.cls := hown
  have hl : lv_has ls 6 [(0, .ref aV), (1, .int ch), (2, .int 0), (3, .int 5)] := hl
  refine lv_iload_n hx hb dJ1_indexOfChar_4cfef_0 rfl (lv_at hl 1 rfl) ?_
  refine lv_i2b (v := ch.toInt8.toInt32) hx hb dJ1_indexOfChar_4cfef_1 rfl ?_
  refine lv_istore (lv' := [(4, .int (ch.toInt8.toInt32)), (0, .ref aV), (1, .int ch), (2, .int 0), (3, .int 5)]) hx hb dJ1_indexOfChar_4cfef_2 hl (by decide) rfl (fun ls hl => ?_)
  refine lv_iload_n hx hb dJ1_indexOfChar_4cfef_4 rfl (lv_at hl 3 rfl) ?_
  refine lv_istore (lv' := [(5, .int 0), (4, .int (ch.toInt8.toInt32)), (0, .ref aV), (1, .int ch), (2, .int 0), (3, .int 5)]) hx hb dJ1_indexOfChar_4cfef_5 hl (by decide) rfl (fun ls hl => ?_)
  have lp7 : ∀ (k7 : Nat) (i1 : Nat), i1 ≤ 5 ∧ 5 < i1 + k7 → ((f_J1_indexOfChar_4cfef ch) = (f_J1_indexOfChar_4cfef_7_r ch k7 i1)) → ∀ ls : Array Slot, lv_has ls 6 [(0, .ref aV), (3, .int 5), (4, .int (ch.toInt8.toInt32)), (5, .int (nI i1))] → W p l e rm_J1_indexOfChar_4cfef s m args below meth c s.heap [] 0 0 Q (F0 m 7 ls []) := by
    intro k7
    induction k7 with
    | zero =>
      intro i1 hh7 h7_r ls hl
      exact absurd hh7 (by omega)
    | succ k7 ih7 =>
      intro i1 hh7 h7_r ls hl
      refine lv_iload hx hb dJ1_indexOfChar_4cfef_7 (lv_at hl 3 rfl) ?_
      refine lv_iload_n hx hb dJ1_indexOfChar_4cfef_9 rfl (lv_at hl 1 rfl) ?_
      refine lv_icmp_ge (tgt := 31) hx hb dJ1_indexOfChar_4cfef_10 (by decide) (fun c1 => ?_) (fun c1 => ?_)
      · have q1 : 5 ≤ i1 := nle_d (a := 5) (b := i1) rfl rfl (by omega) (by omega) c1
        refine lv_iconst (v := (-1)) hx hb dJ1_indexOfChar_4cfef_31 (by decide) ?_
        exact eRi hx hb hr hlk hQ dJ1_indexOfChar_4cfef_32 (Eq.symm (h7_r.trans (by simp only [f_J1_indexOfChar_4cfef_7_r, if_pos c1])))
      · have q1 : i1 < 5 := nle_e (a := 5) (b := i1) rfl rfl (by omega) (by omega) c1
        refine lv_aload_n hx hb dJ1_indexOfChar_4cfef_13 rfl (lv_at hl 0 rfl) ?_
        refine lv_iload hx hb dJ1_indexOfChar_4cfef_14 (lv_at hl 3 rfl) ?_
        refine va_tb (v := .int (bS i1)) hx hb zT hSr (vp_in_nI (n := i1) (by omega) (by decide)) (by rw [nI_clamp (by omega)]) dJ1_indexOfChar_4cfef_16 ?_
        refine lv_iload hx hb dJ1_indexOfChar_4cfef_17 (lv_at hl 2 rfl) ?_
        refine lv_icmp_ne (tgt := 25) hx hb dJ1_indexOfChar_4cfef_19 (by decide) (fun c2 => ?_) (fun c2 => ?_)
        · refine lv_iinc (v := nI (i1 + 1)) (lv' := [(5, .int (nI (i1 + 1))), (0, .ref aV), (3, .int 5), (4, .int (ch.toInt8.toInt32))]) hx hb dJ1_indexOfChar_4cfef_25 hl (k := 3) rfl (nI_add i1 1) (by decide) rfl (fun ls hl => ?_)
          refine lv_goto (tgt := 7) hx hb dJ1_indexOfChar_4cfef_28 (by decide) ?_
          exact ih7 (i1 + 1) (by omega) (h7_r.trans (by simp only [f_J1_indexOfChar_4cfef_7_r, if_neg c1, if_neg c2])) ls (lv_sub hl [1, 2, 3, 0] rfl)
        · refine lv_iload hx hb dJ1_indexOfChar_4cfef_22 (lv_at hl 3 rfl) ?_
          exact eRi hx hb hr hlk hQ dJ1_indexOfChar_4cfef_24 (Eq.symm (h7_r.trans (by simp only [f_J1_indexOfChar_4cfef_7_r, if_neg c1, if_pos c2])))
  exact lp7 6 0 (by omega) (by simp only [f_J1_indexOfChar_4cfef]) ls (lv_sub hl [2, 5, 1, 0] rfl)

def rm_J1_indexOf_4cfef : Room := { frames := 1, cells := 0, slots := 0, locals := 25 }
def f_J1_indexOf_4cfef (ch : Int32) : Int32 := (if (f_J1_canEncode_9a6ad ch) = 0 then (-1) else (f_J1_indexOfChar_4cfef ch))
theorem hd_J1_indexOf_4cfef : yJ1_indexOf_4cfef.cls ≠ "java/lang/invoke/MethodHandle" ∧ yJ1_indexOf_4cfef.cls ≠ "java/lang/invoke/VarHandle" ∧ (parseMethodDescriptor yJ1_indexOf_4cfef.desc).map (fun d => d.parameters.length) = some 4 := by decide +kernel
set_option maxHeartbeats 4000000 in
set_option maxRecDepth 100000 in
theorem c_J1_indexOf_4cfef (l : Launch) (D : va_G) (cI : ClassId) (aT aV : Nat) (ch : Int32) : MetRZ l yJ1_indexOf_4cfef wsJ1_indexOf_4cfef rm_J1_indexOf_4cfef D cI aT aV [.ref aV, .int ch, .int 0, .int 5] [] (some (.int (f_J1_indexOf_4cfef ch))) := by
  refine mRZ (cc := cJ1_indexOf_4cfef) (maxL := 4) (ret := (some .int)) (by decide) rfl (Nat.le_of_ble_eq_true rfl) ?_
  intro p e s m args below meth c Q hx hb hr hml hown hts hlk hP hK hZ hQ ls hl
  have zO := hZ.2.2.1.1 0 (by decide)
  have zC : va_OF "java/lang/String" "coder" "B" (.int 0) aT (fun _ => False) s s.heap := zO.2.1
  have zV : va_OF "java/lang/String" "value" "[B" (.ref aV) aT (fun _ => False) s s.heap := zO.2.2.1
  have zT : va_T .byte aV 5 (fun j => .int (bS j)) (fun _ => False) s s.heap := zO.2.2.2
  have zK := hZ.2.2.2
  have hSr : va_S (fun _ => False) s.heap s.heap [] := va_S.rf
  have hown : s.vm.findClass RJ1 = some m.cls := hown
  have hl : lv_has ls 4 [(0, .ref aV), (1, .int ch), (2, .int 0), (3, .int 5)] := hl
  have w1 := hts (.methodLink RJ1 92 Lib.Math.max.name) (List.mem_of_getElem? (i := 1) rfl)
  have w2 := hts (.static Lib.Math.max.name) (List.mem_of_getElem? (i := 2) rfl)
  have w3 := hts (.initialized "java/lang/Math") (List.mem_of_getElem? (i := 3) rfl)
  have w4 := hts (.code Lib.Math.max.name Lib.Math.max.code 2 (some .int)) (List.mem_of_getElem? (i := 4) rfl)
  have w5 := hts (.methodLink RJ1 38 Lib.Math.min.name) (List.mem_of_getElem? (i := 5) rfl)
  have w6 := hts (.static Lib.Math.min.name) (List.mem_of_getElem? (i := 6) rfl)
  have w7 := hts (.code Lib.Math.min.name Lib.Math.min.code 2 (some .int)) (List.mem_of_getElem? (i := 7) rfl)
  refine lv_iload_n hx hb dJ1_indexOf_4cfef_0 rfl (lv_at hl 1 rfl) ?_
  refine rS ⟨hx, hb, hml, hown, hts⟩ (c_J1_canEncode_9a6ad l D cI ch) (va_cwS 1 hts gJ1_indexOf_4cfef_J1_canEncode_9a6ad rfl rfl rfl hd_J1_canEncode_9a6ad ⟨Nat.le_of_ble_eq_true rfl, Nat.le_of_ble_eq_true rfl⟩) hK (hP.sub [] rfl) rfl hl.1 (rest := []) (st' := [.int (f_J1_canEncode_9a6ad ch)]) rfl rfl (Nat.le_of_ble_eq_true rfl) dJ1_indexOf_4cfef_1 ⟨Nat.zero_le _, Nat.zero_le _⟩ ?_
  refine lv_if_ne (tgt := 9) hx hb dJ1_indexOf_4cfef_4 (by decide) (fun c1 => ?_) (fun c1 => ?_)
  · refine lv_iload_n hx hb dJ1_indexOf_4cfef_9 rfl (lv_at hl 2 rfl) ?_
    refine lv_iconst (v := 0) hx hb dJ1_indexOf_4cfef_10 (by decide) ?_
    refine va_mmax hx hb (hml.trans hl.1.symm) hown w1 w2 w3 w4 (Nat.le_of_ble_eq_true rfl) (Nat.le_of_ble_eq_true rfl) (Nat.zero_le _) (Nat.zero_le _) dJ1_indexOf_4cfef_11 ?_
    refine tpi (y := 0) (by decide) ?_
    refine lv_istore_n (lv' := [(2, .int 0), (0, .ref aV), (1, .int ch), (3, .int 5)]) hx hb dJ1_indexOf_4cfef_14 rfl hl (by decide) rfl (fun ls hl => ?_)
    refine lv_iload_n hx hb dJ1_indexOf_4cfef_15 rfl (lv_at hl 3 rfl) ?_
    refine lv_aload_n hx hb dJ1_indexOf_4cfef_16 rfl (lv_at hl 1 rfl) ?_
    refine va_tlen (v := 5) hx hb zT hSr rfl dJ1_indexOf_4cfef_17 ?_
    refine va_mmin hx hb (hml.trans hl.1.symm) hown w5 w6 w3 w7 (Nat.le_of_ble_eq_true rfl) (Nat.le_of_ble_eq_true rfl) (Nat.zero_le _) (Nat.zero_le _) dJ1_indexOf_4cfef_18 ?_
    refine tpi (y := 5) (by decide) ?_
    refine lv_istore_n (lv' := [(3, .int 5), (2, .int 0), (0, .ref aV), (1, .int ch)]) hx hb dJ1_indexOf_4cfef_21 rfl hl (by decide) rfl (fun ls hl => ?_)
    refine lv_iload_n hx hb dJ1_indexOf_4cfef_22 rfl (lv_at hl 1 rfl) ?_
    refine lv_iload_n hx hb dJ1_indexOf_4cfef_23 rfl (lv_at hl 0 rfl) ?_
    refine lv_icmp_lt (tgt := 29) hx hb dJ1_indexOf_4cfef_24 (by decide) (fun _ => ?_) (fun c => absurd (by decide) c)
    refine lv_aload_n hx hb dJ1_indexOf_4cfef_29 rfl (lv_at hl 2 rfl) ?_
    refine lv_iload_n hx hb dJ1_indexOf_4cfef_30 rfl (lv_at hl 3 rfl) ?_
    refine lv_iload_n hx hb dJ1_indexOf_4cfef_31 rfl (lv_at hl 1 rfl) ?_
    refine lv_iload_n hx hb dJ1_indexOf_4cfef_32 rfl (lv_at hl 0 rfl) ?_
    refine rSZ ⟨hx, hb, hml, hown, hts⟩ (c_J1_indexOfChar_4cfef l D cI aT aV ch) (va_cwS 4 hts gJ1_indexOf_4cfef_J1_indexOfChar_4cfef rfl rfl rfl hd_J1_indexOfChar_4cfef ⟨Nat.le_of_ble_eq_true rfl, Nat.le_of_ble_eq_true rfl⟩) hK (hP.sub [] rfl) hZ rfl hl.1 (rest := []) (st' := [.int (f_J1_indexOfChar_4cfef ch)]) rfl rfl (Nat.le_of_ble_eq_true rfl) dJ1_indexOf_4cfef_33 ⟨Nat.zero_le _, Nat.zero_le _⟩ ?_
    exact eRi hx hb hr hlk hQ dJ1_indexOf_4cfef_36 (Eq.symm (by simp only [f_J1_indexOf_4cfef, if_neg c1]))
  · refine lv_iconst (v := (-1)) hx hb dJ1_indexOf_4cfef_7 (by decide) ?_
    exact eRi hx hb hr hlk hQ dJ1_indexOf_4cfef_8 (Eq.symm (by simp only [f_J1_indexOf_4cfef, if_pos c1]))

def rm_J0_indexOf_7cf53 : Room := { frames := 2, cells := 0, slots := 0, locals := 48 }
def f_J0_indexOf_7cf53 (ch : Int32) : Int32 := (f_J1_indexOf_4cfef ch)
theorem hd_J0_indexOf_7cf53 : yJ0_indexOf_7cf53.cls = RJ0 ∧ yJ0_indexOf_7cf53.cls ≠ "java/lang/invoke/MethodHandle" ∧ yJ0_indexOf_7cf53.cls ≠ "java/lang/invoke/VarHandle" ∧ (parseMethodDescriptor yJ0_indexOf_7cf53.desc).map (fun d => d.parameters.length) = some 2 := by decide +kernel
set_option maxHeartbeats 4000000 in
set_option maxRecDepth 100000 in
theorem c_J0_indexOf_7cf53 (l : Launch) (D : va_G) (cI : ClassId) (aT aV : Nat) (ch : Int32) : MetRZ l yJ0_indexOf_7cf53 wsJ0_indexOf_7cf53 rm_J0_indexOf_7cf53 D cI aT aV [.ref aT, .int ch, .int 0] [] (some (.int (f_J0_indexOf_7cf53 ch))) := by
  refine mRZ (cc := cJ0_indexOf_7cf53) (maxL := 3) (ret := (some .int)) (by decide) rfl (Nat.le_of_ble_eq_true rfl) ?_
  intro p e s m args below meth c Q hx hb hr hml hown hts hlk hP hK hZ hQ ls hl
  have zO := hZ.2.2.1.1 0 (by decide)
  have zC : va_OF "java/lang/String" "coder" "B" (.int 0) aT (fun _ => False) s s.heap := zO.2.1
  have zV : va_OF "java/lang/String" "value" "[B" (.ref aV) aT (fun _ => False) s s.heap := zO.2.2.1
  have zT : va_T .byte aV 5 (fun j => .int (bS j)) (fun _ => False) s s.heap := zO.2.2.2
  have zK := hZ.2.2.2
  have hSr : va_S (fun _ => False) s.heap s.heap [] := va_S.rf
  have hown : s.vm.findClass RJ0 = some m.cls := hown
  have hl : lv_has ls 3 [(0, .ref aT), (1, .int ch), (2, .int 0)] := hl
  have w1 := hts (.fieldLink RJ0 9 "java/lang/String" "value" "[B") (List.mem_of_getElem? (i := 1) rfl)
  refine lv_aload_n hx hb dJ0_indexOf_7cf53_0 rfl (lv_at hl 0 rfl) ?_
  refine rVT ⟨hx, hb, hml, hown, hts⟩ (c_J0_isLatin1_aae02 l D cI aT aV) (cwV 0 hts gJ0_indexOf_7cf53_J0_isLatin1_aae02 rfl rfl rfl hd_J0_isLatin1_aae02 ⟨Nat.le_of_ble_eq_true rfl, Nat.le_of_ble_eq_true rfl⟩) hK (hP.sub [] rfl) hZ rfl rfl hl.1 (rest := []) (st' := [.int f_J0_isLatin1_aae02]) rfl rfl (Nat.le_of_ble_eq_true rfl) dJ0_indexOf_7cf53_1 ⟨Nat.zero_le _, Nat.zero_le _⟩ ?_
  refine tpi (y := 1) (by decide) ?_
  refine lv_if_eq (tgt := 23) hx hb dJ0_indexOf_7cf53_4 (by decide) (fun c => absurd c (by decide)) (fun _ => ?_)
  refine lv_aload_n hx hb dJ0_indexOf_7cf53_7 rfl (lv_at hl 0 rfl) ?_
  refine vk_getf hx hb zV hSr hown w1 (fun _ h9 => h9) dJ0_indexOf_7cf53_8 ?_
  refine lv_iload_n hx hb dJ0_indexOf_7cf53_11 rfl (lv_at hl 1 rfl) ?_
  refine lv_iload_n hx hb dJ0_indexOf_7cf53_12 rfl (lv_at hl 2 rfl) ?_
  refine lv_aload_n hx hb dJ0_indexOf_7cf53_13 rfl (lv_at hl 0 rfl) ?_
  refine rVT ⟨hx, hb, hml, hown, hts⟩ (c_J0_length_8abf5 l D cI aT aV) (cwV 0 hts gJ0_indexOf_7cf53_J0_length_8abf5 rfl rfl rfl hd_J0_length_8abf5 ⟨Nat.le_of_ble_eq_true rfl, Nat.le_of_ble_eq_true rfl⟩) hK (hP.sub [] rfl) hZ rfl rfl hl.1 (rest := [.int 0, .int ch, .ref aV]) (st' := [.int f_J0_length_8abf5, .int 0, .int ch, .ref aV]) rfl rfl (Nat.le_of_ble_eq_true rfl) dJ0_indexOf_7cf53_14 ⟨Nat.zero_le _, Nat.zero_le _⟩ ?_
  refine tpi (y := 5) rfl ?_
  refine rSZ ⟨hx, hb, hml, hown, hts⟩ (c_J1_indexOf_4cfef l D cI aT aV ch) (va_cwS 4 hts gJ0_indexOf_7cf53_J1_indexOf_4cfef rfl rfl rfl hd_J1_indexOf_4cfef ⟨Nat.le_of_ble_eq_true rfl, Nat.le_of_ble_eq_true rfl⟩) hK (hP.sub [] rfl) hZ rfl hl.1 (rest := []) (st' := [.int (f_J1_indexOf_4cfef ch)]) rfl rfl (Nat.le_of_ble_eq_true rfl) dJ0_indexOf_7cf53_17 ⟨Nat.zero_le _, Nat.zero_le _⟩ ?_
  refine lv_goto (tgt := 36) hx hb dJ0_indexOf_7cf53_20 (by decide) ?_
  exact eRi hx hb hr hlk hQ dJ0_indexOf_7cf53_36 (Eq.symm (by simp only [f_J0_indexOf_7cf53]))

def rm_J0_indexOf_0f7a4 : Room := { frames := 3, cells := 0, slots := 0, locals := 70 }
def f_J0_indexOf_0f7a4 (ch : Int32) : Int32 := (f_J0_indexOf_7cf53 ch)
theorem hd_J0_indexOf_0f7a4 : yJ0_indexOf_0f7a4.cls = RJ0 ∧ yJ0_indexOf_0f7a4.cls ≠ "java/lang/invoke/MethodHandle" ∧ yJ0_indexOf_0f7a4.cls ≠ "java/lang/invoke/VarHandle" ∧ (parseMethodDescriptor yJ0_indexOf_0f7a4.desc).map (fun d => d.parameters.length) = some 1 := by decide +kernel
set_option maxHeartbeats 4000000 in
set_option maxRecDepth 100000 in
theorem c_J0_indexOf_0f7a4 (l : Launch) (D : va_G) (cI : ClassId) (aT aV : Nat) (ch : Int32) : MetRZ l yJ0_indexOf_0f7a4 wsJ0_indexOf_0f7a4 rm_J0_indexOf_0f7a4 D cI aT aV [.ref aT, .int ch] [] (some (.int (f_J0_indexOf_0f7a4 ch))) := by
  refine mRZ (cc := cJ0_indexOf_0f7a4) (maxL := 2) (ret := (some .int)) (by decide) rfl (Nat.le_of_ble_eq_true rfl) ?_
  intro p e s m args below meth c Q hx hb hr hml hown hts hlk hP hK hZ hQ ls hl
  have zO := hZ.2.2.1.1 0 (by decide)
  have zC : va_OF "java/lang/String" "coder" "B" (.int 0) aT (fun _ => False) s s.heap := zO.2.1
  have zV : va_OF "java/lang/String" "value" "[B" (.ref aV) aT (fun _ => False) s s.heap := zO.2.2.1
  have zT : va_T .byte aV 5 (fun j => .int (bS j)) (fun _ => False) s s.heap := zO.2.2.2
  have zK := hZ.2.2.2
  have hSr : va_S (fun _ => False) s.heap s.heap [] := va_S.rf
  have hown : s.vm.findClass RJ0 = some m.cls := hown
  have hl : lv_has ls 2 [(0, .ref aT), (1, .int ch)] := hl
  refine lv_aload_n hx hb dJ0_indexOf_0f7a4_0 rfl (lv_at hl 0 rfl) ?_
  refine lv_iload_n hx hb dJ0_indexOf_0f7a4_1 rfl (lv_at hl 1 rfl) ?_
  refine lv_iconst (v := 0) hx hb dJ0_indexOf_0f7a4_2 (by decide) ?_
  refine rVT ⟨hx, hb, hml, hown, hts⟩ (c_J0_indexOf_7cf53 l D cI aT aV ch) (cwV 2 hts gJ0_indexOf_0f7a4_J0_indexOf_7cf53 rfl rfl rfl hd_J0_indexOf_7cf53 ⟨Nat.le_of_ble_eq_true rfl, Nat.le_of_ble_eq_true rfl⟩) hK (hP.sub [] rfl) hZ rfl rfl hl.1 (rest := []) (st' := [.int (f_J0_indexOf_7cf53 ch)]) rfl rfl (Nat.le_of_ble_eq_true rfl) dJ0_indexOf_0f7a4_3 ⟨Nat.zero_le _, Nat.zero_le _⟩ ?_
  exact eRi hx hb hr hlk hQ dJ0_indexOf_0f7a4_6 (Eq.symm (by simp only [f_J0_indexOf_0f7a4]))

def rm_X2_fits : Room := { frames := 4, cells := 0, slots := 0, locals := 91 }
def f_X2_fits (code : Int32) (place : Int32) : Int32 := (if place < 17 then (if (place - place / 3 * 3) = 0 then (if (f_J0_indexOf_0f7a4 ((code.toUInt32 % 65536).toInt32)) < 0 then 0 else 1) else (if (place - place / 3 * 3) = 1 then (if code < 49 then 0 else (if 57 < code then 0 else 1)) else (if code = 44 then 1 else 0))) else 0)
theorem hd_X2_fits : yX2_fits.cls ≠ "java/lang/invoke/MethodHandle" ∧ yX2_fits.cls ≠ "java/lang/invoke/VarHandle" ∧ (parseMethodDescriptor yX2_fits.desc).map (fun d => d.parameters.length) = some 2 := by decide +kernel
set_option maxHeartbeats 4000000 in
set_option maxRecDepth 100000 in
theorem c_X2_fits (l : Launch) (D : va_G) (cI : ClassId) (aT aV : Nat) (code : Int32) (place : Int32) : MetRZ l yX2_fits wsX2_fits rm_X2_fits D cI aT aV [.int code, .int place] [] (some (.int (f_X2_fits code place))) := by
  refine mRZ (cc := cX2_fits) (maxL := 2) (ret := (some .boolean)) (by decide) rfl (Nat.le_of_ble_eq_true rfl) ?_
  intro p e s m args below meth c Q hx hb hr hml hown hts hlk hP hK hZ hQ ls hl
  have hown : s.vm.findClass RX2 = some m.cls := hown
  have hl : lv_has ls 2 [(0, .int code), (1, .int place)] := hl
  refine lv_iload_n hx hb dX2_fits_0 rfl (lv_at hl 1 rfl) ?_
  refine lv_bipush (v := 17) hx hb dX2_fits_1 (by decide) ?_
  refine lv_icmp_lt (tgt := 8) hx hb dX2_fits_3 (by decide) (fun c1 => ?_) (fun c1 => ?_)
  · refine lv_iload_n hx hb dX2_fits_8 rfl (lv_at hl 1 rfl) ?_
    refine lv_iconst (v := 3) hx hb dX2_fits_9 (by decide) ?_
    refine lv_irem hx hb dX2_fits_10 (by decide) ?_
    by_cases c2 : (place - place / 3 * 3) = 0
    · refine lv_lookup (off := 25) (tgt := 36) hx hb dX2_fits_11 (by decide) (by rw [c2]; rfl) (by decide) ?_
      refine va_ldcS hx hb hown hZ.1 dX2_fits_36 ?_
      refine lv_iload_n hx hb dX2_fits_38 rfl (lv_at hl 0 rfl) ?_
      refine lv_i2c (v := (code.toUInt32 % 65536).toInt32) hx hb dX2_fits_39 rfl ?_
      refine rVT ⟨hx, hb, hml, hown, hts⟩ (c_J0_indexOf_0f7a4 l D cI aT aV ((code.toUInt32 % 65536).toInt32)) (cwV 1 hts gX2_fits_J0_indexOf_0f7a4 rfl rfl rfl hd_J0_indexOf_0f7a4 ⟨Nat.le_of_ble_eq_true rfl, Nat.le_of_ble_eq_true rfl⟩) hK (hP.sub [] rfl) hZ rfl rfl hl.1 (rest := []) (st' := [.int (f_J0_indexOf_0f7a4 ((code.toUInt32 % 65536).toInt32))]) rfl rfl (Nat.le_of_ble_eq_true rfl) dX2_fits_40 ⟨Nat.zero_le _, Nat.zero_le _⟩ ?_
      refine lv_if_lt (tgt := 50) hx hb dX2_fits_43 (by decide) (fun c3 => ?_) (fun c3 => ?_)
      · refine lv_iconst (v := 0) hx hb dX2_fits_50 (by decide) ?_
        exact eRz hx hb hr hlk hQ dX2_fits_51 rfl (Eq.symm (by simp only [f_X2_fits, if_pos c1, if_pos c2, if_pos c3]))
      · refine lv_iconst (v := 1) hx hb dX2_fits_46 (by decide) ?_
        refine lv_goto (tgt := 51) hx hb dX2_fits_47 (by decide) ?_
        exact eRz hx hb hr hlk hQ dX2_fits_51 rfl (Eq.symm (by simp only [f_X2_fits, if_pos c1, if_pos c2, if_neg c3]))
    · by_cases c4 : (place - place / 3 * 3) = 1
      · refine lv_lookup (off := 41) (tgt := 52) hx hb dX2_fits_11 (by decide) (by rw [c4]; rfl) (by decide) ?_
        refine lv_iload_n hx hb dX2_fits_52 rfl (lv_at hl 0 rfl) ?_
        refine lv_bipush (v := 49) hx hb dX2_fits_53 (by decide) ?_
        refine lv_icmp_lt (tgt := 68) hx hb dX2_fits_55 (by decide) (fun c5 => ?_) (fun c5 => ?_)
        · refine lv_iconst (v := 0) hx hb dX2_fits_68 (by decide) ?_
          exact eRz hx hb hr hlk hQ dX2_fits_69 rfl (Eq.symm (by simp only [f_X2_fits, if_pos c1, if_neg c2, if_pos c4, if_pos c5]))
        · refine lv_iload_n hx hb dX2_fits_58 rfl (lv_at hl 0 rfl) ?_
          refine lv_bipush (v := 57) hx hb dX2_fits_59 (by decide) ?_
          refine lv_icmp_gt (tgt := 68) hx hb dX2_fits_61 (by decide) (fun c6 => ?_) (fun c6 => ?_)
          · refine lv_iconst (v := 0) hx hb dX2_fits_68 (by decide) ?_
            exact eRz hx hb hr hlk hQ dX2_fits_69 rfl (Eq.symm (by simp only [f_X2_fits, if_pos c1, if_neg c2, if_pos c4, if_neg c5, if_pos c6]))
          · refine lv_iconst (v := 1) hx hb dX2_fits_64 (by decide) ?_
            refine lv_goto (tgt := 69) hx hb dX2_fits_65 (by decide) ?_
            exact eRz hx hb hr hlk hQ dX2_fits_69 rfl (Eq.symm (by simp only [f_X2_fits, if_pos c1, if_neg c2, if_pos c4, if_neg c5, if_neg c6]))
      · have z11_0 := lv_neT (a := 0) c2 (by decide)
        have z11_1 := lv_neT (a := 1) c4 (by decide)
        refine lv_lookup (off := 59) (tgt := 70) hx hb dX2_fits_11 (by decide) (by rw [lv_osw c2 (by decide), lv_osw c4 (by decide)]; rfl) (by decide) ?_
        refine lv_iload_n hx hb dX2_fits_70 rfl (lv_at hl 0 rfl) ?_
        refine lv_bipush (v := 44) hx hb dX2_fits_71 (by decide) ?_
        refine lv_icmp_ne (tgt := 80) hx hb dX2_fits_73 (by decide) (fun c7 => ?_) (fun c7 => ?_)
        · refine lv_iconst (v := 0) hx hb dX2_fits_80 (by decide) ?_
          exact eRz hx hb hr hlk hQ dX2_fits_81 rfl (Eq.symm (by simp only [f_X2_fits, if_pos c1, if_neg c2, if_neg c4, if_neg c7]))
        · refine lv_iconst (v := 1) hx hb dX2_fits_76 (by decide) ?_
          refine lv_goto (tgt := 81) hx hb dX2_fits_77 (by decide) ?_
          exact eRz hx hb hr hlk hQ dX2_fits_81 rfl (Eq.symm (by simp only [f_X2_fits, if_pos c1, if_neg c2, if_neg c4, if_pos c7]))
  · refine lv_iconst (v := 0) hx hb dX2_fits_6 (by decide) ?_
    exact eRz hx hb hr hlk hQ dX2_fits_7 rfl (Eq.symm (by simp only [f_X2_fits, if_neg c1]))

def rm_X2_firstFault : Room := { frames := 5, cells := 0, slots := 0, locals := 112 }
def f_X2_firstFault_2_r (pl : Nat) (co : Nat → Int32) : Nat → Nat → Int32
  | 0, _ => 0
  | k2 + 1, i1 => (if nI pl ≤ nI i1 then nI i1 else (if (f_X2_fits (co i1) (nI i1)) = 0 then nI i1 else (f_X2_firstFault_2_r pl co k2 (i1 + 1))))
def f_X2_firstFault (pl : Nat) (co : Nat → Int32) : Int32 := (f_X2_firstFault_2_r pl co (pl + 1) 0)
theorem hd_X2_firstFault : yX2_firstFault.cls = RX2 ∧ yX2_firstFault.cls ≠ "java/lang/invoke/MethodHandle" ∧ yX2_firstFault.cls ≠ "java/lang/invoke/VarHandle" ∧ (parseMethodDescriptor yX2_firstFault.desc).map (fun d => d.parameters.length) = some 0 := by decide +kernel
set_option maxHeartbeats 4000000 in
set_option maxRecDepth 100000 in
theorem c_X2_firstFault (l : Launch) (D : va_G) (cI : ClassId) (aT aV : Nat) (aP aPc : Nat) (pl : Nat) (co : Nat → Int32) (hpl : pl ≤ 20) : MetRZ l yX2_firstFault wsX2_firstFault rm_X2_firstFault D cI aT aV [.ref aP] [(aP, .inr (2, [.ref aPc, .int (nI pl)])), (aPc, .inl (cI, 20, .inl co))] (some (.int (f_X2_firstFault pl co))) := by
  refine mRZ (cc := cX2_firstFault) (maxL := 2) (ret := (some .int)) (by decide) rfl (Nat.le_of_ble_eq_true rfl) ?_
  intro p e s m args below meth c Q hx hb hr hml hown hts hlk hP hK hZ hQ ls hl
  have hown : s.vm.findClass RX2 = some m.cls := hown
  have hl : lv_has ls 2 [(0, .ref aP)] := hl
  have w1 := hts (.fieldLink RX2 15 "DarkOffice$Page" "length" "I") (List.mem_of_getElem? (i := 1) rfl)
  have uX2 : ∀ w ∈ wsX20, w ∈ wsX2_firstFault := fun _ h => List.mem_cons_of_mem _ (List.mem_append_right _ h)
  have w2 := hts (.fieldLink RX2 9 "DarkOffice$Page" "codes" "[I") (List.mem_of_getElem? (i := 2) rfl)
  refine lv_iconst (v := 0) hx hb dX2_firstFault_0 (by decide) ?_
  refine lv_istore_n (lv' := [(1, .int 0), (0, .ref aP)]) hx hb dX2_firstFault_1 rfl hl (by decide) rfl (fun ls hl => ?_)
  have lp2 : ∀ (k2 : Nat) (i1 : Nat), i1 ≤ pl ∧ pl < i1 + k2 → ((f_X2_firstFault pl co) = (f_X2_firstFault_2_r pl co k2 i1)) → ∀ ls : Array Slot, lv_has ls 2 [(0, .ref aP), (1, .int (nI i1))] → W p l e rm_X2_firstFault s m args below meth c s.heap [] 0 0 Q (F0 m 2 ls []) := by
    intro k2
    induction k2 with
    | zero =>
      intro i1 hh2 h2_r ls hl
      exact absurd hh2 (by omega)
    | succ k2 ih2 =>
      intro i1 hh2 h2_r ls hl
      refine lv_iload_n hx hb dX2_firstFault_2 rfl (lv_at hl 1 rfl) ?_
      refine lv_aload_n hx hb dX2_firstFault_3 rfl (lv_at hl 0 rfl) ?_
      refine va_get (D := D) (ci := 2) (v := .int (nI pl)) (C := RX2) (T := TX2) (N := 2) hx hb hts uX2 hown hK hP 0 rfl rfl 1 (by decide) w1 (fun _ h9 => h9) rfl dX2_firstFault_4 ?_
      refine lv_icmp_ge (tgt := 29) hx hb dX2_firstFault_7 (by decide) (fun c1 => ?_) (fun c1 => ?_)
      · have q1 : pl ≤ i1 := nle_d (a := pl) (b := i1) rfl rfl (by omega) (by omega) c1
        refine lv_iload_n hx hb dX2_firstFault_29 rfl (lv_at hl 1 rfl) ?_
        exact eRi hx hb hr hlk hQ dX2_firstFault_30 (Eq.symm (h2_r.trans (by simp only [f_X2_firstFault_2_r, if_pos c1])))
      · have q1 : i1 < pl := nle_e (a := pl) (b := i1) rfl rfl (by omega) (by omega) c1
        refine lv_aload_n hx hb dX2_firstFault_10 rfl (lv_at hl 0 rfl) ?_
        refine va_get (D := D) (ci := 2) (v := .ref aPc) (C := RX2) (T := TX2) (N := 2) hx hb hts uX2 hown hK hP 0 rfl rfl 0 (by decide) w2 (fun _ h9 => h9) rfl dX2_firstFault_11 ?_
        refine lv_iload_n hx hb dX2_firstFault_14 rfl (lv_at hl 1 rfl) ?_
        refine xald hx hb hK hP 1 rfl i1 rfl (by omega) (by decide) dX2_firstFault_15 ?_
        refine lv_iload_n hx hb dX2_firstFault_16 rfl (lv_at hl 1 rfl) ?_
        refine rSZ ⟨hx, hb, hml, hown, hts⟩ (c_X2_fits l D cI aT aV (co i1) (nI i1)) (va_cwS 2 hts gX2_firstFault_X2_fits rfl rfl rfl hd_X2_fits ⟨Nat.le_of_ble_eq_true rfl, Nat.le_of_ble_eq_true rfl⟩) hK (hP.sub [] rfl) hZ rfl hl.1 (rest := []) (st' := [.int (f_X2_fits (co i1) (nI i1))]) rfl rfl (Nat.le_of_ble_eq_true rfl) dX2_firstFault_17 ⟨Nat.zero_le _, Nat.zero_le _⟩ ?_
        refine lv_if_eq (tgt := 29) hx hb dX2_firstFault_20 (by decide) (fun c2 => ?_) (fun c2 => ?_)
        · refine lv_iload_n hx hb dX2_firstFault_29 rfl (lv_at hl 1 rfl) ?_
          exact eRi hx hb hr hlk hQ dX2_firstFault_30 (Eq.symm (h2_r.trans (by simp only [f_X2_firstFault_2_r, if_neg c1, if_pos c2])))
        · refine lv_iinc (v := nI (i1 + 1)) (lv' := [(1, .int (nI (i1 + 1))), (0, .ref aP)]) hx hb dX2_firstFault_23 hl (k := 1) rfl (nI_add i1 1) (by decide) rfl (fun ls hl => ?_)
          refine lv_goto (tgt := 2) hx hb dX2_firstFault_26 (by decide) ?_
          exact ih2 (i1 + 1) (by omega) (h2_r.trans (by simp only [f_X2_firstFault_2_r, if_neg c1, if_neg c2])) ls (lv_sub hl [1, 0] rfl)
  exact lp2 (pl + 1) 0 (by omega) (by simp only [f_X2_firstFault]) ls (lv_sub hl [1, 0] rfl)

def rm_X2_isOffice : Room := { frames := 6, cells := 0, slots := 0, locals := 133 }
def f_X2_isOffice (pl : Nat) (co : Nat → Int32) : Int32 := (if nI pl < 5 then 0 else (if (nI pl - nI pl / 3 * 3) = 2 then (if (f_X2_firstFault pl co) = nI pl then 1 else 0) else 0))
theorem hd_X2_isOffice : yX2_isOffice.cls = RX2 ∧ yX2_isOffice.cls ≠ "java/lang/invoke/MethodHandle" ∧ yX2_isOffice.cls ≠ "java/lang/invoke/VarHandle" ∧ (parseMethodDescriptor yX2_isOffice.desc).map (fun d => d.parameters.length) = some 0 := by decide +kernel
set_option maxHeartbeats 4000000 in
set_option maxRecDepth 100000 in
theorem c_X2_isOffice (l : Launch) (D : va_G) (cI : ClassId) (aT aV : Nat) (aP aPc : Nat) (pl : Nat) (co : Nat → Int32) (hpl : pl ≤ 20) : MetRZ l yX2_isOffice wsX2_isOffice rm_X2_isOffice D cI aT aV [.ref aP] [(aP, .inr (2, [.ref aPc, .int (nI pl)])), (aPc, .inl (cI, 20, .inl co))] (some (.int (f_X2_isOffice pl co))) := by
  refine mRZ (cc := cX2_isOffice) (maxL := 1) (ret := (some .boolean)) (by decide) rfl (Nat.le_of_ble_eq_true rfl) ?_
  intro p e s m args below meth c Q hx hb hr hml hown hts hlk hP hK hZ hQ ls hl
  have hown : s.vm.findClass RX2 = some m.cls := hown
  have hl : lv_has ls 1 [(0, .ref aP)] := hl
  have w1 := hts (.fieldLink RX2 15 "DarkOffice$Page" "length" "I") (List.mem_of_getElem? (i := 1) rfl)
  have uX2 : ∀ w ∈ wsX20, w ∈ wsX2_isOffice := fun _ h => List.mem_cons_of_mem _ (List.mem_append_right _ h)
  refine lv_aload_n hx hb dX2_isOffice_0 rfl (lv_at hl 0 rfl) ?_
  refine va_get (D := D) (ci := 2) (v := .int (nI pl)) (C := RX2) (T := TX2) (N := 2) hx hb hts uX2 hown hK hP 0 rfl rfl 1 (by decide) w1 (fun _ h9 => h9) rfl dX2_isOffice_1 ?_
  refine lv_iconst (v := 5) hx hb dX2_isOffice_4 (by decide) ?_
  refine lv_icmp_lt (tgt := 33) hx hb dX2_isOffice_5 (by decide) (fun c1 => ?_) (fun c1 => ?_)
  · have q1 : pl < 5 := nlt_d (a := pl) (b := 5) rfl rfl (by omega) (by omega) c1
    refine lv_iconst (v := 0) hx hb dX2_isOffice_33 (by decide) ?_
    exact eRz hx hb hr hlk hQ dX2_isOffice_34 rfl (Eq.symm (by simp only [f_X2_isOffice, if_pos c1]))
  · have q1 : 5 ≤ pl := nlt_e (a := pl) (b := 5) rfl rfl (by omega) (by omega) c1
    refine lv_aload_n hx hb dX2_isOffice_8 rfl (lv_at hl 0 rfl) ?_
    refine va_get (D := D) (ci := 2) (v := .int (nI pl)) (C := RX2) (T := TX2) (N := 2) hx hb hts uX2 hown hK hP 0 rfl rfl 1 (by decide) w1 (fun _ h9 => h9) rfl dX2_isOffice_9 ?_
    refine lv_iconst (v := 3) hx hb dX2_isOffice_12 (by decide) ?_
    refine lv_irem hx hb dX2_isOffice_13 (by decide) ?_
    refine lv_iconst (v := 2) hx hb dX2_isOffice_14 (by decide) ?_
    refine lv_icmp_ne (tgt := 33) hx hb dX2_isOffice_15 (by decide) (fun c2 => ?_) (fun c2 => ?_)
    · refine lv_iconst (v := 0) hx hb dX2_isOffice_33 (by decide) ?_
      exact eRz hx hb hr hlk hQ dX2_isOffice_34 rfl (Eq.symm (by simp only [f_X2_isOffice, if_neg c1, if_neg c2]))
    · refine lv_aload_n hx hb dX2_isOffice_18 rfl (lv_at hl 0 rfl) ?_
      refine rVZ ⟨hx, hb, hml, hown, hts⟩ (c_X2_firstFault l D cI aT aV aP aPc pl co hpl) (cwV 0 hts gX2_isOffice_X2_firstFault rfl rfl rfl hd_X2_firstFault ⟨Nat.le_of_ble_eq_true rfl, Nat.le_of_ble_eq_true rfl⟩) hK (hP.sub [0, 1] rfl) hZ 0 rfl rfl rfl rfl hl.1 (rest := []) (st' := [.int (f_X2_firstFault pl co)]) rfl rfl (Nat.le_of_ble_eq_true rfl) dX2_isOffice_19 ⟨Nat.zero_le _, Nat.zero_le _⟩ ?_
      refine lv_aload_n hx hb dX2_isOffice_22 rfl (lv_at hl 0 rfl) ?_
      refine va_get (D := D) (ci := 2) (v := .int (nI pl)) (C := RX2) (T := TX2) (N := 2) hx hb hts uX2 hown hK hP 0 rfl rfl 1 (by decide) w1 (fun _ h9 => h9) rfl dX2_isOffice_23 ?_
      refine lv_icmp_ne (tgt := 33) hx hb dX2_isOffice_26 (by decide) (fun c3 => ?_) (fun c3 => ?_)
      · refine lv_iconst (v := 0) hx hb dX2_isOffice_33 (by decide) ?_
        exact eRz hx hb hr hlk hQ dX2_isOffice_34 rfl (Eq.symm (by simp only [f_X2_isOffice, if_neg c1, if_pos c2, if_neg c3]))
      · refine lv_iconst (v := 1) hx hb dX2_isOffice_29 (by decide) ?_
        refine lv_goto (tgt := 34) hx hb dX2_isOffice_30 (by decide) ?_
        exact eRz hx hb hr hlk hQ dX2_isOffice_34 rfl (Eq.symm (by simp only [f_X2_isOffice, if_neg c1, if_pos c2, if_pos c3]))

def rm_X4_fault : Room := { frames := 6, cells := 0, slots := 0, locals := 133 }
def f_X4_fault (pl : Nat) (co : Nat → Int32) : Int32 := (f_X2_firstFault pl co)
theorem hd_X4_fault : yX4_fault.cls = RX4 ∧ yX4_fault.cls ≠ "java/lang/invoke/MethodHandle" ∧ yX4_fault.cls ≠ "java/lang/invoke/VarHandle" ∧ (parseMethodDescriptor yX4_fault.desc).map (fun d => d.parameters.length) = some 0 := by decide +kernel
set_option maxHeartbeats 4000000 in
set_option maxRecDepth 100000 in
theorem c_X4_fault (l : Launch) (D : va_G) (cI : ClassId) (aT aV : Nat) (aO aP aPc aL aE aK aY aN aS : Nat) (ik : Int32) (ofr : Int32) (rd : Int32) (pl : Nat) (co : Nat → Int32) (hpl : pl ≤ 20) : MetRZ l yX4_fault wsX4_fault rm_X4_fault D cI aT aV [.ref aO] [(aO, .inr (4, [.ref aP, .ref aL, .ref aE, .ref aK, .ref aY, .ref aN, .ref aS, .int ik, .int ofr, .int rd])), (aP, .inr (2, [.ref aPc, .int (nI pl)])), (aPc, .inl (cI, 20, .inl co))] (some (.int (f_X4_fault pl co))) := by
  refine mRZ (cc := cX4_fault) (maxL := 1) (ret := (some .int)) (by decide) rfl (Nat.le_of_ble_eq_true rfl) ?_
  intro p e s m args below meth c Q hx hb hr hml hown hts hlk hP hK hZ hQ ls hl
  have hown : s.vm.findClass RX4 = some m.cls := hown
  have hl : lv_has ls 1 [(0, .ref aO)] := hl
  have w1 := hts (.fieldLink RX4 10 "DarkOffice" "page" "LDarkOffice$Page;") (List.mem_of_getElem? (i := 1) rfl)
  have uX4 : ∀ w ∈ wsX40, w ∈ wsX4_fault := fun _ h => List.mem_cons_of_mem _ (List.mem_append_left _ (List.mem_append_right _ h))
  refine lv_aload_n hx hb dX4_fault_0 rfl (lv_at hl 0 rfl) ?_
  refine va_get (D := D) (ci := 4) (v := .ref aP) (C := RX4) (T := TX4) (N := 10) hx hb hts uX4 hown hK hP 0 rfl rfl 0 (by decide) w1 (fun _ h9 => h9) rfl dX4_fault_1 ?_
  refine rVZ ⟨hx, hb, hml, hown, hts⟩ (c_X2_firstFault l D cI aT aV aP aPc pl co hpl) (cwV 0 hts gX4_fault_X2_firstFault rfl rfl rfl hd_X2_firstFault ⟨Nat.le_of_ble_eq_true rfl, Nat.le_of_ble_eq_true rfl⟩) hK (hP.sub [1, 2] rfl) hZ 0 rfl rfl rfl rfl hl.1 (rest := []) (st' := [.int (f_X2_firstFault pl co)]) rfl rfl (Nat.le_of_ble_eq_true rfl) dX4_fault_4 ⟨Nat.zero_le _, Nat.zero_le _⟩ ?_
  exact eRi hx hb hr hlk hQ dX4_fault_7 (Eq.symm (by simp only [f_X4_fault]))

theorem rd_min {pl : Nat} (h : pl ≤ 20) : (if (nI pl + 1) / 3 < 6 then (nI pl + 1) / 3 else 6) = nI (min 6 ((pl + 1) / 3)) := by
  rw [pg_div h]
  by_cases q : (pl + 1) / 3 < 6
  · have q2 : nI ((pl + 1) / 3) < 6 := nlt_t (a := (pl + 1) / 3) (b := 6) rfl rfl (by omega) (by decide) q
    rw [if_pos q2, Nat.min_eq_right (by omega)]
  · have q2 : ¬ nI ((pl + 1) / 3) < 6 := nlt_f (a := (pl + 1) / 3) (b := 6) rfl rfl (by omega) (by decide) (by omega)
    rw [if_neg q2, Nat.min_eq_left (by omega)]
    rfl

def rm_X1_read : Room := { frames := 4, cells := 0, slots := 0, locals := 91 }
def f_X1_read_19_Lk (co : Nat → Int32) (kd : Nat → Int32) : Nat → (Nat → Int32)
  | 0 => kd
  | i1 + 1 => (upd (f_X1_read_19_Lk co kd i1) i1 (f_J0_indexOf_0f7a4 (((co (i1 * 3)).toUInt32 % 65536).toInt32)))
def f_X1_read_19_Lh (co : Nat → Int32) (kd : Nat → Int32) (ho : Nat → Int32) : Nat → (Nat → Int32)
  | 0 => ho
  | i1 + 1 => (if ((upd (f_X1_read_19_Lk co kd i1) i1 (f_J0_indexOf_0f7a4 (((co (i1 * 3)).toUInt32 % 65536).toInt32))) i1) = 3 then (upd (f_X1_read_19_Lh co kd ho i1) i1 ((((co ((i1 * 3) + 1)) - 48) + 1) / 2)) else (upd (f_X1_read_19_Lh co kd ho i1) i1 ((co ((i1 * 3) + 1)) - 48)))
def f_X1_read_19_Ls (pl : Nat) (co : Nat → Int32) (kd : Nat → Int32) (sn : Nat → Int32) : Nat → (Nat → Int32)
  | 0 => sn
  | i1 + 1 => (upd (f_X1_read_19_Ls pl co kd sn i1) i1 ((f_X1_seenBy ((upd (f_X1_read_19_Lk co kd i1) i1 (f_J0_indexOf_0f7a4 (((co (i1 * 3)).toUInt32 % 65536).toInt32))) i1) ((1 : Int32) <<< (nI i1 &&& 31))) &&& (f_X1_allOnes (min 6 ((pl + 1) / 3)))))
def f_X1_read_Lk (pl : Nat) (co : Nat → Int32) (kd : Nat → Int32) : Nat → Int32 := (f_X1_read_19_Lk co kd (min 6 ((pl + 1) / 3)))
def f_X1_read_Lh (pl : Nat) (co : Nat → Int32) (kd : Nat → Int32) (ho : Nat → Int32) : Nat → Int32 := (f_X1_read_19_Lh co kd ho (min 6 ((pl + 1) / 3)))
def f_X1_read_Ls (pl : Nat) (co : Nat → Int32) (kd : Nat → Int32) (sn : Nat → Int32) : Nat → Int32 := (f_X1_read_19_Ls pl co kd sn (min 6 ((pl + 1) / 3)))
theorem hd_X1_read : yX1_read.cls = RX1 ∧ yX1_read.cls ≠ "java/lang/invoke/MethodHandle" ∧ yX1_read.cls ≠ "java/lang/invoke/VarHandle" ∧ (parseMethodDescriptor yX1_read.desc).map (fun d => d.parameters.length) = some 1 := by decide +kernel
set_option maxHeartbeats 4000000 in
set_option maxRecDepth 100000 in
theorem c_X1_read (l : Launch) (D : va_G) (cI : ClassId) (aT aV : Nat) (aP aPc aL aLk aLh aLs : Nat) (pl : Nat) (co : Nat → Int32) (nl : Nat) (kd : Nat → Int32) (ho : Nat → Int32) (sn : Nat → Int32) (hpl : pl ≤ 20) : MetXZ l yX1_read wsX1_read rm_X1_read D cI aT aV [.ref aL, .ref aP] [(aP, .inr (2, [.ref aPc, .int (nI pl)])), (aPc, .inl (cI, 20, .inl co)), (aL, .inr (1, [.ref aLk, .ref aLh, .ref aLs, .int (nI nl)])), (aLk, .inl (cI, 6, .inl kd)), (aLh, .inl (cI, 6, .inl ho)), (aLs, .inl (cI, 6, .inl sn))] none [(aP, .inr (2, [.ref aPc, .int (nI pl)])), (aPc, .inl (cI, 20, .inl co)), (aL, .inr (1, [.ref aLk, .ref aLh, .ref aLs, .int (nI (min 6 ((pl + 1) / 3)))])), (aLk, .inl (cI, 6, .inl (f_X1_read_Lk pl co kd))), (aLh, .inl (cI, 6, .inl (f_X1_read_Lh pl co kd ho))), (aLs, .inl (cI, 6, .inl (f_X1_read_Ls pl co kd sn)))] := by
  refine mXZ (cc := cX1_read) (maxL := 5) (ret := none) (by decide) rfl (Nat.le_of_ble_eq_true rfl) ?_
  intro p e s m args below meth c Q A hx hb hr hml hown hts hlk hP hK hD hA hS hZ hQ ls hl
  have hown : s.vm.findClass RX1 = some m.cls := hown
  have hl : lv_has ls 5 [(0, .ref aL), (1, .ref aP)] := hl
  have w1 := hts (.fieldLink RX1 21 "DarkOffice$Page" "length" "I") (List.mem_of_getElem? (i := 1) rfl)
  have uX2 : ∀ w ∈ wsX20, w ∈ wsX1_read := fun _ h => List.mem_cons_of_mem _ (List.mem_append_left _ (List.mem_append_right _ h))
  have w2 := hts (.methodLink RX1 27 Lib.Math.min.name) (List.mem_of_getElem? (i := 2) rfl)
  have w3 := hts (.static Lib.Math.min.name) (List.mem_of_getElem? (i := 3) rfl)
  have w4 := hts (.initialized "java/lang/Math") (List.mem_of_getElem? (i := 4) rfl)
  have w5 := hts (.code Lib.Math.min.name Lib.Math.min.code 2 (some .int)) (List.mem_of_getElem? (i := 5) rfl)
  have w6 := hts (.fieldLink RX1 33 "DarkOffice$Lamps" "size" "I") (List.mem_of_getElem? (i := 6) rfl)
  have uX1 : ∀ w ∈ wsX10, w ∈ wsX1_read := fun _ h => List.mem_cons_of_mem _ (List.mem_append_right _ h)
  have w7 := hts (.fieldLink RX1 36 "DarkOffice$Page" "codes" "[I") (List.mem_of_getElem? (i := 7) rfl)
  have w8 := hts (.fieldLink RX1 9 "DarkOffice$Lamps" "kinds" "[I") (List.mem_of_getElem? (i := 8) rfl)
  have w9 := hts (.fieldLink RX1 15 "DarkOffice$Lamps" "holds" "[I") (List.mem_of_getElem? (i := 9) rfl)
  have w10 := hts (.fieldLink RX1 18 "DarkOffice$Lamps" "sees" "[I") (List.mem_of_getElem? (i := 10) rfl)
  refine lv_aload_n hx hb dX1_read_0 rfl (lv_at hl 0 rfl) ?_
  refine lv_bipush (v := 6) hx hb dX1_read_1 (by decide) ?_
  refine lv_aload_n hx hb dX1_read_3 rfl (lv_at hl 1 rfl) ?_
  refine va_get (D := D) (ci := 2) (v := .int (nI pl)) (C := RX2) (T := TX2) (N := 2) hx hb hts uX2 hown hK hP 0 rfl rfl 1 (by decide) w1 (fun _ h9 => h9) rfl dX1_read_4 ?_
  refine lv_iconst (v := 1) hx hb dX1_read_7 (by decide) ?_
  refine lv_iadd hx hb dX1_read_8 ?_
  refine lv_iconst (v := 3) hx hb dX1_read_9 (by decide) ?_
  refine lv_idiv hx hb dX1_read_10 (by decide) ?_
  refine va_mmin hx hb (hml.trans hl.1.symm) hown w2 w3 w4 w5 (Nat.le_of_ble_eq_true rfl) (Nat.le_of_ble_eq_true rfl) (Nat.zero_le _) (Nat.zero_le _) dX1_read_11 ?_
  refine tpi (y := nI (min 6 ((pl + 1) / 3))) (rd_min hpl) ?_
  refine va_put (D := D) (ci := 1) (v := .int (nI (min 6 ((pl + 1) / 3)))) (ty := .int) (C := RX1) (T := TX1) (N := 4) hx hb hts uX1 tyX1 tyX1_ok nmX1 hown hK hP hD hS 2 rfl rfl 3 (by decide) w6 (fun _ h9 => h9) rfl (by decide +kernel) rfl rfl (Nat.le_of_ble_eq_true rfl) dX1_read_14 (fun H locs hP hD hS => ?_)
  have hP : va_P D vwCl [(aP, .inr (2, [.ref aPc, .int (nI pl)])), (aPc, .inl (cI, 20, .inl co)), (aL, .inr (1, [.ref aLk, .ref aLh, .ref aLs, .int (nI (min 6 ((pl + 1) / 3)))])), (aLk, .inl (cI, 6, .inl kd)), (aLh, .inl (cI, 6, .inl ho)), (aLs, .inl (cI, 6, .inl sn))] H := hP
  have hD : va_D A [(aP, .inr (2, [.ref aPc, .int (nI pl)])), (aPc, .inl (cI, 20, .inl co)), (aL, .inr (1, [.ref aLk, .ref aLh, .ref aLs, .int (nI (min 6 ((pl + 1) / 3)))])), (aLk, .inl (cI, 6, .inl kd)), (aLh, .inl (cI, 6, .inl ho)), (aLs, .inl (cI, 6, .inl sn))] := hD
  refine lv_iconst (v := 0) hx hb dX1_read_17 (by decide) ?_
  refine lv_istore_n (lv' := [(2, .int 0), (0, .ref aL), (1, .ref aP)]) hx hb dX1_read_18 rfl hl (by decide) rfl (fun ls hl => ?_)
  have lp19 : ∀ (k19 i1 : Nat), i1 + k19 = min 6 ((pl + 1) / 3) → ∀ (H : Heap) (locs : List Loc), va_P D vwCl [(aP, .inr (2, [.ref aPc, .int (nI pl)])), (aPc, .inl (cI, 20, .inl co)), (aL, .inr (1, [.ref aLk, .ref aLh, .ref aLs, .int (nI (min 6 ((pl + 1) / 3)))])), (aLk, .inl (cI, 6, .inl ((f_X1_read_19_Lk co kd i1)))), (aLh, .inl (cI, 6, .inl ((f_X1_read_19_Lh co kd ho i1)))), (aLs, .inl (cI, 6, .inl ((f_X1_read_19_Ls pl co kd sn i1))))] H → va_D A [(aP, .inr (2, [.ref aPc, .int (nI pl)])), (aPc, .inl (cI, 20, .inl co)), (aL, .inr (1, [.ref aLk, .ref aLh, .ref aLs, .int (nI (min 6 ((pl + 1) / 3)))])), (aLk, .inl (cI, 6, .inl ((f_X1_read_19_Lk co kd i1)))), (aLh, .inl (cI, 6, .inl ((f_X1_read_19_Lh co kd ho i1)))), (aLs, .inl (cI, 6, .inl ((f_X1_read_19_Ls pl co kd sn i1))))] → va_S A s.heap H locs → ∀ ls : Array Slot, lv_has ls 5 [(0, .ref aL), (1, .ref aP), (2, .int (nI i1))] → W p l e rm_X1_read s m args below meth c H locs 0 0 Q (F0 m 19 ls []) := by
    intro k19
    induction k19 with
    | zero =>
      intro i1 hk19 H locs hP hD hS ls hl
      have hN19 : min 6 ((pl + 1) / 3) = i1 := by omega
      subst hN19
      refine lv_iload_n hx hb dX1_read_19 rfl (lv_at hl 2 rfl) ?_
      refine lv_aload_n hx hb dX1_read_20 rfl (lv_at hl 0 rfl) ?_
      refine va_get (D := D) (ci := 1) (v := .int (nI (min 6 ((pl + 1) / 3)))) (C := RX1) (T := TX1) (N := 4) hx hb hts uX1 hown hK hP 2 rfl rfl 3 (by decide) w6 (fun _ h9 => h9) rfl dX1_read_21 ?_
      refine lv_icmp_ge (tgt := 118) hx hb dX1_read_24 (by decide) (fun _ => ?_) (fun c => absurd (nle_t (a := min 6 ((pl + 1) / 3)) (b := (min 6 ((pl + 1) / 3))) rfl rfl (by omega) (by omega) (by omega)) c)
      have e_Lk : (f_X1_read_Lk pl co kd) = (f_X1_read_19_Lk co kd (min 6 ((pl + 1) / 3))) := (by simp only [f_X1_read_Lk])
      have e_Lh : (f_X1_read_Lh pl co kd ho) = (f_X1_read_19_Lh co kd ho (min 6 ((pl + 1) / 3))) := (by simp only [f_X1_read_Lh])
      have e_Ls : (f_X1_read_Ls pl co kd sn) = (f_X1_read_19_Ls pl co kd sn (min 6 ((pl + 1) / 3))) := (by simp only [f_X1_read_Ls])
      exact eXv hx hb hr hlk hQ (by rw [e_Lk, e_Lh, e_Ls]; exact hP) (by rw [e_Lk, e_Lh, e_Ls]; exact hD) hS dX1_read_118
    | succ k19 ih19 =>
      intro i1 hk19 H locs hP hD hS ls hl
      refine lv_iload_n hx hb dX1_read_19 rfl (lv_at hl 2 rfl) ?_
      refine lv_aload_n hx hb dX1_read_20 rfl (lv_at hl 0 rfl) ?_
      refine va_get (D := D) (ci := 1) (v := .int (nI (min 6 ((pl + 1) / 3)))) (C := RX1) (T := TX1) (N := 4) hx hb hts uX1 hown hK hP 2 rfl rfl 3 (by decide) w6 (fun _ h9 => h9) rfl dX1_read_21 ?_
      refine lv_icmp_ge (tgt := 118) hx hb dX1_read_24 (by decide) (fun c => absurd c (nle_f (a := min 6 ((pl + 1) / 3)) (b := i1) rfl rfl (by omega) (by omega) (by omega))) (fun _ => ?_)
      refine lv_iload_n hx hb dX1_read_27 rfl (lv_at hl 2 rfl) ?_
      refine lv_iconst (v := 3) hx hb dX1_read_28 (by decide) ?_
      refine lv_imul hx hb dX1_read_29 ?_
      refine lv_istore_n (lv' := [(3, .int (nI i1 * 3)), (0, .ref aL), (1, .ref aP), (2, .int (nI i1))]) hx hb dX1_read_30 rfl hl (by decide) rfl (fun ls hl => ?_)
      refine lv_aload_n hx hb dX1_read_31 rfl (lv_at hl 2 rfl) ?_
      refine va_get (D := D) (ci := 2) (v := .ref aPc) (C := RX2) (T := TX2) (N := 2) hx hb hts uX2 hown hK hP 0 rfl rfl 0 (by decide) w7 (fun _ h9 => h9) rfl dX1_read_32 ?_
      refine lv_iload_n hx hb dX1_read_35 rfl (lv_at hl 0 rfl) ?_
      refine lv_iconst (v := 1) hx hb dX1_read_36 (by decide) ?_
      refine lv_iadd hx hb dX1_read_37 ?_
      refine xald hx hb hK hP 1 rfl ((i1 * 3) + 1) (ix_add (ix_mul rfl rfl) rfl) (by omega) (by decide) dX1_read_38 ?_
      refine lv_bipush (v := 48) hx hb dX1_read_39 (by decide) ?_
      refine lv_isub hx hb dX1_read_41 ?_
      refine lv_istore (lv' := [(4, .int ((co ((i1 * 3) + 1)) - 48)), (3, .int (nI i1 * 3)), (0, .ref aL), (1, .ref aP), (2, .int (nI i1))]) hx hb dX1_read_42 hl (by decide) rfl (fun ls hl => ?_)
      refine lv_aload_n hx hb dX1_read_44 rfl (lv_at hl 2 rfl) ?_
      refine va_get (D := D) (ci := 1) (v := .ref aLk) (C := RX1) (T := TX1) (N := 4) hx hb hts uX1 hown hK hP 2 rfl rfl 0 (by decide) w8 (fun _ h9 => h9) rfl dX1_read_45 ?_
      refine lv_iload_n hx hb dX1_read_48 rfl (lv_at hl 4 rfl) ?_
      refine va_ldcS hx hb hown hZ.2.1 dX1_read_49 ?_
      refine lv_aload_n hx hb dX1_read_51 rfl (lv_at hl 3 rfl) ?_
      refine va_get (D := D) (ci := 2) (v := .ref aPc) (C := RX2) (T := TX2) (N := 2) hx hb hts uX2 hown hK hP 0 rfl rfl 0 (by decide) w7 (fun _ h9 => h9) rfl dX1_read_52 ?_
      refine lv_iload_n hx hb dX1_read_55 rfl (lv_at hl 1 rfl) ?_
      refine xald hx hb hK hP 1 rfl (i1 * 3) (ix_mul rfl rfl) (by omega) (by decide) dX1_read_56 ?_
      refine lv_i2c (v := ((co (i1 * 3)).toUInt32 % 65536).toInt32) hx hb dX1_read_57 rfl ?_
      refine rVT ⟨hx, hb, hml, hown, hts⟩ (c_J0_indexOf_0f7a4 l D cI aT aV (((co (i1 * 3)).toUInt32 % 65536).toInt32)) (cwV 1 hts gX1_read_J0_indexOf_0f7a4 rfl rfl rfl hd_J0_indexOf_0f7a4 ⟨Nat.le_of_ble_eq_true rfl, Nat.le_of_ble_eq_true rfl⟩) hK (hP.sub [] rfl) (hZ.low hS) rfl rfl hl.1 (rest := [.int (nI i1), .ref aLk]) (st' := [.int (f_J0_indexOf_0f7a4 (((co (i1 * 3)).toUInt32 % 65536).toInt32)), .int (nI i1), .ref aLk]) rfl rfl (Nat.le_of_ble_eq_true rfl) dX1_read_58 ⟨Nat.zero_le _, Nat.zero_le _⟩ ?_
      refine xast hx hb hK hP hD hS 3 rfl i1 rfl (by omega) (by decide) dX1_read_61 (fun H locs hP hD hS => ?_)
      have hP : va_P D vwCl [(aP, .inr (2, [.ref aPc, .int (nI pl)])), (aPc, .inl (cI, 20, .inl co)), (aL, .inr (1, [.ref aLk, .ref aLh, .ref aLs, .int (nI (min 6 ((pl + 1) / 3)))])), (aLk, .inl (cI, 6, .inl (upd (f_X1_read_19_Lk co kd i1) i1 (f_J0_indexOf_0f7a4 (((co (i1 * 3)).toUInt32 % 65536).toInt32))))), (aLh, .inl (cI, 6, .inl ((f_X1_read_19_Lh co kd ho i1)))), (aLs, .inl (cI, 6, .inl ((f_X1_read_19_Ls pl co kd sn i1))))] H := hP
      have hD : va_D A [(aP, .inr (2, [.ref aPc, .int (nI pl)])), (aPc, .inl (cI, 20, .inl co)), (aL, .inr (1, [.ref aLk, .ref aLh, .ref aLs, .int (nI (min 6 ((pl + 1) / 3)))])), (aLk, .inl (cI, 6, .inl (upd (f_X1_read_19_Lk co kd i1) i1 (f_J0_indexOf_0f7a4 (((co (i1 * 3)).toUInt32 % 65536).toInt32))))), (aLh, .inl (cI, 6, .inl ((f_X1_read_19_Lh co kd ho i1)))), (aLs, .inl (cI, 6, .inl ((f_X1_read_19_Ls pl co kd sn i1))))] := hD
      refine lv_aload_n hx hb dX1_read_62 rfl (lv_at hl 2 rfl) ?_
      refine va_get (D := D) (ci := 1) (v := .ref aLh) (C := RX1) (T := TX1) (N := 4) hx hb hts uX1 hown hK hP 2 rfl rfl 1 (by decide) w9 (fun _ h9 => h9) rfl dX1_read_63 ?_
      refine lv_iload_n hx hb dX1_read_66 rfl (lv_at hl 4 rfl) ?_
      refine lv_aload_n hx hb dX1_read_67 rfl (lv_at hl 2 rfl) ?_
      refine va_get (D := D) (ci := 1) (v := .ref aLk) (C := RX1) (T := TX1) (N := 4) hx hb hts uX1 hown hK hP 2 rfl rfl 0 (by decide) w8 (fun _ h9 => h9) rfl dX1_read_68 ?_
      refine lv_iload_n hx hb dX1_read_71 rfl (lv_at hl 4 rfl) ?_
      refine xald hx hb hK hP 3 rfl i1 rfl (by omega) (by decide) dX1_read_72 ?_
      refine lv_iconst (v := 3) hx hb dX1_read_73 (by decide) ?_
      refine lv_icmp_ne (tgt := 86) hx hb dX1_read_74 (by decide) (fun c1 => ?_) (fun c1 => ?_)
      · refine lv_iload hx hb dX1_read_86 (lv_at hl 0 rfl) ?_
        refine xast hx hb hK hP hD hS 4 rfl i1 rfl (by omega) (by decide) dX1_read_88 (fun H locs hP hD hS => ?_)
        have hP : va_P D vwCl [(aP, .inr (2, [.ref aPc, .int (nI pl)])), (aPc, .inl (cI, 20, .inl co)), (aL, .inr (1, [.ref aLk, .ref aLh, .ref aLs, .int (nI (min 6 ((pl + 1) / 3)))])), (aLk, .inl (cI, 6, .inl (upd (f_X1_read_19_Lk co kd i1) i1 (f_J0_indexOf_0f7a4 (((co (i1 * 3)).toUInt32 % 65536).toInt32))))), (aLh, .inl (cI, 6, .inl (upd (f_X1_read_19_Lh co kd ho i1) i1 ((co ((i1 * 3) + 1)) - 48)))), (aLs, .inl (cI, 6, .inl ((f_X1_read_19_Ls pl co kd sn i1))))] H := hP
        have hD : va_D A [(aP, .inr (2, [.ref aPc, .int (nI pl)])), (aPc, .inl (cI, 20, .inl co)), (aL, .inr (1, [.ref aLk, .ref aLh, .ref aLs, .int (nI (min 6 ((pl + 1) / 3)))])), (aLk, .inl (cI, 6, .inl (upd (f_X1_read_19_Lk co kd i1) i1 (f_J0_indexOf_0f7a4 (((co (i1 * 3)).toUInt32 % 65536).toInt32))))), (aLh, .inl (cI, 6, .inl (upd (f_X1_read_19_Lh co kd ho i1) i1 ((co ((i1 * 3) + 1)) - 48)))), (aLs, .inl (cI, 6, .inl ((f_X1_read_19_Ls pl co kd sn i1))))] := hD
        refine lv_aload_n hx hb dX1_read_89 rfl (lv_at hl 2 rfl) ?_
        refine va_get (D := D) (ci := 1) (v := .ref aLs) (C := RX1) (T := TX1) (N := 4) hx hb hts uX1 hown hK hP 2 rfl rfl 2 (by decide) w10 (fun _ h9 => h9) rfl dX1_read_90 ?_
        refine lv_iload_n hx hb dX1_read_93 rfl (lv_at hl 4 rfl) ?_
        refine lv_aload_n hx hb dX1_read_94 rfl (lv_at hl 2 rfl) ?_
        refine va_get (D := D) (ci := 1) (v := .ref aLk) (C := RX1) (T := TX1) (N := 4) hx hb hts uX1 hown hK hP 2 rfl rfl 0 (by decide) w8 (fun _ h9 => h9) rfl dX1_read_95 ?_
        refine lv_iload_n hx hb dX1_read_98 rfl (lv_at hl 4 rfl) ?_
        refine xald hx hb hK hP 3 rfl i1 rfl (by omega) (by decide) dX1_read_99 ?_
        refine lv_iconst (v := 1) hx hb dX1_read_100 (by decide) ?_
        refine lv_iload_n hx hb dX1_read_101 rfl (lv_at hl 4 rfl) ?_
        refine lv_ishl hx hb dX1_read_102 ?_
        refine rS ⟨hx, hb, hml, hown, hts⟩ (c_X1_seenBy l D cI ((upd (f_X1_read_19_Lk co kd i1) i1 (f_J0_indexOf_0f7a4 (((co (i1 * 3)).toUInt32 % 65536).toInt32))) i1) ((1 : Int32) <<< (nI i1 &&& 31))) (va_cwS 2 hts gX1_read_X1_seenBy rfl rfl rfl hd_X1_seenBy ⟨Nat.le_of_ble_eq_true rfl, Nat.le_of_ble_eq_true rfl⟩) hK (hP.sub [] rfl) rfl hl.1 (rest := [.int (nI i1), .ref aLs]) (st' := [.int (f_X1_seenBy ((upd (f_X1_read_19_Lk co kd i1) i1 (f_J0_indexOf_0f7a4 (((co (i1 * 3)).toUInt32 % 65536).toInt32))) i1) ((1 : Int32) <<< (nI i1 &&& 31))), .int (nI i1), .ref aLs]) rfl rfl (Nat.le_of_ble_eq_true rfl) dX1_read_103 ⟨Nat.zero_le _, Nat.zero_le _⟩ ?_
        refine lv_aload_n hx hb dX1_read_106 rfl (lv_at hl 2 rfl) ?_
        refine rV ⟨hx, hb, hml, hown, hts⟩ (c_X1_allOnes l D cI aL aLk aLh aLs (min 6 ((pl + 1) / 3))) (cwV 0 hts gX1_read_X1_allOnes rfl rfl rfl hd_X1_allOnes ⟨Nat.le_of_ble_eq_true rfl, Nat.le_of_ble_eq_true rfl⟩) hK (hP.sub [2] rfl) 0 rfl rfl rfl rfl hl.1 (rest := [.int (f_X1_seenBy ((upd (f_X1_read_19_Lk co kd i1) i1 (f_J0_indexOf_0f7a4 (((co (i1 * 3)).toUInt32 % 65536).toInt32))) i1) ((1 : Int32) <<< (nI i1 &&& 31))), .int (nI i1), .ref aLs]) (st' := [.int (f_X1_allOnes (min 6 ((pl + 1) / 3))), .int (f_X1_seenBy ((upd (f_X1_read_19_Lk co kd i1) i1 (f_J0_indexOf_0f7a4 (((co (i1 * 3)).toUInt32 % 65536).toInt32))) i1) ((1 : Int32) <<< (nI i1 &&& 31))), .int (nI i1), .ref aLs]) rfl rfl (Nat.le_of_ble_eq_true rfl) dX1_read_107 ⟨Nat.zero_le _, Nat.zero_le _⟩ ?_
        refine lv_iand hx hb dX1_read_110 ?_
        refine xast hx hb hK hP hD hS 5 rfl i1 rfl (by omega) (by decide) dX1_read_111 (fun H locs hP hD hS => ?_)
        have hP : va_P D vwCl [(aP, .inr (2, [.ref aPc, .int (nI pl)])), (aPc, .inl (cI, 20, .inl co)), (aL, .inr (1, [.ref aLk, .ref aLh, .ref aLs, .int (nI (min 6 ((pl + 1) / 3)))])), (aLk, .inl (cI, 6, .inl (upd (f_X1_read_19_Lk co kd i1) i1 (f_J0_indexOf_0f7a4 (((co (i1 * 3)).toUInt32 % 65536).toInt32))))), (aLh, .inl (cI, 6, .inl (upd (f_X1_read_19_Lh co kd ho i1) i1 ((co ((i1 * 3) + 1)) - 48)))), (aLs, .inl (cI, 6, .inl (upd (f_X1_read_19_Ls pl co kd sn i1) i1 ((f_X1_seenBy ((upd (f_X1_read_19_Lk co kd i1) i1 (f_J0_indexOf_0f7a4 (((co (i1 * 3)).toUInt32 % 65536).toInt32))) i1) ((1 : Int32) <<< (nI i1 &&& 31))) &&& (f_X1_allOnes (min 6 ((pl + 1) / 3)))))))] H := hP
        have hD : va_D A [(aP, .inr (2, [.ref aPc, .int (nI pl)])), (aPc, .inl (cI, 20, .inl co)), (aL, .inr (1, [.ref aLk, .ref aLh, .ref aLs, .int (nI (min 6 ((pl + 1) / 3)))])), (aLk, .inl (cI, 6, .inl (upd (f_X1_read_19_Lk co kd i1) i1 (f_J0_indexOf_0f7a4 (((co (i1 * 3)).toUInt32 % 65536).toInt32))))), (aLh, .inl (cI, 6, .inl (upd (f_X1_read_19_Lh co kd ho i1) i1 ((co ((i1 * 3) + 1)) - 48)))), (aLs, .inl (cI, 6, .inl (upd (f_X1_read_19_Ls pl co kd sn i1) i1 ((f_X1_seenBy ((upd (f_X1_read_19_Lk co kd i1) i1 (f_J0_indexOf_0f7a4 (((co (i1 * 3)).toUInt32 % 65536).toInt32))) i1) ((1 : Int32) <<< (nI i1 &&& 31))) &&& (f_X1_allOnes (min 6 ((pl + 1) / 3)))))))] := hD
        refine lv_iinc (v := nI (i1 + 1)) (lv' := [(2, .int (nI (i1 + 1))), (4, .int ((co ((i1 * 3) + 1)) - 48)), (3, .int (nI i1 * 3)), (0, .ref aL), (1, .ref aP)]) hx hb dX1_read_112 hl (k := 4) rfl (nI_add i1 1) (by decide) rfl (fun ls hl => ?_)
        refine lv_goto (tgt := 19) hx hb dX1_read_115 (by decide) ?_
        have e_Lk : (f_X1_read_19_Lk co kd (i1 + 1)) = (upd (f_X1_read_19_Lk co kd i1) i1 (f_J0_indexOf_0f7a4 (((co (i1 * 3)).toUInt32 % 65536).toInt32))) := (by simp only [f_X1_read_19_Lk, if_neg c1])
        have e_Lh : (f_X1_read_19_Lh co kd ho (i1 + 1)) = (upd (f_X1_read_19_Lh co kd ho i1) i1 ((co ((i1 * 3) + 1)) - 48)) := (by simp only [f_X1_read_19_Lh, if_neg c1])
        have e_Ls : (f_X1_read_19_Ls pl co kd sn (i1 + 1)) = (upd (f_X1_read_19_Ls pl co kd sn i1) i1 ((f_X1_seenBy ((upd (f_X1_read_19_Lk co kd i1) i1 (f_J0_indexOf_0f7a4 (((co (i1 * 3)).toUInt32 % 65536).toInt32))) i1) ((1 : Int32) <<< (nI i1 &&& 31))) &&& (f_X1_allOnes (min 6 ((pl + 1) / 3))))) := (by simp only [f_X1_read_19_Ls, if_neg c1])
        exact ih19 (i1 + 1) (by omega) _ _ (by rw [e_Lk, e_Lh, e_Ls]; exact hP) (by rw [e_Lk, e_Lh, e_Ls]; exact hD) hS ls (lv_sub hl [3, 4, 0] rfl)
      · refine lv_iload hx hb dX1_read_77 (lv_at hl 0 rfl) ?_
        refine lv_iconst (v := 1) hx hb dX1_read_79 (by decide) ?_
        refine lv_iadd hx hb dX1_read_80 ?_
        refine lv_iconst (v := 2) hx hb dX1_read_81 (by decide) ?_
        refine lv_idiv hx hb dX1_read_82 (by decide) ?_
        refine lv_goto (tgt := 88) hx hb dX1_read_83 (by decide) ?_
        refine xast hx hb hK hP hD hS 4 rfl i1 rfl (by omega) (by decide) dX1_read_88 (fun H locs hP hD hS => ?_)
        have hP : va_P D vwCl [(aP, .inr (2, [.ref aPc, .int (nI pl)])), (aPc, .inl (cI, 20, .inl co)), (aL, .inr (1, [.ref aLk, .ref aLh, .ref aLs, .int (nI (min 6 ((pl + 1) / 3)))])), (aLk, .inl (cI, 6, .inl (upd (f_X1_read_19_Lk co kd i1) i1 (f_J0_indexOf_0f7a4 (((co (i1 * 3)).toUInt32 % 65536).toInt32))))), (aLh, .inl (cI, 6, .inl (upd (f_X1_read_19_Lh co kd ho i1) i1 ((((co ((i1 * 3) + 1)) - 48) + 1) / 2)))), (aLs, .inl (cI, 6, .inl ((f_X1_read_19_Ls pl co kd sn i1))))] H := hP
        have hD : va_D A [(aP, .inr (2, [.ref aPc, .int (nI pl)])), (aPc, .inl (cI, 20, .inl co)), (aL, .inr (1, [.ref aLk, .ref aLh, .ref aLs, .int (nI (min 6 ((pl + 1) / 3)))])), (aLk, .inl (cI, 6, .inl (upd (f_X1_read_19_Lk co kd i1) i1 (f_J0_indexOf_0f7a4 (((co (i1 * 3)).toUInt32 % 65536).toInt32))))), (aLh, .inl (cI, 6, .inl (upd (f_X1_read_19_Lh co kd ho i1) i1 ((((co ((i1 * 3) + 1)) - 48) + 1) / 2)))), (aLs, .inl (cI, 6, .inl ((f_X1_read_19_Ls pl co kd sn i1))))] := hD
        refine lv_aload_n hx hb dX1_read_89 rfl (lv_at hl 2 rfl) ?_
        refine va_get (D := D) (ci := 1) (v := .ref aLs) (C := RX1) (T := TX1) (N := 4) hx hb hts uX1 hown hK hP 2 rfl rfl 2 (by decide) w10 (fun _ h9 => h9) rfl dX1_read_90 ?_
        refine lv_iload_n hx hb dX1_read_93 rfl (lv_at hl 4 rfl) ?_
        refine lv_aload_n hx hb dX1_read_94 rfl (lv_at hl 2 rfl) ?_
        refine va_get (D := D) (ci := 1) (v := .ref aLk) (C := RX1) (T := TX1) (N := 4) hx hb hts uX1 hown hK hP 2 rfl rfl 0 (by decide) w8 (fun _ h9 => h9) rfl dX1_read_95 ?_
        refine lv_iload_n hx hb dX1_read_98 rfl (lv_at hl 4 rfl) ?_
        refine xald hx hb hK hP 3 rfl i1 rfl (by omega) (by decide) dX1_read_99 ?_
        refine lv_iconst (v := 1) hx hb dX1_read_100 (by decide) ?_
        refine lv_iload_n hx hb dX1_read_101 rfl (lv_at hl 4 rfl) ?_
        refine lv_ishl hx hb dX1_read_102 ?_
        refine rS ⟨hx, hb, hml, hown, hts⟩ (c_X1_seenBy l D cI ((upd (f_X1_read_19_Lk co kd i1) i1 (f_J0_indexOf_0f7a4 (((co (i1 * 3)).toUInt32 % 65536).toInt32))) i1) ((1 : Int32) <<< (nI i1 &&& 31))) (va_cwS 2 hts gX1_read_X1_seenBy rfl rfl rfl hd_X1_seenBy ⟨Nat.le_of_ble_eq_true rfl, Nat.le_of_ble_eq_true rfl⟩) hK (hP.sub [] rfl) rfl hl.1 (rest := [.int (nI i1), .ref aLs]) (st' := [.int (f_X1_seenBy ((upd (f_X1_read_19_Lk co kd i1) i1 (f_J0_indexOf_0f7a4 (((co (i1 * 3)).toUInt32 % 65536).toInt32))) i1) ((1 : Int32) <<< (nI i1 &&& 31))), .int (nI i1), .ref aLs]) rfl rfl (Nat.le_of_ble_eq_true rfl) dX1_read_103 ⟨Nat.zero_le _, Nat.zero_le _⟩ ?_
        refine lv_aload_n hx hb dX1_read_106 rfl (lv_at hl 2 rfl) ?_
        refine rV ⟨hx, hb, hml, hown, hts⟩ (c_X1_allOnes l D cI aL aLk aLh aLs (min 6 ((pl + 1) / 3))) (cwV 0 hts gX1_read_X1_allOnes rfl rfl rfl hd_X1_allOnes ⟨Nat.le_of_ble_eq_true rfl, Nat.le_of_ble_eq_true rfl⟩) hK (hP.sub [2] rfl) 0 rfl rfl rfl rfl hl.1 (rest := [.int (f_X1_seenBy ((upd (f_X1_read_19_Lk co kd i1) i1 (f_J0_indexOf_0f7a4 (((co (i1 * 3)).toUInt32 % 65536).toInt32))) i1) ((1 : Int32) <<< (nI i1 &&& 31))), .int (nI i1), .ref aLs]) (st' := [.int (f_X1_allOnes (min 6 ((pl + 1) / 3))), .int (f_X1_seenBy ((upd (f_X1_read_19_Lk co kd i1) i1 (f_J0_indexOf_0f7a4 (((co (i1 * 3)).toUInt32 % 65536).toInt32))) i1) ((1 : Int32) <<< (nI i1 &&& 31))), .int (nI i1), .ref aLs]) rfl rfl (Nat.le_of_ble_eq_true rfl) dX1_read_107 ⟨Nat.zero_le _, Nat.zero_le _⟩ ?_
        refine lv_iand hx hb dX1_read_110 ?_
        refine xast hx hb hK hP hD hS 5 rfl i1 rfl (by omega) (by decide) dX1_read_111 (fun H locs hP hD hS => ?_)
        have hP : va_P D vwCl [(aP, .inr (2, [.ref aPc, .int (nI pl)])), (aPc, .inl (cI, 20, .inl co)), (aL, .inr (1, [.ref aLk, .ref aLh, .ref aLs, .int (nI (min 6 ((pl + 1) / 3)))])), (aLk, .inl (cI, 6, .inl (upd (f_X1_read_19_Lk co kd i1) i1 (f_J0_indexOf_0f7a4 (((co (i1 * 3)).toUInt32 % 65536).toInt32))))), (aLh, .inl (cI, 6, .inl (upd (f_X1_read_19_Lh co kd ho i1) i1 ((((co ((i1 * 3) + 1)) - 48) + 1) / 2)))), (aLs, .inl (cI, 6, .inl (upd (f_X1_read_19_Ls pl co kd sn i1) i1 ((f_X1_seenBy ((upd (f_X1_read_19_Lk co kd i1) i1 (f_J0_indexOf_0f7a4 (((co (i1 * 3)).toUInt32 % 65536).toInt32))) i1) ((1 : Int32) <<< (nI i1 &&& 31))) &&& (f_X1_allOnes (min 6 ((pl + 1) / 3)))))))] H := hP
        have hD : va_D A [(aP, .inr (2, [.ref aPc, .int (nI pl)])), (aPc, .inl (cI, 20, .inl co)), (aL, .inr (1, [.ref aLk, .ref aLh, .ref aLs, .int (nI (min 6 ((pl + 1) / 3)))])), (aLk, .inl (cI, 6, .inl (upd (f_X1_read_19_Lk co kd i1) i1 (f_J0_indexOf_0f7a4 (((co (i1 * 3)).toUInt32 % 65536).toInt32))))), (aLh, .inl (cI, 6, .inl (upd (f_X1_read_19_Lh co kd ho i1) i1 ((((co ((i1 * 3) + 1)) - 48) + 1) / 2)))), (aLs, .inl (cI, 6, .inl (upd (f_X1_read_19_Ls pl co kd sn i1) i1 ((f_X1_seenBy ((upd (f_X1_read_19_Lk co kd i1) i1 (f_J0_indexOf_0f7a4 (((co (i1 * 3)).toUInt32 % 65536).toInt32))) i1) ((1 : Int32) <<< (nI i1 &&& 31))) &&& (f_X1_allOnes (min 6 ((pl + 1) / 3)))))))] := hD
        refine lv_iinc (v := nI (i1 + 1)) (lv' := [(2, .int (nI (i1 + 1))), (4, .int ((co ((i1 * 3) + 1)) - 48)), (3, .int (nI i1 * 3)), (0, .ref aL), (1, .ref aP)]) hx hb dX1_read_112 hl (k := 4) rfl (nI_add i1 1) (by decide) rfl (fun ls hl => ?_)
        refine lv_goto (tgt := 19) hx hb dX1_read_115 (by decide) ?_
        have e_Lk : (f_X1_read_19_Lk co kd (i1 + 1)) = (upd (f_X1_read_19_Lk co kd i1) i1 (f_J0_indexOf_0f7a4 (((co (i1 * 3)).toUInt32 % 65536).toInt32))) := (by simp only [f_X1_read_19_Lk, if_pos c1])
        have e_Lh : (f_X1_read_19_Lh co kd ho (i1 + 1)) = (upd (f_X1_read_19_Lh co kd ho i1) i1 ((((co ((i1 * 3) + 1)) - 48) + 1) / 2)) := (by simp only [f_X1_read_19_Lh, if_pos c1])
        have e_Ls : (f_X1_read_19_Ls pl co kd sn (i1 + 1)) = (upd (f_X1_read_19_Ls pl co kd sn i1) i1 ((f_X1_seenBy ((upd (f_X1_read_19_Lk co kd i1) i1 (f_J0_indexOf_0f7a4 (((co (i1 * 3)).toUInt32 % 65536).toInt32))) i1) ((1 : Int32) <<< (nI i1 &&& 31))) &&& (f_X1_allOnes (min 6 ((pl + 1) / 3))))) := (by simp only [f_X1_read_19_Ls, if_pos c1])
        exact ih19 (i1 + 1) (by omega) _ _ (by rw [e_Lk, e_Lh, e_Ls]; exact hP) (by rw [e_Lk, e_Lh, e_Ls]; exact hD) hS ls (lv_sub hl [3, 4, 0] rfl)
  exact lp19 (min 6 ((pl + 1) / 3)) 0 (by omega) _ _ hP hD hS ls (lv_sub hl [1, 2, 0] rfl)

def rm_X4_office : Room := { frames := 7, cells := 0, slots := 0, locals := 153 }
def f_X4_office (pl : Nat) (co : Nat → Int32) : Int32 := (if (f_X2_isOffice pl co) = 0 then (-103) else nI (min 6 ((pl + 1) / 3)))
def f_X4_office_O_7 (ik : Int32) (pl : Nat) (co : Nat → Int32) : Int32 := (if (f_X2_isOffice pl co) = 0 then ik else 0)
def f_X4_office_O_8 (ofr : Int32) (pl : Nat) (co : Nat → Int32) : Int32 := (if (f_X2_isOffice pl co) = 0 then ofr else (ofr + 1))
def f_X4_office_P_1 (pl : Nat) (co : Nat → Int32) : Int32 := (if (f_X2_isOffice pl co) = 0 then nI pl else 0)
def f_X4_office_L_3 (pl : Nat) (co : Nat → Int32) (nl : Nat) : Int32 := (if (f_X2_isOffice pl co) = 0 then nI nl else nI (min 6 ((pl + 1) / 3)))
def f_X4_office_Lk (pl : Nat) (co : Nat → Int32) (kd : Nat → Int32) : Nat → Int32 := (if (f_X2_isOffice pl co) = 0 then kd else (f_X1_read_Lk pl co kd))
def f_X4_office_Lh (pl : Nat) (co : Nat → Int32) (kd : Nat → Int32) (ho : Nat → Int32) : Nat → Int32 := (if (f_X2_isOffice pl co) = 0 then ho else (f_X1_read_Lh pl co kd ho))
def f_X4_office_Ls (pl : Nat) (co : Nat → Int32) (kd : Nat → Int32) (sn : Nat → Int32) : Nat → Int32 := (if (f_X2_isOffice pl co) = 0 then sn else (f_X1_read_Ls pl co kd sn))
def f_X4_office_E_0 (pl : Nat) (co : Nat → Int32) (li : Int32) : Int32 := (if (f_X2_isOffice pl co) = 0 then li else 0)
def f_X4_office_E_1 (pl : Nat) (co : Nat → Int32) (mi : Int32) : Int32 := (if (f_X2_isOffice pl co) = 0 then mi else 0)
def f_X4_office_E_2 (pl : Nat) (co : Nat → Int32) (pe : Nat) : Int32 := (if (f_X2_isOffice pl co) = 0 then nI pe else 0)
def f_X4_office_E_6 (pl : Nat) (co : Nat → Int32) (to : Int32) : Int32 := (if (f_X2_isOffice pl co) = 0 then to else 0)
def f_X4_office_El (pl : Nat) (co : Nat → Int32) (tl : Nat → Int32) : Nat → Int32 := (if (f_X2_isOffice pl co) = 0 then tl else (f_X0_begin_El tl))
def f_X4_office_Et (pl : Nat) (co : Nat → Int32) (td : Nat → Int32) : Nat → Int32 := (if (f_X2_isOffice pl co) = 0 then td else (f_X0_begin_Et td))
theorem hd_X4_office : yX4_office.cls = RX4 ∧ yX4_office.cls ≠ "java/lang/invoke/MethodHandle" ∧ yX4_office.cls ≠ "java/lang/invoke/VarHandle" ∧ (parseMethodDescriptor yX4_office.desc).map (fun d => d.parameters.length) = some 0 := by decide +kernel
set_option maxHeartbeats 4000000 in
set_option maxRecDepth 100000 in
theorem c_X4_office (l : Launch) (D : va_G) (cI : ClassId) (aT aV : Nat) (aO aP aPc aL aLk aLh aLs aE aEs aEw aEd aEl aEt aK aY aN aS : Nat) (ik : Int32) (ofr : Int32) (rd : Int32) (pl : Nat) (co : Nat → Int32) (nl : Nat) (kd : Nat → Int32) (ho : Nat → Int32) (sn : Nat → Int32) (li : Int32) (mi : Int32) (pe : Nat) (to : Int32) (tl : Nat → Int32) (td : Nat → Int32) (hpl : pl ≤ 20) : MetXZ l yX4_office wsX4_office rm_X4_office D cI aT aV [.ref aO] [(aO, .inr (4, [.ref aP, .ref aL, .ref aE, .ref aK, .ref aY, .ref aN, .ref aS, .int ik, .int ofr, .int rd])), (aP, .inr (2, [.ref aPc, .int (nI pl)])), (aPc, .inl (cI, 20, .inl co)), (aL, .inr (1, [.ref aLk, .ref aLh, .ref aLs, .int (nI nl)])), (aLk, .inl (cI, 6, .inl kd)), (aLh, .inl (cI, 6, .inl ho)), (aLs, .inl (cI, 6, .inl sn)), (aE, .inr (0, [.int li, .int mi, .int (nI pe), .ref aEs, .ref aEw, .ref aEd, .int to, .ref aEl, .ref aEt])), (aEl, .inl (cI, 7, .inl tl)), (aEt, .inl (cI, 7, .inl td))] (some (.int (f_X4_office pl co))) [(aO, .inr (4, [.ref aP, .ref aL, .ref aE, .ref aK, .ref aY, .ref aN, .ref aS, .int (f_X4_office_O_7 ik pl co), .int (f_X4_office_O_8 ofr pl co), .int rd])), (aP, .inr (2, [.ref aPc, .int (f_X4_office_P_1 pl co)])), (aPc, .inl (cI, 20, .inl co)), (aL, .inr (1, [.ref aLk, .ref aLh, .ref aLs, .int (f_X4_office_L_3 pl co nl)])), (aLk, .inl (cI, 6, .inl (f_X4_office_Lk pl co kd))), (aLh, .inl (cI, 6, .inl (f_X4_office_Lh pl co kd ho))), (aLs, .inl (cI, 6, .inl (f_X4_office_Ls pl co kd sn))), (aE, .inr (0, [.int (f_X4_office_E_0 pl co li), .int (f_X4_office_E_1 pl co mi), .int (f_X4_office_E_2 pl co pe), .ref aEs, .ref aEw, .ref aEd, .int (f_X4_office_E_6 pl co to), .ref aEl, .ref aEt])), (aEl, .inl (cI, 7, .inl (f_X4_office_El pl co tl))), (aEt, .inl (cI, 7, .inl (f_X4_office_Et pl co td)))] := by
  refine mXZ (cc := cX4_office) (maxL := 1) (ret := (some .int)) (by decide) rfl (Nat.le_of_ble_eq_true rfl) ?_
  intro p e s m args below meth c Q A hx hb hr hml hown hts hlk hP hK hD hA hS hZ hQ ls hl
  have hown : s.vm.findClass RX4 = some m.cls := hown
  have hl : lv_has ls 1 [(0, .ref aO)] := hl
  have w1 := hts (.fieldLink RX4 10 "DarkOffice" "page" "LDarkOffice$Page;") (List.mem_of_getElem? (i := 1) rfl)
  have uX4 : ∀ w ∈ wsX40, w ∈ wsX4_office := fun _ h => List.mem_cons_of_mem _ (List.mem_append_left _ (List.mem_append_left _ (List.mem_append_left _ (List.mem_append_right _ h))))
  have w2 := hts (.fieldLink RX4 19 "DarkOffice" "lamps" "LDarkOffice$Lamps;") (List.mem_of_getElem? (i := 2) rfl)
  have w3 := hts (.fieldLink RX4 51 "DarkOffice$Page" "length" "I") (List.mem_of_getElem? (i := 3) rfl)
  have uX2 : ∀ w ∈ wsX20, w ∈ wsX4_office := fun _ h => List.mem_cons_of_mem _ (List.mem_append_left _ (List.mem_append_left _ (List.mem_append_right _ h)))
  have w4 := hts (.fieldLink RX4 26 "DarkOffice" "now" "LDarkOffice$Evening;") (List.mem_of_getElem? (i := 4) rfl)
  have w5 := hts (.fieldLink RX4 70 "DarkOffice" "imageKept" "Z") (List.mem_of_getElem? (i := 5) rfl)
  have w6 := hts (.fieldLink RX4 74 "DarkOffice" "officesRead" "I") (List.mem_of_getElem? (i := 6) rfl)
  have w7 := hts (.fieldLink RX4 77 "DarkOffice$Lamps" "size" "I") (List.mem_of_getElem? (i := 7) rfl)
  have uX1 : ∀ w ∈ wsX10, w ∈ wsX4_office := fun _ h => List.mem_cons_of_mem _ (List.mem_append_left _ (List.mem_append_right _ h))
  refine lv_aload_n hx hb dX4_office_0 rfl (lv_at hl 0 rfl) ?_
  refine va_get (D := D) (ci := 4) (v := .ref aP) (C := RX4) (T := TX4) (N := 10) hx hb hts uX4 hown hK hP 0 rfl rfl 0 (by decide) w1 (fun _ h9 => h9) rfl dX4_office_1 ?_
  refine rVZ ⟨hx, hb, hml, hown, hts⟩ (c_X2_isOffice l D cI aT aV aP aPc pl co hpl) (cwV 0 hts gX4_office_X2_isOffice rfl rfl rfl hd_X2_isOffice ⟨Nat.le_of_ble_eq_true rfl, Nat.le_of_ble_eq_true rfl⟩) hK (hP.sub [1, 2] rfl) (hZ.low hS) 0 rfl rfl rfl rfl hl.1 (rest := []) (st' := [.int (f_X2_isOffice pl co)]) rfl rfl (Nat.le_of_ble_eq_true rfl) dX4_office_4 ⟨Nat.zero_le _, Nat.zero_le _⟩ ?_
  refine lv_if_ne (tgt := 13) hx hb dX4_office_7 (by decide) (fun c1 => ?_) (fun c1 => ?_)
  · refine lv_aload_n hx hb dX4_office_13 rfl (lv_at hl 0 rfl) ?_
    refine va_get (D := D) (ci := 4) (v := .ref aL) (C := RX4) (T := TX4) (N := 10) hx hb hts uX4 hown hK hP 0 rfl rfl 1 (by decide) w2 (fun _ h9 => h9) rfl dX4_office_14 ?_
    refine lv_aload_n hx hb dX4_office_17 rfl (lv_at hl 0 rfl) ?_
    refine va_get (D := D) (ci := 4) (v := .ref aP) (C := RX4) (T := TX4) (N := 10) hx hb hts uX4 hown hK hP 0 rfl rfl 0 (by decide) w1 (fun _ h9 => h9) rfl dX4_office_18 ?_
    refine xVZ (w2 := [(aO, .inr (4, [.ref aP, .ref aL, .ref aE, .ref aK, .ref aY, .ref aN, .ref aS, .int ik, .int ofr, .int rd])), (aP, .inr (2, [.ref aPc, .int (nI pl)])), (aPc, .inl (cI, 20, .inl co)), (aL, .inr (1, [.ref aLk, .ref aLh, .ref aLs, .int (nI (min 6 ((pl + 1) / 3)))])), (aLk, .inl (cI, 6, .inl (f_X1_read_Lk pl co kd))), (aLh, .inl (cI, 6, .inl (f_X1_read_Lh pl co kd ho))), (aLs, .inl (cI, 6, .inl (f_X1_read_Ls pl co kd sn))), (aE, .inr (0, [.int li, .int mi, .int (nI pe), .ref aEs, .ref aEw, .ref aEd, .int to, .ref aEl, .ref aEt])), (aEl, .inl (cI, 7, .inl tl)), (aEt, .inl (cI, 7, .inl td))]) ⟨hx, hb, hml, hown, hts⟩ (c_X1_read l D cI aT aV aP aPc aL aLk aLh aLs pl co nl kd ho sn hpl) (cwV 1 hts gX4_office_X1_read rfl rfl rfl hd_X1_read ⟨Nat.le_of_ble_eq_true rfl, Nat.le_of_ble_eq_true rfl⟩) hK hP hD hS hA [1, 2, 3, 4, 5, 6] [0, 7, 8, 9] [0, 4, 5, 6, 7, 8, 9, 1, 2, 3] rfl rfl rfl rfl rfl (by decide) rfl rfl rfl (hZ.keep hS) 2 rfl rfl rfl rfl hl.1 (rest := []) (st' := []) rfl rfl (Nat.le_of_ble_eq_true rfl) dX4_office_21 ⟨Nat.zero_le _, Nat.zero_le _⟩ (fun H locs hP hD hS => ?_)
    refine lv_aload_n hx hb dX4_office_24 rfl (lv_at hl 0 rfl) ?_
    refine va_get (D := D) (ci := 4) (v := .ref aP) (C := RX4) (T := TX4) (N := 10) hx hb hts uX4 hown hK hP 0 rfl rfl 0 (by decide) w1 (fun _ h9 => h9) rfl dX4_office_25 ?_
    refine lv_iconst (v := 0) hx hb dX4_office_28 (by decide) ?_
    refine va_put (D := D) (ci := 2) (v := .int 0) (ty := .int) (C := RX2) (T := TX2) (N := 2) hx hb hts uX2 tyX2 tyX2_ok nmX2 hown hK hP hD hS 1 rfl rfl 1 (by decide) w3 (fun _ h9 => h9) rfl (by decide +kernel) rfl rfl (Nat.le_of_ble_eq_true rfl) dX4_office_29 (fun H locs hP hD hS => ?_)
    have hP : va_P D vwCl [(aO, .inr (4, [.ref aP, .ref aL, .ref aE, .ref aK, .ref aY, .ref aN, .ref aS, .int ik, .int ofr, .int rd])), (aP, .inr (2, [.ref aPc, .int 0])), (aPc, .inl (cI, 20, .inl co)), (aL, .inr (1, [.ref aLk, .ref aLh, .ref aLs, .int (nI (min 6 ((pl + 1) / 3)))])), (aLk, .inl (cI, 6, .inl (f_X1_read_Lk pl co kd))), (aLh, .inl (cI, 6, .inl (f_X1_read_Lh pl co kd ho))), (aLs, .inl (cI, 6, .inl (f_X1_read_Ls pl co kd sn))), (aE, .inr (0, [.int li, .int mi, .int (nI pe), .ref aEs, .ref aEw, .ref aEd, .int to, .ref aEl, .ref aEt])), (aEl, .inl (cI, 7, .inl tl)), (aEt, .inl (cI, 7, .inl td))] H := hP
    have hD : va_D A [(aO, .inr (4, [.ref aP, .ref aL, .ref aE, .ref aK, .ref aY, .ref aN, .ref aS, .int ik, .int ofr, .int rd])), (aP, .inr (2, [.ref aPc, .int 0])), (aPc, .inl (cI, 20, .inl co)), (aL, .inr (1, [.ref aLk, .ref aLh, .ref aLs, .int (nI (min 6 ((pl + 1) / 3)))])), (aLk, .inl (cI, 6, .inl (f_X1_read_Lk pl co kd))), (aLh, .inl (cI, 6, .inl (f_X1_read_Lh pl co kd ho))), (aLs, .inl (cI, 6, .inl (f_X1_read_Ls pl co kd sn))), (aE, .inr (0, [.int li, .int mi, .int (nI pe), .ref aEs, .ref aEw, .ref aEd, .int to, .ref aEl, .ref aEt])), (aEl, .inl (cI, 7, .inl tl)), (aEt, .inl (cI, 7, .inl td))] := hD
    refine lv_aload_n hx hb dX4_office_32 rfl (lv_at hl 0 rfl) ?_
    refine va_get (D := D) (ci := 4) (v := .ref aE) (C := RX4) (T := TX4) (N := 10) hx hb hts uX4 hown hK hP 0 rfl rfl 2 (by decide) w4 (fun _ h9 => h9) rfl dX4_office_33 ?_
    refine xV (w2 := [(aO, .inr (4, [.ref aP, .ref aL, .ref aE, .ref aK, .ref aY, .ref aN, .ref aS, .int ik, .int ofr, .int rd])), (aP, .inr (2, [.ref aPc, .int 0])), (aPc, .inl (cI, 20, .inl co)), (aL, .inr (1, [.ref aLk, .ref aLh, .ref aLs, .int (nI (min 6 ((pl + 1) / 3)))])), (aLk, .inl (cI, 6, .inl (f_X1_read_Lk pl co kd))), (aLh, .inl (cI, 6, .inl (f_X1_read_Lh pl co kd ho))), (aLs, .inl (cI, 6, .inl (f_X1_read_Ls pl co kd sn))), (aE, .inr (0, [.int 0, .int 0, .int 0, .ref aEs, .ref aEw, .ref aEd, .int 0, .ref aEl, .ref aEt])), (aEl, .inl (cI, 7, .inl (f_X0_begin_El tl))), (aEt, .inl (cI, 7, .inl (f_X0_begin_Et td)))]) ⟨hx, hb, hml, hown, hts⟩ (c_X0_begin l D cI aE aEs aEw aEd aEl aEt li mi pe to tl td) (cwV 0 hts gX4_office_X0_begin rfl rfl rfl hd_X0_begin ⟨Nat.le_of_ble_eq_true rfl, Nat.le_of_ble_eq_true rfl⟩) hK hP hD hS hA [7, 8, 9] [0, 1, 2, 3, 4, 5, 6] [0, 1, 2, 3, 4, 5, 6, 7, 8, 9] rfl rfl rfl rfl rfl (by decide) rfl rfl rfl 0 rfl rfl rfl rfl hl.1 (rest := []) (st' := []) rfl rfl (Nat.le_of_ble_eq_true rfl) dX4_office_36 ⟨Nat.zero_le _, Nat.zero_le _⟩ (fun H locs hP hD hS => ?_)
    refine lv_aload_n hx hb dX4_office_39 rfl (lv_at hl 0 rfl) ?_
    refine lv_iconst (v := 0) hx hb dX4_office_40 (by decide) ?_
    refine va_put (D := D) (ci := 4) (v := .int 0) (ty := .boolean) (C := RX4) (T := TX4) (N := 10) hx hb hts uX4 tyX4 tyX4_ok nmX4 hown hK hP hD hS 0 rfl rfl 7 (by decide) w5 (fun _ h9 => h9) rfl (by decide +kernel) rfl rfl (Nat.le_of_ble_eq_true rfl) dX4_office_41 (fun H locs hP hD hS => ?_)
    have hP : va_P D vwCl [(aO, .inr (4, [.ref aP, .ref aL, .ref aE, .ref aK, .ref aY, .ref aN, .ref aS, .int 0, .int ofr, .int rd])), (aP, .inr (2, [.ref aPc, .int 0])), (aPc, .inl (cI, 20, .inl co)), (aL, .inr (1, [.ref aLk, .ref aLh, .ref aLs, .int (nI (min 6 ((pl + 1) / 3)))])), (aLk, .inl (cI, 6, .inl (f_X1_read_Lk pl co kd))), (aLh, .inl (cI, 6, .inl (f_X1_read_Lh pl co kd ho))), (aLs, .inl (cI, 6, .inl (f_X1_read_Ls pl co kd sn))), (aE, .inr (0, [.int 0, .int 0, .int 0, .ref aEs, .ref aEw, .ref aEd, .int 0, .ref aEl, .ref aEt])), (aEl, .inl (cI, 7, .inl (f_X0_begin_El tl))), (aEt, .inl (cI, 7, .inl (f_X0_begin_Et td)))] H := hP
    have hD : va_D A [(aO, .inr (4, [.ref aP, .ref aL, .ref aE, .ref aK, .ref aY, .ref aN, .ref aS, .int 0, .int ofr, .int rd])), (aP, .inr (2, [.ref aPc, .int 0])), (aPc, .inl (cI, 20, .inl co)), (aL, .inr (1, [.ref aLk, .ref aLh, .ref aLs, .int (nI (min 6 ((pl + 1) / 3)))])), (aLk, .inl (cI, 6, .inl (f_X1_read_Lk pl co kd))), (aLh, .inl (cI, 6, .inl (f_X1_read_Lh pl co kd ho))), (aLs, .inl (cI, 6, .inl (f_X1_read_Ls pl co kd sn))), (aE, .inr (0, [.int 0, .int 0, .int 0, .ref aEs, .ref aEw, .ref aEd, .int 0, .ref aEl, .ref aEt])), (aEl, .inl (cI, 7, .inl (f_X0_begin_El tl))), (aEt, .inl (cI, 7, .inl (f_X0_begin_Et td)))] := hD
    refine lv_aload_n hx hb dX4_office_44 rfl (lv_at hl 0 rfl) ?_
    refine lv_dup hx hb dX4_office_45 rfl ?_
    refine va_get (D := D) (ci := 4) (v := .int ofr) (C := RX4) (T := TX4) (N := 10) hx hb hts uX4 hown hK hP 0 rfl rfl 8 (by decide) w6 (fun _ h9 => h9) rfl dX4_office_46 ?_
    refine lv_iconst (v := 1) hx hb dX4_office_49 (by decide) ?_
    refine lv_iadd hx hb dX4_office_50 ?_
    refine va_put (D := D) (ci := 4) (v := .int (ofr + 1)) (ty := .int) (C := RX4) (T := TX4) (N := 10) hx hb hts uX4 tyX4 tyX4_ok nmX4 hown hK hP hD hS 0 rfl rfl 8 (by decide) w6 (fun _ h9 => h9) rfl (by decide +kernel) rfl rfl (Nat.le_of_ble_eq_true rfl) dX4_office_51 (fun H locs hP hD hS => ?_)
    have hP : va_P D vwCl [(aO, .inr (4, [.ref aP, .ref aL, .ref aE, .ref aK, .ref aY, .ref aN, .ref aS, .int 0, .int (ofr + 1), .int rd])), (aP, .inr (2, [.ref aPc, .int 0])), (aPc, .inl (cI, 20, .inl co)), (aL, .inr (1, [.ref aLk, .ref aLh, .ref aLs, .int (nI (min 6 ((pl + 1) / 3)))])), (aLk, .inl (cI, 6, .inl (f_X1_read_Lk pl co kd))), (aLh, .inl (cI, 6, .inl (f_X1_read_Lh pl co kd ho))), (aLs, .inl (cI, 6, .inl (f_X1_read_Ls pl co kd sn))), (aE, .inr (0, [.int 0, .int 0, .int 0, .ref aEs, .ref aEw, .ref aEd, .int 0, .ref aEl, .ref aEt])), (aEl, .inl (cI, 7, .inl (f_X0_begin_El tl))), (aEt, .inl (cI, 7, .inl (f_X0_begin_Et td)))] H := hP
    have hD : va_D A [(aO, .inr (4, [.ref aP, .ref aL, .ref aE, .ref aK, .ref aY, .ref aN, .ref aS, .int 0, .int (ofr + 1), .int rd])), (aP, .inr (2, [.ref aPc, .int 0])), (aPc, .inl (cI, 20, .inl co)), (aL, .inr (1, [.ref aLk, .ref aLh, .ref aLs, .int (nI (min 6 ((pl + 1) / 3)))])), (aLk, .inl (cI, 6, .inl (f_X1_read_Lk pl co kd))), (aLh, .inl (cI, 6, .inl (f_X1_read_Lh pl co kd ho))), (aLs, .inl (cI, 6, .inl (f_X1_read_Ls pl co kd sn))), (aE, .inr (0, [.int 0, .int 0, .int 0, .ref aEs, .ref aEw, .ref aEd, .int 0, .ref aEl, .ref aEt])), (aEl, .inl (cI, 7, .inl (f_X0_begin_El tl))), (aEt, .inl (cI, 7, .inl (f_X0_begin_Et td)))] := hD
    refine lv_aload_n hx hb dX4_office_54 rfl (lv_at hl 0 rfl) ?_
    refine va_get (D := D) (ci := 4) (v := .ref aL) (C := RX4) (T := TX4) (N := 10) hx hb hts uX4 hown hK hP 0 rfl rfl 1 (by decide) w2 (fun _ h9 => h9) rfl dX4_office_55 ?_
    refine va_get (D := D) (ci := 1) (v := .int (nI (min 6 ((pl + 1) / 3)))) (C := RX1) (T := TX1) (N := 4) hx hb hts uX1 hown hK hP 3 rfl rfl 3 (by decide) w7 (fun _ h9 => h9) rfl dX4_office_58 ?_
    have e_O_7 : (f_X4_office_O_7 ik pl co) = 0 := (by simp only [f_X4_office_O_7, if_neg c1])
    have e_O_8 : (f_X4_office_O_8 ofr pl co) = (ofr + 1) := (by simp only [f_X4_office_O_8, if_neg c1])
    have e_P_1 : (f_X4_office_P_1 pl co) = 0 := (by simp only [f_X4_office_P_1, if_neg c1])
    have e_L_3 : (f_X4_office_L_3 pl co nl) = nI (min 6 ((pl + 1) / 3)) := (by simp only [f_X4_office_L_3, if_neg c1])
    have e_Lk : (f_X4_office_Lk pl co kd) = (f_X1_read_Lk pl co kd) := (by simp only [f_X4_office_Lk, if_neg c1])
    have e_Lh : (f_X4_office_Lh pl co kd ho) = (f_X1_read_Lh pl co kd ho) := (by simp only [f_X4_office_Lh, if_neg c1])
    have e_Ls : (f_X4_office_Ls pl co kd sn) = (f_X1_read_Ls pl co kd sn) := (by simp only [f_X4_office_Ls, if_neg c1])
    have e_E_0 : (f_X4_office_E_0 pl co li) = 0 := (by simp only [f_X4_office_E_0, if_neg c1])
    have e_E_1 : (f_X4_office_E_1 pl co mi) = 0 := (by simp only [f_X4_office_E_1, if_neg c1])
    have e_E_2 : (f_X4_office_E_2 pl co pe) = 0 := (by simp only [f_X4_office_E_2, if_neg c1])
    have e_E_6 : (f_X4_office_E_6 pl co to) = 0 := (by simp only [f_X4_office_E_6, if_neg c1])
    have e_El : (f_X4_office_El pl co tl) = (f_X0_begin_El tl) := (by simp only [f_X4_office_El, if_neg c1])
    have e_Et : (f_X4_office_Et pl co td) = (f_X0_begin_Et td) := (by simp only [f_X4_office_Et, if_neg c1])
    exact eXi hx hb hr hlk hQ (by rw [e_O_7, e_O_8, e_P_1, e_L_3, e_Lk, e_Lh, e_Ls, e_E_0, e_E_1, e_E_2, e_E_6, e_El, e_Et]; exact hP) (by rw [e_O_7, e_O_8, e_P_1, e_L_3, e_Lk, e_Lh, e_Ls, e_E_0, e_E_1, e_E_2, e_E_6, e_El, e_Et]; exact hD) hS dX4_office_61 (Eq.symm (by simp only [f_X4_office, if_neg c1]))
  · refine lv_bipush (v := (-103)) hx hb dX4_office_10 (by decide) ?_
    have e_O_7 : (f_X4_office_O_7 ik pl co) = ik := (by simp only [f_X4_office_O_7, if_pos c1])
    have e_O_8 : (f_X4_office_O_8 ofr pl co) = ofr := (by simp only [f_X4_office_O_8, if_pos c1])
    have e_P_1 : (f_X4_office_P_1 pl co) = nI pl := (by simp only [f_X4_office_P_1, if_pos c1])
    have e_L_3 : (f_X4_office_L_3 pl co nl) = nI nl := (by simp only [f_X4_office_L_3, if_pos c1])
    have e_Lk : (f_X4_office_Lk pl co kd) = kd := (by simp only [f_X4_office_Lk, if_pos c1])
    have e_Lh : (f_X4_office_Lh pl co kd ho) = ho := (by simp only [f_X4_office_Lh, if_pos c1])
    have e_Ls : (f_X4_office_Ls pl co kd sn) = sn := (by simp only [f_X4_office_Ls, if_pos c1])
    have e_E_0 : (f_X4_office_E_0 pl co li) = li := (by simp only [f_X4_office_E_0, if_pos c1])
    have e_E_1 : (f_X4_office_E_1 pl co mi) = mi := (by simp only [f_X4_office_E_1, if_pos c1])
    have e_E_2 : (f_X4_office_E_2 pl co pe) = nI pe := (by simp only [f_X4_office_E_2, if_pos c1])
    have e_E_6 : (f_X4_office_E_6 pl co to) = to := (by simp only [f_X4_office_E_6, if_pos c1])
    have e_El : (f_X4_office_El pl co tl) = tl := (by simp only [f_X4_office_El, if_pos c1])
    have e_Et : (f_X4_office_Et pl co td) = td := (by simp only [f_X4_office_Et, if_pos c1])
    exact eXi hx hb hr hlk hQ (by rw [e_O_7, e_O_8, e_P_1, e_L_3, e_Lk, e_Lh, e_Ls, e_E_0, e_E_1, e_E_2, e_E_6, e_El, e_Et]; exact hP) (by rw [e_O_7, e_O_8, e_P_1, e_L_3, e_Lk, e_Lh, e_Ls, e_E_0, e_E_1, e_E_2, e_E_6, e_El, e_Et]; exact hD) hS dX4_office_12 (Eq.symm (by simp only [f_X4_office, if_pos c1]))
