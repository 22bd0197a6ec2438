def rm_X1_left : Room := { frames := 0, cells := 0, slots := 0, locals := 0 }
def f_X1_left (lamp : Int32) (lit : Int32) : Int32 := ((lit >>> ((4 * lamp) &&& 31)) &&& 15)
theorem hd_X1_left : yX1_left.cls ≠ "java/lang/invoke/MethodHandle" ∧ yX1_left.cls ≠ "java/lang/invoke/VarHandle" ∧ (parseMethodDescriptor yX1_left.desc).map (fun d => d.parameters.length) = some 2 := by decide +kernel
set_option maxHeartbeats 4000000 in
set_option maxRecDepth 100000 in
theorem c_X1_left (l : Launch) (D : va_G) (cI : ClassId) (lamp : Int32) (lit : Int32) : MetR l yX1_left wsX1_left rm_X1_left D cI [.int lit, .int lamp] [] (some (.int (f_X1_left lamp lit))) := by
  refine mR (cc := cX1_left) (maxL := 2) (ret := (some .int)) (by decide) rfl (Nat.le_of_ble_eq_true rfl) ?_
  intro p e s m args below meth c Q hx hb hr hml hown hts hlk hP hK hQ ls hl
  have hown : s.vm.findClass RX1 = some m.cls := hown
  have hl : lv_has ls 2 [(0, .int lit), (1, .int lamp)] := hl
  refine lv_iload_n hx hb dX1_left_0 rfl (lv_at hl 0 rfl) ?_
  refine lv_iconst (v := 4) hx hb dX1_left_1 (by decide) ?_
  refine lv_iload_n hx hb dX1_left_2 rfl (lv_at hl 1 rfl) ?_
  refine lv_imul hx hb dX1_left_3 ?_
  refine lv_ishr hx hb dX1_left_4 ?_
  refine lv_bipush (v := 15) hx hb dX1_left_5 (by decide) ?_
  refine lv_iand hx hb dX1_left_7 ?_
  exact eRi hx hb hr hlk hQ dX1_left_8 (Eq.symm (by simp only [f_X1_left]))

def rm_X1_litOnes : Room := { frames := 1, cells := 0, slots := 0, locals := 21 }
def f_X1_litOnes_4_v2 (lit : Int32) : Nat → Int32
  | 0 => 0
  | i1 + 1 => (if (f_X1_left (nI i1) lit) ≤ 0 then ((f_X1_litOnes_4_v2 lit i1) ||| 0) else ((f_X1_litOnes_4_v2 lit i1) ||| (1 <<< (nI i1 &&& 31))))
def f_X1_litOnes (nl : Nat) (lit : Int32) : Int32 := (f_X1_litOnes_4_v2 lit nl)
theorem hd_X1_litOnes : yX1_litOnes.cls = RX1 ∧ yX1_litOnes.cls ≠ "java/lang/invoke/MethodHandle" ∧ yX1_litOnes.cls ≠ "java/lang/invoke/VarHandle" ∧ (parseMethodDescriptor yX1_litOnes.desc).map (fun d => d.parameters.length) = some 1 := by decide +kernel
set_option maxHeartbeats 4000000 in
set_option maxRecDepth 100000 in
theorem c_X1_litOnes (l : Launch) (D : va_G) (cI : ClassId) (aL aLk aLh aLs : Nat) (nl : Nat) (lit : Int32) (hn : nl ≤ 6) : MetR l yX1_litOnes wsX1_litOnes rm_X1_litOnes D cI [.ref aL, .int lit] [(aL, .inr (1, [.ref aLk, .ref aLh, .ref aLs, .int (nI nl)]))] (some (.int (f_X1_litOnes nl lit))) := by
  refine mR (cc := cX1_litOnes) (maxL := 4) (ret := (some .int)) (by decide) rfl (Nat.le_of_ble_eq_true rfl) ?_
  intro p e s m args below meth c Q hx hb hr hml hown hts hlk hP hK hQ ls hl
  have hown : s.vm.findClass RX1 = some m.cls := hown
  have hl : lv_has ls 4 [(0, .ref aL), (1, .int lit)] := hl
  have w1 := hts (.fieldLink RX1 33 "DarkOffice$Lamps" "size" "I") (List.mem_of_getElem? (i := 1) rfl)
  have uX1 : ∀ w ∈ wsX10, w ∈ wsX1_litOnes := fun _ h => List.mem_cons_of_mem _ (List.mem_append_right _ h)
  refine lv_iconst (v := 0) hx hb dX1_litOnes_0 (by decide) ?_
  refine lv_istore_n (lv' := [(2, .int 0), (0, .ref aL), (1, .int lit)]) hx hb dX1_litOnes_1 rfl hl (by decide) rfl (fun ls hl => ?_)
  refine lv_iconst (v := 0) hx hb dX1_litOnes_2 (by decide) ?_
  refine lv_istore_n (lv' := [(3, .int 0), (2, .int 0), (0, .ref aL), (1, .int lit)]) hx hb dX1_litOnes_3 rfl hl (by decide) rfl (fun ls hl => ?_)
  have lp4 : ∀ (k4 i1 : Nat), i1 + k4 = nl → ∀ ls : Array Slot, lv_has ls 4 [(0, .ref aL), (1, .int lit), (2, .int ((f_X1_litOnes_4_v2 lit i1))), (3, .int (nI i1))] → W p l e rm_X1_litOnes s m args below meth c s.heap [] 0 0 Q (F0 m 4 ls []) := by
    intro k4
    induction k4 with
    | zero =>
      intro i1 hk4 ls hl
      have hN4 : nl = i1 := by omega
      subst hN4
      refine lv_iload_n hx hb dX1_litOnes_4 rfl (lv_at hl 3 rfl) ?_
      refine lv_aload_n hx hb dX1_litOnes_5 rfl (lv_at hl 0 rfl) ?_
      refine va_get (D := D) (ci := 1) (v := .int (nI nl)) (C := RX1) (T := TX1) (N := 4) hx hb hts uX1 hown hK hP 0 rfl rfl 3 (by decide) w1 (fun _ h9 => h9) rfl dX1_litOnes_6 ?_
      refine lv_icmp_ge (tgt := 36) hx hb dX1_litOnes_9 (by decide) (fun _ => ?_) (fun c => absurd (nle_t rfl rfl (by omega) (by omega) (by omega)) c)
      refine lv_iload_n hx hb dX1_litOnes_36 rfl (lv_at hl 2 rfl) ?_
      exact eRi hx hb hr hlk hQ dX1_litOnes_37 (Eq.symm (by simp only [f_X1_litOnes]))
    | succ k4 ih4 =>
      intro i1 hk4 ls hl
      refine lv_iload_n hx hb dX1_litOnes_4 rfl (lv_at hl 3 rfl) ?_
      refine lv_aload_n hx hb dX1_litOnes_5 rfl (lv_at hl 0 rfl) ?_
      refine va_get (D := D) (ci := 1) (v := .int (nI nl)) (C := RX1) (T := TX1) (N := 4) hx hb hts uX1 hown hK hP 0 rfl rfl 3 (by decide) w1 (fun _ h9 => h9) rfl dX1_litOnes_6 ?_
      refine lv_icmp_ge (tgt := 36) hx hb dX1_litOnes_9 (by decide) (fun c => absurd c (nle_f rfl rfl (by omega) (by omega) (by omega))) (fun _ => ?_)
      refine lv_iload_n hx hb dX1_litOnes_12 rfl (lv_at hl 2 rfl) ?_
      refine lv_iload_n hx hb dX1_litOnes_13 rfl (lv_at hl 1 rfl) ?_
      refine lv_iload_n hx hb dX1_litOnes_14 rfl (lv_at hl 3 rfl) ?_
      refine rS ⟨hx, hb, hml, hown, hts⟩ (c_X1_left l D cI (nI i1) lit) (va_cwS 2 hts gX1_litOnes_X1_left rfl rfl rfl hd_X1_left ⟨Nat.le_of_ble_eq_true rfl, Nat.le_of_ble_eq_true rfl⟩) hK (hP.sub [] rfl) rfl hl.1 (rest := [.int ((f_X1_litOnes_4_v2 lit i1))]) (st' := [.int (f_X1_left (nI i1) lit), .int ((f_X1_litOnes_4_v2 lit i1))]) rfl rfl (Nat.le_of_ble_eq_true rfl) dX1_litOnes_15 ⟨Nat.zero_le _, Nat.zero_le _⟩ ?_
      refine lv_if_le (tgt := 27) hx hb dX1_litOnes_18 (by decide) (fun c1 => ?_) (fun c1 => ?_)
      · refine lv_iconst (v := 0) hx hb dX1_litOnes_27 (by decide) ?_
        refine lv_ior hx hb dX1_litOnes_28 ?_
        refine lv_istore_n (lv' := [(2, .int ((f_X1_litOnes_4_v2 lit i1) ||| 0)), (0, .ref aL), (1, .int lit), (3, .int (nI i1))]) hx hb dX1_litOnes_29 rfl hl (by decide) rfl (fun ls hl => ?_)
        refine lv_iinc (v := nI (i1 + 1)) (lv' := [(3, .int (nI (i1 + 1))), (2, .int ((f_X1_litOnes_4_v2 lit i1) ||| 0)), (0, .ref aL), (1, .int lit)]) hx hb dX1_litOnes_30 hl (k := 3) rfl (nI_add i1 1) (by decide) rfl (fun ls hl => ?_)
        refine lv_goto (tgt := 4) hx hb dX1_litOnes_33 (by decide) ?_
        have e_v2 : (f_X1_litOnes_4_v2 lit (i1 + 1)) = ((f_X1_litOnes_4_v2 lit i1) ||| 0) := (by simp only [f_X1_litOnes_4_v2, if_pos c1])
        exact ih4 (i1 + 1) (by omega) ls (by rw [e_v2]; exact lv_sub hl [2, 3, 1, 0] rfl)
      · refine lv_iconst (v := 1) hx hb dX1_litOnes_21 (by decide) ?_
        refine lv_iload_n hx hb dX1_litOnes_22 rfl (lv_at hl 3 rfl) ?_
        refine lv_ishl hx hb dX1_litOnes_23 ?_
        refine lv_goto (tgt := 28) hx hb dX1_litOnes_24 (by decide) ?_
        refine lv_ior hx hb dX1_litOnes_28 ?_
        refine lv_istore_n (lv' := [(2, .int ((f_X1_litOnes_4_v2 lit i1) ||| (1 <<< (nI i1 &&& 31)))), (0, .ref aL), (1, .int lit), (3, .int (nI i1))]) hx hb dX1_litOnes_29 rfl hl (by decide) rfl (fun ls hl => ?_)
        refine lv_iinc (v := nI (i1 + 1)) (lv' := [(3, .int (nI (i1 + 1))), (2, .int ((f_X1_litOnes_4_v2 lit i1) ||| (1 <<< (nI i1 &&& 31)))), (0, .ref aL), (1, .int lit)]) hx hb dX1_litOnes_30 hl (k := 3) rfl (nI_add i1 1) (by decide) rfl (fun ls hl => ?_)
        refine lv_goto (tgt := 4) hx hb dX1_litOnes_33 (by decide) ?_
        have e_v2 : (f_X1_litOnes_4_v2 lit (i1 + 1)) = ((f_X1_litOnes_4_v2 lit i1) ||| (1 <<< (nI i1 &&& 31))) := (by simp only [f_X1_litOnes_4_v2, if_neg c1])
        exact ih4 (i1 + 1) (by omega) ls (by rw [e_v2]; exact lv_sub hl [2, 3, 1, 0] rfl)
  exact lp4 nl 0 (by omega) ls (lv_sub hl [2, 3, 1, 0] rfl)

def rm_X1_after : Room := { frames := 1, cells := 0, slots := 0, locals := 21 }
def f_X1_after_5_v3 (ho : Nat → Int32) (sn : Nat → Int32) (lit : Int32) (stirred : Int32) : Nat → Int32
  | 0 => 0
  | i1 + 1 => (if ((sn i1) &&& stirred) = 0 then ((f_X1_after_5_v3 ho sn lit stirred i1) ||| ((if 0 < ((f_X1_left (nI i1) lit) - 1) then ((f_X1_left (nI i1) lit) - 1) else 0) <<< ((4 * nI i1) &&& 31))) else ((f_X1_after_5_v3 ho sn lit stirred i1) ||| ((ho i1) <<< ((4 * nI i1) &&& 31))))
def f_X1_after (nl : Nat) (ho : Nat → Int32) (sn : Nat → Int32) (lit : Int32) (stirred : Int32) : Int32 := (f_X1_after_5_v3 ho sn lit stirred nl)
theorem hd_X1_after : yX1_after.cls = RX1 ∧ yX1_after.cls ≠ "java/lang/invoke/MethodHandle" ∧ yX1_after.cls ≠ "java/lang/invoke/VarHandle" ∧ (parseMethodDescriptor yX1_after.desc).map (fun d => d.parameters.length) = some 2 := by decide +kernel
set_option maxHeartbeats 4000000 in
set_option maxRecDepth 100000 in
theorem c_X1_after (l : Launch) (D : va_G) (cI : ClassId) (aL aLk aLh aLs : Nat) (nl : Nat) (ho : Nat → Int32) (sn : Nat → Int32) (lit : Int32) (stirred : Int32) (hn : nl ≤ 6) : MetR l yX1_after wsX1_after rm_X1_after D cI [.ref aL, .int lit, .int stirred] [(aL, .inr (1, [.ref aLk, .ref aLh, .ref aLs, .int (nI nl)])), (aLh, .inl (cI, 6, .inl ho)), (aLs, .inl (cI, 6, .inl sn))] (some (.int (f_X1_after nl ho sn lit stirred))) := by
  refine mR (cc := cX1_after) (maxL := 6) (ret := (some .int)) (by decide) rfl (Nat.le_of_ble_eq_true rfl) ?_
  intro p e s m args below meth c Q hx hb hr hml hown hts hlk hP hK hQ ls hl
  have hown : s.vm.findClass RX1 = some m.cls := hown
  have hl : lv_has ls 6 [(0, .ref aL), (1, .int lit), (2, .int stirred)] := hl
  have w1 := hts (.fieldLink RX1 33 "DarkOffice$Lamps" "size" "I") (List.mem_of_getElem? (i := 1) rfl)
  have uX1 : ∀ w ∈ wsX10, w ∈ wsX1_after := fun _ h => List.mem_cons_of_mem _ (List.mem_append_right _ h)
  have w2 := hts (.fieldLink RX1 18 "DarkOffice$Lamps" "sees" "[I") (List.mem_of_getElem? (i := 2) rfl)
  have w4 := hts (.methodLink RX1 57 Lib.Math.max.name) (List.mem_of_getElem? (i := 4) rfl)
  have w5 := hts (.static Lib.Math.max.name) (List.mem_of_getElem? (i := 5) rfl)
  have w6 := hts (.initialized "java/lang/Math") (List.mem_of_getElem? (i := 6) rfl)
  have w7 := hts (.code Lib.Math.max.name Lib.Math.max.code 2 (some .int)) (List.mem_of_getElem? (i := 7) rfl)
  have w3 := hts (.fieldLink RX1 15 "DarkOffice$Lamps" "holds" "[I") (List.mem_of_getElem? (i := 3) rfl)
  refine lv_iconst (v := 0) hx hb dX1_after_0 (by decide) ?_
  refine lv_istore_n (lv' := [(3, .int 0), (0, .ref aL), (1, .int lit), (2, .int stirred)]) hx hb dX1_after_1 rfl hl (by decide) rfl (fun ls hl => ?_)
  refine lv_iconst (v := 0) hx hb dX1_after_2 (by decide) ?_
  refine lv_istore (lv' := [(4, .int 0), (3, .int 0), (0, .ref aL), (1, .int lit), (2, .int stirred)]) hx hb dX1_after_3 hl (by decide) rfl (fun ls hl => ?_)
  have lp5 : ∀ (k5 i1 : Nat), i1 + k5 = nl → ∀ ls : Array Slot, lv_has ls 6 [(0, .ref aL), (1, .int lit), (2, .int stirred), (3, .int ((f_X1_after_5_v3 ho sn lit stirred i1))), (4, .int (nI i1))] → W p l e rm_X1_after s m args below meth c s.heap [] 0 0 Q (F0 m 5 ls []) := by
    intro k5
    induction k5 with
    | zero =>
      intro i1 hk5 ls hl
      have hN5 : nl = i1 := by omega
      subst hN5
      refine lv_iload hx hb dX1_after_5 (lv_at hl 4 rfl) ?_
      refine lv_aload_n hx hb dX1_after_7 rfl (lv_at hl 0 rfl) ?_
      refine va_get (D := D) (ci := 1) (v := .int (nI nl)) (C := RX1) (T := TX1) (N := 4) hx hb hts uX1 hown hK hP 0 rfl rfl 3 (by decide) w1 (fun _ h9 => h9) rfl dX1_after_8 ?_
      refine lv_icmp_ge (tgt := 66) hx hb dX1_after_11 (by decide) (fun _ => ?_) (fun c => absurd (nle_t rfl rfl (by omega) (by omega) (by omega)) c)
      refine lv_iload_n hx hb dX1_after_66 rfl (lv_at hl 3 rfl) ?_
      exact eRi hx hb hr hlk hQ dX1_after_67 (Eq.symm (by simp only [f_X1_after]))
    | succ k5 ih5 =>
      intro i1 hk5 ls hl
      refine lv_iload hx hb dX1_after_5 (lv_at hl 4 rfl) ?_
      refine lv_aload_n hx hb dX1_after_7 rfl (lv_at hl 0 rfl) ?_
      refine va_get (D := D) (ci := 1) (v := .int (nI nl)) (C := RX1) (T := TX1) (N := 4) hx hb hts uX1 hown hK hP 0 rfl rfl 3 (by decide) w1 (fun _ h9 => h9) rfl dX1_after_8 ?_
      refine lv_icmp_ge (tgt := 66) hx hb dX1_after_11 (by decide) (fun c => absurd c (nle_f rfl rfl (by omega) (by omega) (by omega))) (fun _ => ?_)
      refine lv_aload_n hx hb dX1_after_14 rfl (lv_at hl 0 rfl) ?_
      refine va_get (D := D) (ci := 1) (v := .ref aLs) (C := RX1) (T := TX1) (N := 4) hx hb hts uX1 hown hK hP 0 rfl rfl 2 (by decide) w2 (fun _ h9 => h9) rfl dX1_after_15 ?_
      refine lv_iload hx hb dX1_after_18 (lv_at hl 4 rfl) ?_
      refine xald hx hb hK hP 2 rfl i1 rfl (by omega) (by decide) dX1_after_20 ?_
      refine lv_iload_n hx hb dX1_after_21 rfl (lv_at hl 2 rfl) ?_
      refine lv_iand hx hb dX1_after_22 ?_
      refine lv_if_eq (tgt := 36) hx hb dX1_after_23 (by decide) (fun c1 => ?_) (fun c1 => ?_)
      · refine lv_iconst (v := 0) hx hb dX1_after_36 (by decide) ?_
        refine lv_iload_n hx hb dX1_after_37 rfl (lv_at hl 1 rfl) ?_
        refine lv_iload hx hb dX1_after_38 (lv_at hl 4 rfl) ?_
        refine rS ⟨hx, hb, hml, hown, hts⟩ (c_X1_left l D cI (nI i1) lit) (va_cwS 2 hts gX1_after_X1_left rfl rfl rfl hd_X1_left ⟨Nat.le_of_ble_eq_true rfl, Nat.le_of_ble_eq_true rfl⟩) hK (hP.sub [] rfl) rfl hl.1 (rest := [.int 0]) (st' := [.int (f_X1_left (nI i1) lit), .int 0]) rfl rfl (Nat.le_of_ble_eq_true rfl) dX1_after_40 ⟨Nat.zero_le _, Nat.zero_le _⟩ ?_
        refine lv_iconst (v := 1) hx hb dX1_after_43 (by decide) ?_
        refine lv_isub hx hb dX1_after_44 ?_
        refine va_mmax hx hb (hml.trans hl.1.symm) hown w4 w5 w6 w7 (Nat.le_of_ble_eq_true rfl) (Nat.le_of_ble_eq_true rfl) (Nat.zero_le _) (Nat.zero_le _) dX1_after_45 ?_
        refine lv_istore (lv' := [(5, .int (if 0 < ((f_X1_left (nI i1) lit) - 1) then ((f_X1_left (nI i1) lit) - 1) else 0)), (0, .ref aL), (1, .int lit), (2, .int stirred), (3, .int ((f_X1_after_5_v3 ho sn lit stirred i1))), (4, .int (nI i1))]) hx hb dX1_after_48 hl (by decide) rfl (fun ls hl => ?_)
        refine lv_iload_n hx hb dX1_after_50 rfl (lv_at hl 4 rfl) ?_
        refine lv_iload hx hb dX1_after_51 (lv_at hl 0 rfl) ?_
        refine lv_iconst (v := 4) hx hb dX1_after_53 (by decide) ?_
        refine lv_iload hx hb dX1_after_54 (lv_at hl 5 rfl) ?_
        refine lv_imul hx hb dX1_after_56 ?_
        refine lv_ishl hx hb dX1_after_57 ?_
        refine lv_ior hx hb dX1_after_58 ?_
        refine lv_istore_n (lv' := [(3, .int ((f_X1_after_5_v3 ho sn lit stirred i1) ||| ((if 0 < ((f_X1_left (nI i1) lit) - 1) then ((f_X1_left (nI i1) lit) - 1) else 0) <<< ((4 * nI i1) &&& 31)))), (5, .int (if 0 < ((f_X1_left (nI i1) lit) - 1) then ((f_X1_left (nI i1) lit) - 1) else 0)), (0, .ref aL), (1, .int lit), (2, .int stirred), (4, .int (nI i1))]) hx hb dX1_after_59 rfl hl (by decide) rfl (fun ls hl => ?_)
        refine lv_iinc (v := nI (i1 + 1)) (lv' := [(4, .int (nI (i1 + 1))), (3, .int ((f_X1_after_5_v3 ho sn lit stirred i1) ||| ((if 0 < ((f_X1_left (nI i1) lit) - 1) then ((f_X1_left (nI i1) lit) - 1) else 0) <<< ((4 * nI i1) &&& 31)))), (5, .int (if 0 < ((f_X1_left (nI i1) lit) - 1) then ((f_X1_left (nI i1) lit) - 1) else 0)), (0, .ref aL), (1, .int lit), (2, .int stirred)]) hx hb dX1_after_60 hl (k := 5) rfl (nI_add i1 1) (by decide) rfl (fun ls hl => ?_)
        refine lv_goto (tgt := 5) hx hb dX1_after_63 (by decide) ?_
        have e_v3 : (f_X1_after_5_v3 ho sn lit stirred (i1 + 1)) = ((f_X1_after_5_v3 ho sn lit stirred i1) ||| ((if 0 < ((f_X1_left (nI i1) lit) - 1) then ((f_X1_left (nI i1) lit) - 1) else 0) <<< ((4 * nI i1) &&& 31))) := (by simp only [f_X1_after_5_v3, if_pos c1])
        exact ih5 (i1 + 1) (by omega) ls (by rw [e_v3]; exact lv_sub hl [3, 4, 5, 1, 0] rfl)
      · refine lv_aload_n hx hb dX1_after_26 rfl (lv_at hl 0 rfl) ?_
        refine va_get (D := D) (ci := 1) (v := .ref aLh) (C := RX1) (T := TX1) (N := 4) hx hb hts uX1 hown hK hP 0 rfl rfl 1 (by decide) w3 (fun _ h9 => h9) rfl dX1_after_27 ?_
        refine lv_iload hx hb dX1_after_30 (lv_at hl 4 rfl) ?_
        refine xald hx hb hK hP 1 rfl i1 rfl (by omega) (by decide) dX1_after_32 ?_
        refine lv_goto (tgt := 48) hx hb dX1_after_33 (by decide) ?_
        refine lv_istore (lv' := [(5, .int (ho i1)), (0, .ref aL), (1, .int lit), (2, .int stirred), (3, .int ((f_X1_after_5_v3 ho sn lit stirred i1))), (4, .int (nI i1))]) hx hb dX1_after_48 hl (by decide) rfl (fun ls hl => ?_)
        refine lv_iload_n hx hb dX1_after_50 rfl (lv_at hl 4 rfl) ?_
        refine lv_iload hx hb dX1_after_51 (lv_at hl 0 rfl) ?_
        refine lv_iconst (v := 4) hx hb dX1_after_53 (by decide) ?_
        refine lv_iload hx hb dX1_after_54 (lv_at hl 5 rfl) ?_
        refine lv_imul hx hb dX1_after_56 ?_
        refine lv_ishl hx hb dX1_after_57 ?_
        refine lv_ior hx hb dX1_after_58 ?_
        refine lv_istore_n (lv' := [(3, .int ((f_X1_after_5_v3 ho sn lit stirred i1) ||| ((ho i1) <<< ((4 * nI i1) &&& 31)))), (5, .int (ho i1)), (0, .ref aL), (1, .int lit), (2, .int stirred), (4, .int (nI i1))]) hx hb dX1_after_59 rfl hl (by decide) rfl (fun ls hl => ?_)
        refine lv_iinc (v := nI (i1 + 1)) (lv' := [(4, .int (nI (i1 + 1))), (3, .int ((f_X1_after_5_v3 ho sn lit stirred i1) ||| ((ho i1) <<< ((4 * nI i1) &&& 31)))), (5, .int (ho i1)), (0, .ref aL), (1, .int lit), (2, .int stirred)]) hx hb dX1_after_60 hl (k := 5) rfl (nI_add i1 1) (by decide) rfl (fun ls hl => ?_)
        refine lv_goto (tgt := 5) hx hb dX1_after_63 (by decide) ?_
        have e_v3 : (f_X1_after_5_v3 ho sn lit stirred (i1 + 1)) = ((f_X1_after_5_v3 ho sn lit stirred i1) ||| ((ho i1) <<< ((4 * nI i1) &&& 31))) := (by simp only [f_X1_after_5_v3, if_neg c1])
        exact ih5 (i1 + 1) (by omega) ls (by rw [e_v3]; exact lv_sub hl [3, 4, 5, 1, 0] rfl)
  exact lp5 nl 0 (by omega) ls (lv_sub hl [2, 3, 4, 1, 0] rfl)

def rm_X0_stirred : Room := { frames := 0, cells := 0, slots := 0, locals := 0 }
def f_X0_stirred_4_v2 (sc : Nat → Int32) (who : Int32) : Nat → Int32
  | 0 => 0
  | i1 + 1 => ((f_X0_stirred_4_v2 sc who i1) ||| (((who >>> (nI i1 &&& 31)) &&& 1) <<< ((sc i1) &&& 31)))
def f_X0_stirred (pe : Nat) (sc : Nat → Int32) (who : Int32) : Int32 := (f_X0_stirred_4_v2 sc who pe)
theorem hd_X0_stirred : yX0_stirred.cls = RX0 ∧ yX0_stirred.cls ≠ "java/lang/invoke/MethodHandle" ∧ yX0_stirred.cls ≠ "java/lang/invoke/VarHandle" ∧ (parseMethodDescriptor yX0_stirred.desc).map (fun d => d.parameters.length) = some 1 := by decide +kernel
set_option maxHeartbeats 4000000 in
set_option maxRecDepth 100000 in
theorem c_X0_stirred (l : Launch) (D : va_G) (cI : ClassId) (aE aEs aEw aEd aEl aEt : Nat) (li : Int32) (mi : Int32) (pe : Nat) (to : Int32) (sc : Nat → Int32) (who : Int32) (hpe : pe ≤ 4) : MetR l yX0_stirred wsX0_stirred rm_X0_stirred D cI [.ref aE, .int who] [(aE, .inr (0, [.int li, .int mi, .int (nI pe), .ref aEs, .ref aEw, .ref aEd, .int to, .ref aEl, .ref aEt])), (aEs, .inl (cI, 4, .inl sc))] (some (.int (f_X0_stirred pe sc who))) := by
  refine mR (cc := cX0_stirred) (maxL := 4) (ret := (some .int)) (by decide) rfl (Nat.le_of_ble_eq_true rfl) ?_
  intro p e s m args below meth c Q hx hb hr hml hown hts hlk hP hK hQ ls hl
  have hown : s.vm.findClass RX0 = some m.cls := hown
  have hl : lv_has ls 4 [(0, .ref aE), (1, .int who)] := hl
  have w1 := hts (.fieldLink RX0 34 "DarkOffice$Evening" "people" "I") (List.mem_of_getElem? (i := 1) rfl)
  have uX0 : ∀ w ∈ wsX00, w ∈ wsX0_stirred := fun _ h => List.mem_cons_of_mem _ (List.mem_append_right _ h)
  have w2 := hts (.fieldLink RX0 9 "DarkOffice$Evening" "sections" "[I") (List.mem_of_getElem? (i := 2) rfl)
  refine lv_iconst (v := 0) hx hb dX0_stirred_0 (by decide) ?_
  refine lv_istore_n (lv' := [(2, .int 0), (0, .ref aE), (1, .int who)]) hx hb dX0_stirred_1 rfl hl (by decide) rfl (fun ls hl => ?_)
  refine lv_iconst (v := 0) hx hb dX0_stirred_2 (by decide) ?_
  refine lv_istore_n (lv' := [(3, .int 0), (2, .int 0), (0, .ref aE), (1, .int who)]) hx hb dX0_stirred_3 rfl hl (by decide) rfl (fun ls hl => ?_)
  have lp4 : ∀ (k4 i1 : Nat), i1 + k4 = pe → ∀ ls : Array Slot, lv_has ls 4 [(0, .ref aE), (1, .int who), (2, .int ((f_X0_stirred_4_v2 sc who i1))), (3, .int (nI i1))] → W p l e rm_X0_stirred s m args below meth c s.heap [] 0 0 Q (F0 m 4 ls []) := by
    intro k4
    induction k4 with
    | zero =>
      intro i1 hk4 ls hl
      have hN4 : pe = i1 := by omega
      subst hN4
      refine lv_iload_n hx hb dX0_stirred_4 rfl (lv_at hl 3 rfl) ?_
      refine lv_aload_n hx hb dX0_stirred_5 rfl (lv_at hl 0 rfl) ?_
      refine va_get (D := D) (ci := 0) (v := .int (nI pe)) (C := RX0) (T := TX0) (N := 9) hx hb hts uX0 hown hK hP 0 rfl rfl 2 (by decide) w1 (fun _ h9 => h9) rfl dX0_stirred_6 ?_
      refine lv_icmp_ge (tgt := 33) hx hb dX0_stirred_9 (by decide) (fun _ => ?_) (fun c => absurd (nle_t rfl rfl (by omega) (by omega) (by omega)) c)
      refine lv_iload_n hx hb dX0_stirred_33 rfl (lv_at hl 2 rfl) ?_
      exact eRi hx hb hr hlk hQ dX0_stirred_34 (Eq.symm (by simp only [f_X0_stirred]))
    | succ k4 ih4 =>
      intro i1 hk4 ls hl
      refine lv_iload_n hx hb dX0_stirred_4 rfl (lv_at hl 3 rfl) ?_
      refine lv_aload_n hx hb dX0_stirred_5 rfl (lv_at hl 0 rfl) ?_
      refine va_get (D := D) (ci := 0) (v := .int (nI pe)) (C := RX0) (T := TX0) (N := 9) hx hb hts uX0 hown hK hP 0 rfl rfl 2 (by decide) w1 (fun _ h9 => h9) rfl dX0_stirred_6 ?_
      refine lv_icmp_ge (tgt := 33) hx hb dX0_stirred_9 (by decide) (fun c => absurd c (nle_f rfl rfl (by omega) (by omega) (by omega))) (fun _ => ?_)
      refine lv_iload_n hx hb dX0_stirred_12 rfl (lv_at hl 2 rfl) ?_
      refine lv_iload_n hx hb dX0_stirred_13 rfl (lv_at hl 1 rfl) ?_
      refine lv_iload_n hx hb dX0_stirred_14 rfl (lv_at hl 3 rfl) ?_
      refine lv_ishr hx hb dX0_stirred_15 ?_
      refine lv_iconst (v := 1) hx hb dX0_stirred_16 (by decide) ?_
      refine lv_iand hx hb dX0_stirred_17 ?_
      refine lv_aload_n hx hb dX0_stirred_18 rfl (lv_at hl 0 rfl) ?_
      refine va_get (D := D) (ci := 0) (v := .ref aEs) (C := RX0) (T := TX0) (N := 9) hx hb hts uX0 hown hK hP 0 rfl rfl 3 (by decide) w2 (fun _ h9 => h9) rfl dX0_stirred_19 ?_
      refine lv_iload_n hx hb dX0_stirred_22 rfl (lv_at hl 3 rfl) ?_
      refine xald hx hb hK hP 1 rfl i1 rfl (by omega) (by decide) dX0_stirred_23 ?_
      refine lv_ishl hx hb dX0_stirred_24 ?_
      refine lv_ior hx hb dX0_stirred_25 ?_
      refine lv_istore_n (lv' := [(2, .int ((f_X0_stirred_4_v2 sc who i1) ||| (((who >>> (nI i1 &&& 31)) &&& 1) <<< ((sc i1) &&& 31)))), (0, .ref aE), (1, .int who), (3, .int (nI i1))]) hx hb dX0_stirred_26 rfl hl (by decide) rfl (fun ls hl => ?_)
      refine lv_iinc (v := nI (i1 + 1)) (lv' := [(3, .int (nI (i1 + 1))), (2, .int ((f_X0_stirred_4_v2 sc who i1) ||| (((who >>> (nI i1 &&& 31)) &&& 1) <<< ((sc i1) &&& 31)))), (0, .ref aE), (1, .int who)]) hx hb dX0_stirred_27 hl (k := 3) rfl (nI_add i1 1) (by decide) rfl (fun ls hl => ?_)
      refine lv_goto (tgt := 4) hx hb dX0_stirred_30 (by decide) ?_
      have e_v2 : (f_X0_stirred_4_v2 sc who (i1 + 1)) = ((f_X0_stirred_4_v2 sc who i1) ||| (((who >>> (nI i1 &&& 31)) &&& 1) <<< ((sc i1) &&& 31))) := (by simp only [f_X0_stirred_4_v2])
      exact ih4 (i1 + 1) (by omega) ls (by rw [e_v2]; exact lv_sub hl [2, 3, 1, 0] rfl)
  exact lp4 pe 0 (by omega) ls (lv_sub hl [2, 3, 1, 0] rfl)
