theorem vin6 {x : Int32} (h1 : ¬ x < 0) (h2 : x ≤ 6) : vp_in x 7 := by
  obtain ⟨j, hj, rfl⟩ := nI_of h1
  exact vp_in_nI (by have := nle_d (A := nI j) (B := 6) (b := 6) rfl rfl hj (by decide) h2; omega) (by decide)
theorem vin_nI {x : Int32} {n : Nat} (h0 : ¬ x < 0) (h : ¬ nI n ≤ x) (hn : n < 2 ^ 31) : vp_in x n := by
  obtain ⟨j, hj, rfl⟩ := nI_of h0
  exact vp_in_nI (nle_e (A := nI n) rfl rfl hn hj h) hn
theorem one_shl : ∀ k, k < 31 → (1 : Int32) <<< (nI k &&& 31) = nI (2 ^ k) := by decide +kernel
theorem nI_self {x B : Int32} (hB : 0 ≤ B.toInt) (h : ¬ x < B) : x = nI x.toNatClampNeg := by
  have h0 : ¬ x < 0 := fun q => h (Int32.lt_iff_toInt_lt.mpr (by have := Int32.lt_iff_toInt_lt.mp q; simp at this; omega))
  obtain ⟨j, hj, rfl⟩ := nI_of h0
  rw [nI_clamp hj]
theorem nI_bd {x B : Int32} {b : Nat} (hb : B = nI b) (hbb : b < 2 ^ 31) (h0 : x = nI x.toNatClampNeg) (h : ¬ B < x) : x.toNatClampNeg ≤ b := by
  have hc : x.toNatClampNeg < 2 ^ 31 := by
    have := Int32.toInt_lt x
    have e : x.toNatClampNeg = x.toInt.toNat := rfl
    omega
  rw [hb, h0] at h
  exact nlt_e rfl rfl hbb hc h

theorem nI_bd' {x B : Int32} {b : Nat} (hb : B = nI b) (hbb : b < 2 ^ 31) (h0 : x = nI x.toNatClampNeg) (h : x ≤ B) : x.toNatClampNeg ≤ b := by
  have hc : x.toNatClampNeg < 2 ^ 31 := by
    have := Int32.toInt_lt x
    have e : x.toNatClampNeg = x.toInt.toNat := rfl
    omega
  rw [hb, h0] at h
  exact nle_d rfl rfl hc hbb h

def rm_X1_left : Room := { frames := 0, cells := 0, slots := 0, locals := 0 }
def f_X1_left (lamp : Int32) (lit : Int32) : Int32 := ((lit >>> ((4 * lamp) &&& 31)) &&& 15)
theorem hd_X1_left : yX1_left.cls ≠ "java/lang/invoke/MethodHandle" ∧ yX1_left.cls ≠ "java/lang/invoke/VarHandle" ∧ (parseMethodDescriptor yX1_left.desc).map (fun d => d.parameters.length) = some 2 := by decide +kernel
set_option maxHeartbeats 4000000 in
set_option maxRecDepth 100000 in
theorem c_X1_left (l : Launch) (D : va_G) (cI : ClassId) (lamp : Int32) (lit : Int32) : MetR l yX1_left wsX1_left rm_X1_left D cI [.int lit, .int lamp] [] (some (.int (f_X1_left lamp lit))) := by
  refine mR (cc := cX1_left) (maxL := 2) (ret := (some .int)) (by decide) rfl (Nat.le_of_ble_eq_true rfl) ?_
  intro p e s m args below meth c Q hx hb hr hml hown hts hlk hP hK hQ ls hl
  have hown : s.vm.findClass RX1 = some m.cls := hown
  have hl : lv_has ls 2 [(0, .int lit), (1, .int lamp)] := hl
  refine lv_iload_n hx hb dX1_left_0 rfl (lv_at hl 0 rfl) ?_
  refine lv_iconst (v := 4) hx hb dX1_left_1 (by decide) ?_
  refine lv_iload_n hx hb dX1_left_2 rfl (lv_at hl 1 rfl) ?_
  refine lv_imul hx hb dX1_left_3 ?_
  refine lv_ishr hx hb dX1_left_4 ?_
  refine lv_bipush (v := 15) hx hb dX1_left_5 (by decide) ?_
  refine lv_iand hx hb dX1_left_7 ?_
  exact eRi hx hb hr hlk hQ dX1_left_8 (Eq.symm (by simp only [f_X1_left]))

def rm_X1_litOnes : Room := { frames := 1, cells := 0, slots := 0, locals := 21 }
def f_X1_litOnes_4_v2 (lit : Int32) : Nat → Int32
  | 0 => 0
  | i1 + 1 => (if (f_X1_left (nI i1) lit) ≤ 0 then ((f_X1_litOnes_4_v2 lit i1) ||| 0) else ((f_X1_litOnes_4_v2 lit i1) ||| ((1 : Int32) <<< (nI i1 &&& 31))))
def f_X1_litOnes (nl : Nat) (lit : Int32) : Int32 := (f_X1_litOnes_4_v2 lit nl)
theorem hd_X1_litOnes : yX1_litOnes.cls = RX1 ∧ yX1_litOnes.cls ≠ "java/lang/invoke/MethodHandle" ∧ yX1_litOnes.cls ≠ "java/lang/invoke/VarHandle" ∧ (parseMethodDescriptor yX1_litOnes.desc).map (fun d => d.parameters.length) = some 1 := by decide +kernel
set_option maxHeartbeats 4000000 in
set_option maxRecDepth 100000 in
theorem c_X1_litOnes (l : Launch) (D : va_G) (cI : ClassId) (aL aLk aLh aLs : Nat) (nl : Nat) (lit : Int32) (hn : nl ≤ 6) : MetR l yX1_litOnes wsX1_litOnes rm_X1_litOnes D cI [.ref aL, .int lit] [(aL, .inr (1, [.ref aLk, .ref aLh, .ref aLs, .int (nI nl)]))] (some (.int (f_X1_litOnes nl lit))) := by
  refine mR (cc := cX1_litOnes) (maxL := 4) (ret := (some .int)) (by decide) rfl (Nat.le_of_ble_eq_true rfl) ?_
  intro p e s m args below meth c Q hx hb hr hml hown hts hlk hP hK hQ ls hl
  have hown : s.vm.findClass RX1 = some m.cls := hown
  have hl : lv_has ls 4 [(0, .ref aL), (1, .int lit)] := hl
  have w1 := hts (.fieldLink RX1 33 "DarkOffice$Lamps" "size" "I") (List.mem_of_getElem? (i := 1) rfl)
  have uX1 : ∀ w ∈ wsX10, w ∈ wsX1_litOnes := fun _ h => List.mem_cons_of_mem _ (List.mem_append_right _ h)
  refine lv_iconst (v := 0) hx hb dX1_litOnes_0 (by decide) ?_
  refine lv_istore_n (lv' := [(2, .int 0), (0, .ref aL), (1, .int lit)]) hx hb dX1_litOnes_1 rfl hl (by decide) rfl (fun ls hl => ?_)
  refine lv_iconst (v := 0) hx hb dX1_litOnes_2 (by decide) ?_
  refine lv_istore_n (lv' := [(3, .int 0), (2, .int 0), (0, .ref aL), (1, .int lit)]) hx hb dX1_litOnes_3 rfl hl (by decide) rfl (fun ls hl => ?_)
  have lp4 : ∀ (k4 i1 : Nat), i1 + k4 = nl → ∀ ls : Array Slot, lv_has ls 4 [(0, .ref aL), (1, .int lit), (2, .int ((f_X1_litOnes_4_v2 lit i1))), (3, .int (nI i1))] → W p l e rm_X1_litOnes s m args below meth c s.heap [] 0 0 Q (F0 m 4 ls []) := by
    intro k4
    induction k4 with
    | zero =>
      intro i1 hk4 ls hl
      have hN4 : nl = i1 := by omega
      subst hN4
      refine lv_iload_n hx hb dX1_litOnes_4 rfl (lv_at hl 3 rfl) ?_
      refine lv_aload_n hx hb dX1_litOnes_5 rfl (lv_at hl 0 rfl) ?_
      refine va_get (D := D) (ci := 1) (v := .int (nI nl)) (C := RX1) (T := TX1) (N := 4) hx hb hts uX1 hown hK hP 0 rfl rfl 3 (by decide) w1 (fun _ h9 => h9) rfl dX1_litOnes_6 ?_
      refine lv_icmp_ge (tgt := 36) hx hb dX1_litOnes_9 (by decide) (fun _ => ?_) (fun c => absurd (nle_t (a := nl) (b := nl) rfl rfl (by omega) (by omega) (by omega)) c)
      refine lv_iload_n hx hb dX1_litOnes_36 rfl (lv_at hl 2 rfl) ?_
      exact eRi hx hb hr hlk hQ dX1_litOnes_37 (Eq.symm (by simp only [f_X1_litOnes]))
    | succ k4 ih4 =>
      intro i1 hk4 ls hl
      refine lv_iload_n hx hb dX1_litOnes_4 rfl (lv_at hl 3 rfl) ?_
      refine lv_aload_n hx hb dX1_litOnes_5 rfl (lv_at hl 0 rfl) ?_
      refine va_get (D := D) (ci := 1) (v := .int (nI nl)) (C := RX1) (T := TX1) (N := 4) hx hb hts uX1 hown hK hP 0 rfl rfl 3 (by decide) w1 (fun _ h9 => h9) rfl dX1_litOnes_6 ?_
      refine lv_icmp_ge (tgt := 36) hx hb dX1_litOnes_9 (by decide) (fun c => absurd c (nle_f (a := nl) (b := i1) rfl rfl (by omega) (by omega) (by omega))) (fun _ => ?_)
      refine lv_iload_n hx hb dX1_litOnes_12 rfl (lv_at hl 2 rfl) ?_
      refine lv_iload_n hx hb dX1_litOnes_13 rfl (lv_at hl 1 rfl) ?_
      refine lv_iload_n hx hb dX1_litOnes_14 rfl (lv_at hl 3 rfl) ?_
      refine rS ⟨hx, hb, hml, hown, hts⟩ (c_X1_left l D cI (nI i1) lit) (va_cwS 2 hts gX1_litOnes_X1_left rfl rfl rfl hd_X1_left ⟨Nat.le_of_ble_eq_true rfl, Nat.le_of_ble_eq_true rfl⟩) hK (hP.sub [] rfl) rfl hl.1 (rest := [.int ((f_X1_litOnes_4_v2 lit i1))]) (st' := [.int (f_X1_left (nI i1) lit), .int ((f_X1_litOnes_4_v2 lit i1))]) rfl rfl (Nat.le_of_ble_eq_true rfl) dX1_litOnes_15 ⟨Nat.zero_le _, Nat.zero_le _⟩ ?_
      refine lv_if_le (tgt := 27) hx hb dX1_litOnes_18 (by decide) (fun c1 => ?_) (fun c1 => ?_)
      · refine lv_iconst (v := 0) hx hb dX1_litOnes_27 (by decide) ?_
        refine lv_ior hx hb dX1_litOnes_28 ?_
        refine lv_istore_n (lv' := [(2, .int ((f_X1_litOnes_4_v2 lit i1) ||| 0)), (0, .ref aL), (1, .int lit), (3, .int (nI i1))]) hx hb dX1_litOnes_29 rfl hl (by decide) rfl (fun ls hl => ?_)
        refine lv_iinc (v := nI (i1 + 1)) (lv' := [(3, .int (nI (i1 + 1))), (2, .int ((f_X1_litOnes_4_v2 lit i1) ||| 0)), (0, .ref aL), (1, .int lit)]) hx hb dX1_litOnes_30 hl (k := 3) rfl (nI_add i1 1) (by decide) rfl (fun ls hl => ?_)
        refine lv_goto (tgt := 4) hx hb dX1_litOnes_33 (by decide) ?_
        have e_v2 : (f_X1_litOnes_4_v2 lit (i1 + 1)) = ((f_X1_litOnes_4_v2 lit i1) ||| 0) := (by simp only [f_X1_litOnes_4_v2, if_pos c1])
        exact ih4 (i1 + 1) (by omega) ls (by rw [e_v2]; exact lv_sub hl [2, 3, 1, 0] rfl)
      · refine lv_iconst (v := 1) hx hb dX1_litOnes_21 (by decide) ?_
        refine lv_iload_n hx hb dX1_litOnes_22 rfl (lv_at hl 3 rfl) ?_
        refine lv_ishl hx hb dX1_litOnes_23 ?_
        refine lv_goto (tgt := 28) hx hb dX1_litOnes_24 (by decide) ?_
        refine lv_ior hx hb dX1_litOnes_28 ?_
        refine lv_istore_n (lv' := [(2, .int ((f_X1_litOnes_4_v2 lit i1) ||| ((1 : Int32) <<< (nI i1 &&& 31)))), (0, .ref aL), (1, .int lit), (3, .int (nI i1))]) hx hb dX1_litOnes_29 rfl hl (by decide) rfl (fun ls hl => ?_)
        refine lv_iinc (v := nI (i1 + 1)) (lv' := [(3, .int (nI (i1 + 1))), (2, .int ((f_X1_litOnes_4_v2 lit i1) ||| ((1 : Int32) <<< (nI i1 &&& 31)))), (0, .ref aL), (1, .int lit)]) hx hb dX1_litOnes_30 hl (k := 3) rfl (nI_add i1 1) (by decide) rfl (fun ls hl => ?_)
        refine lv_goto (tgt := 4) hx hb dX1_litOnes_33 (by decide) ?_
        have e_v2 : (f_X1_litOnes_4_v2 lit (i1 + 1)) = ((f_X1_litOnes_4_v2 lit i1) ||| ((1 : Int32) <<< (nI i1 &&& 31))) := (by simp only [f_X1_litOnes_4_v2, if_neg c1])
        exact ih4 (i1 + 1) (by omega) ls (by rw [e_v2]; exact lv_sub hl [2, 3, 1, 0] rfl)
  exact lp4 nl 0 (by omega) ls (lv_sub hl [2, 3, 1, 0] rfl)

def rm_X1_after : Room := { frames := 1, cells := 0, slots := 0, locals := 21 }
def f_X1_after_5_v3 (ho : Nat → Int32) (sn : Nat → Int32) (lit : Int32) (stirred : Int32) : Nat → Int32
  | 0 => 0
  | i1 + 1 => (if ((sn i1) &&& stirred) = 0 then ((f_X1_after_5_v3 ho sn lit stirred i1) ||| ((if 0 < ((f_X1_left (nI i1) lit) - 1) then ((f_X1_left (nI i1) lit) - 1) else 0) <<< ((4 * nI i1) &&& 31))) else ((f_X1_after_5_v3 ho sn lit stirred i1) ||| ((ho i1) <<< ((4 * nI i1) &&& 31))))
def f_X1_after (nl : Nat) (ho : Nat → Int32) (sn : Nat → Int32) (lit : Int32) (stirred : Int32) : Int32 := (f_X1_after_5_v3 ho sn lit stirred nl)
theorem hd_X1_after : yX1_after.cls = RX1 ∧ yX1_after.cls ≠ "java/lang/invoke/MethodHandle" ∧ yX1_after.cls ≠ "java/lang/invoke/VarHandle" ∧ (parseMethodDescriptor yX1_after.desc).map (fun d => d.parameters.length) = some 2 := by decide +kernel
set_option maxHeartbeats 4000000 in
set_option maxRecDepth 100000 in
theorem c_X1_after (l : Launch) (D : va_G) (cI : ClassId) (aL aLk aLh aLs : Nat) (nl : Nat) (ho : Nat → Int32) (sn : Nat → Int32) (lit : Int32) (stirred : Int32) (hn : nl ≤ 6) : MetR l yX1_after wsX1_after rm_X1_after D cI [.ref aL, .int lit, .int stirred] [(aL, .inr (1, [.ref aLk, .ref aLh, .ref aLs, .int (nI nl)])), (aLh, .inl (cI, 6, .inl ho)), (aLs, .inl (cI, 6, .inl sn))] (some (.int (f_X1_after nl ho sn lit stirred))) := by
  refine mR (cc := cX1_after) (maxL := 6) (ret := (some .int)) (by decide) rfl (Nat.le_of_ble_eq_true rfl) ?_
  intro p e s m args below meth c Q hx hb hr hml hown hts hlk hP hK hQ ls hl
  have hown : s.vm.findClass RX1 = some m.cls := hown
  have hl : lv_has ls 6 [(0, .ref aL), (1, .int lit), (2, .int stirred)] := hl
  have w1 := hts (.fieldLink RX1 33 "DarkOffice$Lamps" "size" "I") (List.mem_of_getElem? (i := 1) rfl)
  have uX1 : ∀ w ∈ wsX10, w ∈ wsX1_after := fun _ h => List.mem_cons_of_mem _ (List.mem_append_right _ h)
  have w2 := hts (.fieldLink RX1 18 "DarkOffice$Lamps" "sees" "[I") (List.mem_of_getElem? (i := 2) rfl)
  have w4 := hts (.methodLink RX1 57 Lib.Math.max.name) (List.mem_of_getElem? (i := 4) rfl)
  have w5 := hts (.static Lib.Math.max.name) (List.mem_of_getElem? (i := 5) rfl)
  have w6 := hts (.initialized "java/lang/Math") (List.mem_of_getElem? (i := 6) rfl)
  have w7 := hts (.code Lib.Math.max.name Lib.Math.max.code 2 (some .int)) (List.mem_of_getElem? (i := 7) rfl)
  have w3 := hts (.fieldLink RX1 15 "DarkOffice$Lamps" "holds" "[I") (List.mem_of_getElem? (i := 3) rfl)
  refine lv_iconst (v := 0) hx hb dX1_after_0 (by decide) ?_
  refine lv_istore_n (lv' := [(3, .int 0), (0, .ref aL), (1, .int lit), (2, .int stirred)]) hx hb dX1_after_1 rfl hl (by decide) rfl (fun ls hl => ?_)
  refine lv_iconst (v := 0) hx hb dX1_after_2 (by decide) ?_
  refine lv_istore (lv' := [(4, .int 0), (3, .int 0), (0, .ref aL), (1, .int lit), (2, .int stirred)]) hx hb dX1_after_3 hl (by decide) rfl (fun ls hl => ?_)
  have lp5 : ∀ (k5 i1 : Nat), i1 + k5 = nl → ∀ ls : Array Slot, lv_has ls 6 [(0, .ref aL), (1, .int lit), (2, .int stirred), (3, .int ((f_X1_after_5_v3 ho sn lit stirred i1))), (4, .int (nI i1))] → W p l e rm_X1_after s m args below meth c s.heap [] 0 0 Q (F0 m 5 ls []) := by
    intro k5
    induction k5 with
    | zero =>
      intro i1 hk5 ls hl
      have hN5 : nl = i1 := by omega
      subst hN5
      refine lv_iload hx hb dX1_after_5 (lv_at hl 4 rfl) ?_
      refine lv_aload_n hx hb dX1_after_7 rfl (lv_at hl 0 rfl) ?_
      refine va_get (D := D) (ci := 1) (v := .int (nI nl)) (C := RX1) (T := TX1) (N := 4) hx hb hts uX1 hown hK hP 0 rfl rfl 3 (by decide) w1 (fun _ h9 => h9) rfl dX1_after_8 ?_
      refine lv_icmp_ge (tgt := 66) hx hb dX1_after_11 (by decide) (fun _ => ?_) (fun c => absurd (nle_t (a := nl) (b := nl) rfl rfl (by omega) (by omega) (by omega)) c)
      refine lv_iload_n hx hb dX1_after_66 rfl (lv_at hl 3 rfl) ?_
      exact eRi hx hb hr hlk hQ dX1_after_67 (Eq.symm (by simp only [f_X1_after]))
    | succ k5 ih5 =>
      intro i1 hk5 ls hl
      refine lv_iload hx hb dX1_after_5 (lv_at hl 4 rfl) ?_
      refine lv_aload_n hx hb dX1_after_7 rfl (lv_at hl 0 rfl) ?_
      refine va_get (D := D) (ci := 1) (v := .int (nI nl)) (C := RX1) (T := TX1) (N := 4) hx hb hts uX1 hown hK hP 0 rfl rfl 3 (by decide) w1 (fun _ h9 => h9) rfl dX1_after_8 ?_
      refine lv_icmp_ge (tgt := 66) hx hb dX1_after_11 (by decide) (fun c => absurd c (nle_f (a := nl) (b := i1) rfl rfl (by omega) (by omega) (by omega))) (fun _ => ?_)
      refine lv_aload_n hx hb dX1_after_14 rfl (lv_at hl 0 rfl) ?_
      refine va_get (D := D) (ci := 1) (v := .ref aLs) (C := RX1) (T := TX1) (N := 4) hx hb hts uX1 hown hK hP 0 rfl rfl 2 (by decide) w2 (fun _ h9 => h9) rfl dX1_after_15 ?_
      refine lv_iload hx hb dX1_after_18 (lv_at hl 4 rfl) ?_
      refine xald hx hb hK hP 2 rfl i1 rfl (by omega) (by decide) dX1_after_20 ?_
      refine lv_iload_n hx hb dX1_after_21 rfl (lv_at hl 2 rfl) ?_
      refine lv_iand hx hb dX1_after_22 ?_
      refine lv_if_eq (tgt := 36) hx hb dX1_after_23 (by decide) (fun c1 => ?_) (fun c1 => ?_)
      · refine lv_iconst (v := 0) hx hb dX1_after_36 (by decide) ?_
        refine lv_iload_n hx hb dX1_after_37 rfl (lv_at hl 1 rfl) ?_
        refine lv_iload hx hb dX1_after_38 (lv_at hl 4 rfl) ?_
        refine rS ⟨hx, hb, hml, hown, hts⟩ (c_X1_left l D cI (nI i1) lit) (va_cwS 2 hts gX1_after_X1_left rfl rfl rfl hd_X1_left ⟨Nat.le_of_ble_eq_true rfl, Nat.le_of_ble_eq_true rfl⟩) hK (hP.sub [] rfl) rfl hl.1 (rest := [.int 0]) (st' := [.int (f_X1_left (nI i1) lit), .int 0]) rfl rfl (Nat.le_of_ble_eq_true rfl) dX1_after_40 ⟨Nat.zero_le _, Nat.zero_le _⟩ ?_
        refine lv_iconst (v := 1) hx hb dX1_after_43 (by decide) ?_
        refine lv_isub hx hb dX1_after_44 ?_
        refine va_mmax hx hb (hml.trans hl.1.symm) hown w4 w5 w6 w7 (Nat.le_of_ble_eq_true rfl) (Nat.le_of_ble_eq_true rfl) (Nat.zero_le _) (Nat.zero_le _) dX1_after_45 ?_
        refine lv_istore (lv' := [(5, .int (if 0 < ((f_X1_left (nI i1) lit) - 1) then ((f_X1_left (nI i1) lit) - 1) else 0)), (0, .ref aL), (1, .int lit), (2, .int stirred), (3, .int ((f_X1_after_5_v3 ho sn lit stirred i1))), (4, .int (nI i1))]) hx hb dX1_after_48 hl (by decide) rfl (fun ls hl => ?_)
        refine lv_iload_n hx hb dX1_after_50 rfl (lv_at hl 4 rfl) ?_
        refine lv_iload hx hb dX1_after_51 (lv_at hl 0 rfl) ?_
        refine lv_iconst (v := 4) hx hb dX1_after_53 (by decide) ?_
        refine lv_iload hx hb dX1_after_54 (lv_at hl 5 rfl) ?_
        refine lv_imul hx hb dX1_after_56 ?_
        refine lv_ishl hx hb dX1_after_57 ?_
        refine lv_ior hx hb dX1_after_58 ?_
        refine lv_istore_n (lv' := [(3, .int ((f_X1_after_5_v3 ho sn lit stirred i1) ||| ((if 0 < ((f_X1_left (nI i1) lit) - 1) then ((f_X1_left (nI i1) lit) - 1) else 0) <<< ((4 * nI i1) &&& 31)))), (5, .int (if 0 < ((f_X1_left (nI i1) lit) - 1) then ((f_X1_left (nI i1) lit) - 1) else 0)), (0, .ref aL), (1, .int lit), (2, .int stirred), (4, .int (nI i1))]) hx hb dX1_after_59 rfl hl (by decide) rfl (fun ls hl => ?_)
        refine lv_iinc (v := nI (i1 + 1)) (lv' := [(4, .int (nI (i1 + 1))), (3, .int ((f_X1_after_5_v3 ho sn lit stirred i1) ||| ((if 0 < ((f_X1_left (nI i1) lit) - 1) then ((f_X1_left (nI i1) lit) - 1) else 0) <<< ((4 * nI i1) &&& 31)))), (5, .int (if 0 < ((f_X1_left (nI i1) lit) - 1) then ((f_X1_left (nI i1) lit) - 1) else 0)), (0, .ref aL), (1, .int lit), (2, .int stirred)]) hx hb dX1_after_60 hl (k := 5) rfl (nI_add i1 1) (by decide) rfl (fun ls hl => ?_)
        refine lv_goto (tgt := 5) hx hb dX1_after_63 (by decide) ?_
        have e_v3 : (f_X1_after_5_v3 ho sn lit stirred (i1 + 1)) = ((f_X1_after_5_v3 ho sn lit stirred i1) ||| ((if 0 < ((f_X1_left (nI i1) lit) - 1) then ((f_X1_left (nI i1) lit) - 1) else 0) <<< ((4 * nI i1) &&& 31))) := (by simp only [f_X1_after_5_v3, if_pos c1])
        exact ih5 (i1 + 1) (by omega) ls (by rw [e_v3]; exact lv_sub hl [3, 4, 5, 1, 0] rfl)
      · refine lv_aload_n hx hb dX1_after_26 rfl (lv_at hl 0 rfl) ?_
        refine va_get (D := D) (ci := 1) (v := .ref aLh) (C := RX1) (T := TX1) (N := 4) hx hb hts uX1 hown hK hP 0 rfl rfl 1 (by decide) w3 (fun _ h9 => h9) rfl dX1_after_27 ?_
        refine lv_iload hx hb dX1_after_30 (lv_at hl 4 rfl) ?_
        refine xald hx hb hK hP 1 rfl i1 rfl (by omega) (by decide) dX1_after_32 ?_
        refine lv_goto (tgt := 48) hx hb dX1_after_33 (by decide) ?_
        refine lv_istore (lv' := [(5, .int (ho i1)), (0, .ref aL), (1, .int lit), (2, .int stirred), (3, .int ((f_X1_after_5_v3 ho sn lit stirred i1))), (4, .int (nI i1))]) hx hb dX1_after_48 hl (by decide) rfl (fun ls hl => ?_)
        refine lv_iload_n hx hb dX1_after_50 rfl (lv_at hl 4 rfl) ?_
        refine lv_iload hx hb dX1_after_51 (lv_at hl 0 rfl) ?_
        refine lv_iconst (v := 4) hx hb dX1_after_53 (by decide) ?_
        refine lv_iload hx hb dX1_after_54 (lv_at hl 5 rfl) ?_
        refine lv_imul hx hb dX1_after_56 ?_
        refine lv_ishl hx hb dX1_after_57 ?_
        refine lv_ior hx hb dX1_after_58 ?_
        refine lv_istore_n (lv' := [(3, .int ((f_X1_after_5_v3 ho sn lit stirred i1) ||| ((ho i1) <<< ((4 * nI i1) &&& 31)))), (5, .int (ho i1)), (0, .ref aL), (1, .int lit), (2, .int stirred), (4, .int (nI i1))]) hx hb dX1_after_59 rfl hl (by decide) rfl (fun ls hl => ?_)
        refine lv_iinc (v := nI (i1 + 1)) (lv' := [(4, .int (nI (i1 + 1))), (3, .int ((f_X1_after_5_v3 ho sn lit stirred i1) ||| ((ho i1) <<< ((4 * nI i1) &&& 31)))), (5, .int (ho i1)), (0, .ref aL), (1, .int lit), (2, .int stirred)]) hx hb dX1_after_60 hl (k := 5) rfl (nI_add i1 1) (by decide) rfl (fun ls hl => ?_)
        refine lv_goto (tgt := 5) hx hb dX1_after_63 (by decide) ?_
        have e_v3 : (f_X1_after_5_v3 ho sn lit stirred (i1 + 1)) = ((f_X1_after_5_v3 ho sn lit stirred i1) ||| ((ho i1) <<< ((4 * nI i1) &&& 31))) := (by simp only [f_X1_after_5_v3, if_neg c1])
        exact ih5 (i1 + 1) (by omega) ls (by rw [e_v3]; exact lv_sub hl [3, 4, 5, 1, 0] rfl)
  exact lp5 nl 0 (by omega) ls (lv_sub hl [2, 3, 4, 1, 0] rfl)

def rm_X1_seenBy : Room := { frames := 0, cells := 0, slots := 0, locals := 0 }
def f_X1_seenBy (kind : Int32) (own : Int32) : Int32 := (if kind = 1 then (((own >>> (1 &&& 31)) ||| own) ||| (own <<< (1 &&& 31))) else (if kind = 2 then (own ||| (own <<< (1 &&& 31))) else (if kind = 3 then own else (if kind = 4 then (-1) else own))))
theorem hd_X1_seenBy : yX1_seenBy.cls ≠ "java/lang/invoke/MethodHandle" ∧ yX1_seenBy.cls ≠ "java/lang/invoke/VarHandle" ∧ (parseMethodDescriptor yX1_seenBy.desc).map (fun d => d.parameters.length) = some 2 := by decide +kernel
set_option maxHeartbeats 4000000 in
set_option maxRecDepth 100000 in
theorem c_X1_seenBy (l : Launch) (D : va_G) (cI : ClassId) (kind : Int32) (own : Int32) : MetR l yX1_seenBy wsX1_seenBy rm_X1_seenBy D cI [.int kind, .int own] [] (some (.int (f_X1_seenBy kind own))) := by
  refine mR (cc := cX1_seenBy) (maxL := 2) (ret := (some .int)) (by decide) rfl (Nat.le_of_ble_eq_true rfl) ?_
  intro p e s m args below meth c Q hx hb hr hml hown hts hlk hP hK hQ ls hl
  have hown : s.vm.findClass RX1 = some m.cls := hown
  have hl : lv_has ls 2 [(0, .int kind), (1, .int own)] := hl
  refine lv_iload_n hx hb dX1_seenBy_0 rfl (lv_at hl 0 rfl) ?_
  by_cases c1 : kind = 1
  · refine lv_tableIn (off := 31) (tgt := 32) hx hb dX1_seenBy_1 (by rw [c1]; decide) (by rw [c1]; decide) (by rw [c1]; rfl) (by decide) ?_
    refine lv_iload_n hx hb dX1_seenBy_32 rfl (lv_at hl 1 rfl) ?_
    refine lv_iconst (v := 1) hx hb dX1_seenBy_33 (by decide) ?_
    refine lv_ishr hx hb dX1_seenBy_34 ?_
    refine lv_iload_n hx hb dX1_seenBy_35 rfl (lv_at hl 1 rfl) ?_
    refine lv_ior hx hb dX1_seenBy_36 ?_
    refine lv_iload_n hx hb dX1_seenBy_37 rfl (lv_at hl 1 rfl) ?_
    refine lv_iconst (v := 1) hx hb dX1_seenBy_38 (by decide) ?_
    refine lv_ishl hx hb dX1_seenBy_39 ?_
    refine lv_ior hx hb dX1_seenBy_40 ?_
    exact eRi hx hb hr hlk hQ dX1_seenBy_41 (Eq.symm (by simp only [f_X1_seenBy, if_pos c1]))
  · by_cases c2 : kind = 2
    · refine lv_tableIn (off := 41) (tgt := 42) hx hb dX1_seenBy_1 (by rw [c2]; decide) (by rw [c2]; decide) (by rw [c2]; rfl) (by decide) ?_
      refine lv_iload_n hx hb dX1_seenBy_42 rfl (lv_at hl 1 rfl) ?_
      refine lv_iload_n hx hb dX1_seenBy_43 rfl (lv_at hl 1 rfl) ?_
      refine lv_iconst (v := 1) hx hb dX1_seenBy_44 (by decide) ?_
      refine lv_ishl hx hb dX1_seenBy_45 ?_
      refine lv_ior hx hb dX1_seenBy_46 ?_
      exact eRi hx hb hr hlk hQ dX1_seenBy_47 (Eq.symm (by simp only [f_X1_seenBy, if_neg c1, if_pos c2]))
    · by_cases c3 : kind = 3
      · refine lv_tableIn (off := 49) (tgt := 50) hx hb dX1_seenBy_1 (by rw [c3]; decide) (by rw [c3]; decide) (by rw [c3]; rfl) (by decide) ?_
        refine lv_iload_n hx hb dX1_seenBy_50 rfl (lv_at hl 1 rfl) ?_
        exact eRi hx hb hr hlk hQ dX1_seenBy_51 (Eq.symm (by simp only [f_X1_seenBy, if_neg c1, if_neg c2, if_pos c3]))
      · by_cases c4 : kind = 4
        · refine lv_tableIn (off := 47) (tgt := 48) hx hb dX1_seenBy_1 (by rw [c4]; decide) (by rw [c4]; decide) (by rw [c4]; rfl) (by decide) ?_
          refine lv_iconst (v := (-1)) hx hb dX1_seenBy_48 (by decide) ?_
          exact eRi hx hb hr hlk hQ dX1_seenBy_49 (Eq.symm (by simp only [f_X1_seenBy, if_neg c1, if_neg c2, if_neg c3, if_pos c4]))
        · have z1_0 := lv_neT (a := 1) c1 (by decide)
          have z1_1 := lv_neT (a := 2) c2 (by decide)
          have z1_2 := lv_neT (a := 3) c3 (by decide)
          have z1_3 := lv_neT (a := 4) c4 (by decide)
          refine lv_tableOut (tgt := 50) hx hb dX1_seenBy_1 (by omega) (by decide) ?_
          refine lv_iload_n hx hb dX1_seenBy_50 rfl (lv_at hl 1 rfl) ?_
          exact eRi hx hb hr hlk hQ dX1_seenBy_51 (Eq.symm (by simp only [f_X1_seenBy, if_neg c1, if_neg c2, if_neg c3, if_neg c4]))

def rm_X1_isOf : Room := { frames := 0, cells := 0, slots := 0, locals := 0 }
def f_X1_isOf (kd : Nat → Int32) (kind : Int32) (lamp : Int32) : Int32 := (if kind = 0 then 1 else (if kind = (kd lamp.toNatClampNeg) then 1 else (if kind = 1 then (if (kd lamp.toNatClampNeg) = 4 then 1 else 0) else 0)))
theorem hd_X1_isOf : yX1_isOf.cls = RX1 ∧ yX1_isOf.cls ≠ "java/lang/invoke/MethodHandle" ∧ yX1_isOf.cls ≠ "java/lang/invoke/VarHandle" ∧ (parseMethodDescriptor yX1_isOf.desc).map (fun d => d.parameters.length) = some 2 := by decide +kernel
set_option maxHeartbeats 4000000 in
set_option maxRecDepth 100000 in
theorem c_X1_isOf (l : Launch) (D : va_G) (cI : ClassId) (aL aLk aLh aLs : Nat) (nl : Nat) (kd : Nat → Int32) (kind : Int32) (lamp : Int32) (hv_lamp : vp_in lamp 6) : MetR l yX1_isOf wsX1_isOf rm_X1_isOf D cI [.ref aL, .int lamp, .int kind] [(aL, .inr (1, [.ref aLk, .ref aLh, .ref aLs, .int (nI nl)])), (aLk, .inl (cI, 6, .inl kd))] (some (.int (f_X1_isOf kd kind lamp))) := by
  refine mR (cc := cX1_isOf) (maxL := 3) (ret := (some .boolean)) (by decide) rfl (Nat.le_of_ble_eq_true rfl) ?_
  intro p e s m args below meth c Q hx hb hr hml hown hts hlk hP hK hQ ls hl
  have hown : s.vm.findClass RX1 = some m.cls := hown
  have hl : lv_has ls 3 [(0, .ref aL), (1, .int lamp), (2, .int kind)] := hl
  have w1 := hts (.fieldLink RX1 9 "DarkOffice$Lamps" "kinds" "[I") (List.mem_of_getElem? (i := 1) rfl)
  have uX1 : ∀ w ∈ wsX10, w ∈ wsX1_isOf := fun _ h => List.mem_cons_of_mem _ (List.mem_append_right _ h)
  refine lv_iload_n hx hb dX1_isOf_0 rfl (lv_at hl 2 rfl) ?_
  refine lv_if_eq (tgt := 29) hx hb dX1_isOf_1 (by decide) (fun c1 => ?_) (fun c1 => ?_)
  · refine lv_iconst (v := 1) hx hb dX1_isOf_29 (by decide) ?_
    refine lv_goto (tgt := 34) hx hb dX1_isOf_30 (by decide) ?_
    exact eRz hx hb hr hlk hQ dX1_isOf_34 rfl (Eq.symm (by simp only [f_X1_isOf, if_pos c1]))
  · refine lv_iload_n hx hb dX1_isOf_4 rfl (lv_at hl 2 rfl) ?_
    refine lv_aload_n hx hb dX1_isOf_5 rfl (lv_at hl 0 rfl) ?_
    refine va_get (D := D) (ci := 1) (v := .ref aLk) (C := RX1) (T := TX1) (N := 4) hx hb hts uX1 hown hK hP 0 rfl rfl 0 (by decide) w1 (fun _ h9 => h9) rfl dX1_isOf_6 ?_
    refine lv_iload_n hx hb dX1_isOf_9 rfl (lv_at hl 1 rfl) ?_
    refine va_iald hx hb hK hP 1 0 rfl rfl hv_lamp dX1_isOf_10 ?_
    refine lv_icmp_eq (tgt := 29) hx hb dX1_isOf_11 (by decide) (fun c2 => ?_) (fun c2 => ?_)
    · refine lv_iconst (v := 1) hx hb dX1_isOf_29 (by decide) ?_
      refine lv_goto (tgt := 34) hx hb dX1_isOf_30 (by decide) ?_
      exact eRz hx hb hr hlk hQ dX1_isOf_34 rfl (Eq.symm (by simp only [f_X1_isOf, if_neg c1, if_pos c2]))
    · refine lv_iload_n hx hb dX1_isOf_14 rfl (lv_at hl 2 rfl) ?_
      refine lv_iconst (v := 1) hx hb dX1_isOf_15 (by decide) ?_
      refine lv_icmp_ne (tgt := 33) hx hb dX1_isOf_16 (by decide) (fun c3 => ?_) (fun c3 => ?_)
      · refine lv_iconst (v := 0) hx hb dX1_isOf_33 (by decide) ?_
        exact eRz hx hb hr hlk hQ dX1_isOf_34 rfl (Eq.symm (by simp only [f_X1_isOf, if_neg c1, if_neg c2, if_neg c3]))
      · refine lv_aload_n hx hb dX1_isOf_19 rfl (lv_at hl 0 rfl) ?_
        refine va_get (D := D) (ci := 1) (v := .ref aLk) (C := RX1) (T := TX1) (N := 4) hx hb hts uX1 hown hK hP 0 rfl rfl 0 (by decide) w1 (fun _ h9 => h9) rfl dX1_isOf_20 ?_
        refine lv_iload_n hx hb dX1_isOf_23 rfl (lv_at hl 1 rfl) ?_
        refine va_iald hx hb hK hP 1 0 rfl rfl hv_lamp dX1_isOf_24 ?_
        refine lv_iconst (v := 4) hx hb dX1_isOf_25 (by decide) ?_
        refine lv_icmp_ne (tgt := 33) hx hb dX1_isOf_26 (by decide) (fun c4 => ?_) (fun c4 => ?_)
        · refine lv_iconst (v := 0) hx hb dX1_isOf_33 (by decide) ?_
          exact eRz hx hb hr hlk hQ dX1_isOf_34 rfl (Eq.symm (by simp only [f_X1_isOf, if_neg c1, if_neg c2, if_pos c3, if_neg c4]))
        · refine lv_iconst (v := 1) hx hb dX1_isOf_29 (by decide) ?_
          refine lv_goto (tgt := 34) hx hb dX1_isOf_30 (by decide) ?_
          exact eRz hx hb hr hlk hQ dX1_isOf_34 rfl (Eq.symm (by simp only [f_X1_isOf, if_neg c1, if_neg c2, if_pos c3, if_pos c4]))

def rm_X1_allOnes : Room := { frames := 0, cells := 0, slots := 0, locals := 0 }
def f_X1_allOnes (nl : Nat) : Int32 := (((1 : Int32) <<< (nI nl &&& 31)) - 1)
theorem hd_X1_allOnes : yX1_allOnes.cls = RX1 ∧ yX1_allOnes.cls ≠ "java/lang/invoke/MethodHandle" ∧ yX1_allOnes.cls ≠ "java/lang/invoke/VarHandle" ∧ (parseMethodDescriptor yX1_allOnes.desc).map (fun d => d.parameters.length) = some 0 := by decide +kernel
set_option maxHeartbeats 4000000 in
set_option maxRecDepth 100000 in
theorem c_X1_allOnes (l : Launch) (D : va_G) (cI : ClassId) (aL aLk aLh aLs : Nat) (nl : Nat) : MetR l yX1_allOnes wsX1_allOnes rm_X1_allOnes D cI [.ref aL] [(aL, .inr (1, [.ref aLk, .ref aLh, .ref aLs, .int (nI nl)]))] (some (.int (f_X1_allOnes nl))) := by
  refine mR (cc := cX1_allOnes) (maxL := 1) (ret := (some .int)) (by decide) rfl (Nat.le_of_ble_eq_true rfl) ?_
  intro p e s m args below meth c Q hx hb hr hml hown hts hlk hP hK hQ ls hl
  have hown : s.vm.findClass RX1 = some m.cls := hown
  have hl : lv_has ls 1 [(0, .ref aL)] := hl
  have w1 := hts (.fieldLink RX1 33 "DarkOffice$Lamps" "size" "I") (List.mem_of_getElem? (i := 1) rfl)
  have uX1 : ∀ w ∈ wsX10, w ∈ wsX1_allOnes := fun _ h => List.mem_cons_of_mem _ (List.mem_append_right _ h)
  refine lv_iconst (v := 1) hx hb dX1_allOnes_0 (by decide) ?_
  refine lv_aload_n hx hb dX1_allOnes_1 rfl (lv_at hl 0 rfl) ?_
  refine va_get (D := D) (ci := 1) (v := .int (nI nl)) (C := RX1) (T := TX1) (N := 4) hx hb hts uX1 hown hK hP 0 rfl rfl 3 (by decide) w1 (fun _ h9 => h9) rfl dX1_allOnes_2 ?_
  refine lv_ishl hx hb dX1_allOnes_5 ?_
  refine lv_iconst (v := 1) hx hb dX1_allOnes_6 (by decide) ?_
  refine lv_isub hx hb dX1_allOnes_7 ?_
  exact eRi hx hb hr hlk hQ dX1_allOnes_8 (Eq.symm (by simp only [f_X1_allOnes]))

def rm_X1_seeing : Room := { frames := 0, cells := 0, slots := 0, locals := 0 }
def f_X1_seeing_4_v2 (sn : Nat → Int32) (sect : Int32) : Nat → Int32
  | 0 => 0
  | i1 + 1 => ((f_X1_seeing_4_v2 sn sect i1) + (((sn i1) >>> (sect &&& 31)) &&& 1))
def f_X1_seeing (nl : Nat) (sn : Nat → Int32) (sect : Int32) : Int32 := (f_X1_seeing_4_v2 sn sect nl)
theorem hd_X1_seeing : yX1_seeing.cls = RX1 ∧ yX1_seeing.cls ≠ "java/lang/invoke/MethodHandle" ∧ yX1_seeing.cls ≠ "java/lang/invoke/VarHandle" ∧ (parseMethodDescriptor yX1_seeing.desc).map (fun d => d.parameters.length) = some 1 := by decide +kernel
set_option maxHeartbeats 4000000 in
set_option maxRecDepth 100000 in
theorem c_X1_seeing (l : Launch) (D : va_G) (cI : ClassId) (aL aLk aLh aLs : Nat) (nl : Nat) (sn : Nat → Int32) (sect : Int32) (hn : nl ≤ 6) : MetR l yX1_seeing wsX1_seeing rm_X1_seeing D cI [.ref aL, .int sect] [(aL, .inr (1, [.ref aLk, .ref aLh, .ref aLs, .int (nI nl)])), (aLs, .inl (cI, 6, .inl sn))] (some (.int (f_X1_seeing nl sn sect))) := by
  refine mR (cc := cX1_seeing) (maxL := 4) (ret := (some .int)) (by decide) rfl (Nat.le_of_ble_eq_true rfl) ?_
  intro p e s m args below meth c Q hx hb hr hml hown hts hlk hP hK hQ ls hl
  have hown : s.vm.findClass RX1 = some m.cls := hown
  have hl : lv_has ls 4 [(0, .ref aL), (1, .int sect)] := hl
  have w1 := hts (.fieldLink RX1 33 "DarkOffice$Lamps" "size" "I") (List.mem_of_getElem? (i := 1) rfl)
  have uX1 : ∀ w ∈ wsX10, w ∈ wsX1_seeing := fun _ h => List.mem_cons_of_mem _ (List.mem_append_right _ h)
  have w2 := hts (.fieldLink RX1 18 "DarkOffice$Lamps" "sees" "[I") (List.mem_of_getElem? (i := 2) rfl)
  refine lv_iconst (v := 0) hx hb dX1_seeing_0 (by decide) ?_
  refine lv_istore_n (lv' := [(2, .int 0), (0, .ref aL), (1, .int sect)]) hx hb dX1_seeing_1 rfl hl (by decide) rfl (fun ls hl => ?_)
  refine lv_iconst (v := 0) hx hb dX1_seeing_2 (by decide) ?_
  refine lv_istore_n (lv' := [(3, .int 0), (2, .int 0), (0, .ref aL), (1, .int sect)]) hx hb dX1_seeing_3 rfl hl (by decide) rfl (fun ls hl => ?_)
  have lp4 : ∀ (k4 i1 : Nat), i1 + k4 = nl → ∀ ls : Array Slot, lv_has ls 4 [(0, .ref aL), (1, .int sect), (2, .int ((f_X1_seeing_4_v2 sn sect i1))), (3, .int (nI i1))] → W p l e rm_X1_seeing s m args below meth c s.heap [] 0 0 Q (F0 m 4 ls []) := by
    intro k4
    induction k4 with
    | zero =>
      intro i1 hk4 ls hl
      have hN4 : nl = i1 := by omega
      subst hN4
      refine lv_iload_n hx hb dX1_seeing_4 rfl (lv_at hl 3 rfl) ?_
      refine lv_aload_n hx hb dX1_seeing_5 rfl (lv_at hl 0 rfl) ?_
      refine va_get (D := D) (ci := 1) (v := .int (nI nl)) (C := RX1) (T := TX1) (N := 4) hx hb hts uX1 hown hK hP 0 rfl rfl 3 (by decide) w1 (fun _ h9 => h9) rfl dX1_seeing_6 ?_
      refine lv_icmp_ge (tgt := 31) hx hb dX1_seeing_9 (by decide) (fun _ => ?_) (fun c => absurd (nle_t (a := nl) (b := nl) rfl rfl (by omega) (by omega) (by omega)) c)
      refine lv_iload_n hx hb dX1_seeing_31 rfl (lv_at hl 2 rfl) ?_
      exact eRi hx hb hr hlk hQ dX1_seeing_32 (Eq.symm (by simp only [f_X1_seeing]))
    | succ k4 ih4 =>
      intro i1 hk4 ls hl
      refine lv_iload_n hx hb dX1_seeing_4 rfl (lv_at hl 3 rfl) ?_
      refine lv_aload_n hx hb dX1_seeing_5 rfl (lv_at hl 0 rfl) ?_
      refine va_get (D := D) (ci := 1) (v := .int (nI nl)) (C := RX1) (T := TX1) (N := 4) hx hb hts uX1 hown hK hP 0 rfl rfl 3 (by decide) w1 (fun _ h9 => h9) rfl dX1_seeing_6 ?_
      refine lv_icmp_ge (tgt := 31) hx hb dX1_seeing_9 (by decide) (fun c => absurd c (nle_f (a := nl) (b := i1) rfl rfl (by omega) (by omega) (by omega))) (fun _ => ?_)
      refine lv_iload_n hx hb dX1_seeing_12 rfl (lv_at hl 2 rfl) ?_
      refine lv_aload_n hx hb dX1_seeing_13 rfl (lv_at hl 0 rfl) ?_
      refine va_get (D := D) (ci := 1) (v := .ref aLs) (C := RX1) (T := TX1) (N := 4) hx hb hts uX1 hown hK hP 0 rfl rfl 2 (by decide) w2 (fun _ h9 => h9) rfl dX1_seeing_14 ?_
      refine lv_iload_n hx hb dX1_seeing_17 rfl (lv_at hl 3 rfl) ?_
      refine xald hx hb hK hP 1 rfl i1 rfl (by omega) (by decide) dX1_seeing_18 ?_
      refine lv_iload_n hx hb dX1_seeing_19 rfl (lv_at hl 1 rfl) ?_
      refine lv_ishr hx hb dX1_seeing_20 ?_
      refine lv_iconst (v := 1) hx hb dX1_seeing_21 (by decide) ?_
      refine lv_iand hx hb dX1_seeing_22 ?_
      refine lv_iadd hx hb dX1_seeing_23 ?_
      refine lv_istore_n (lv' := [(2, .int ((f_X1_seeing_4_v2 sn sect i1) + (((sn i1) >>> (sect &&& 31)) &&& 1))), (0, .ref aL), (1, .int sect), (3, .int (nI i1))]) hx hb dX1_seeing_24 rfl hl (by decide) rfl (fun ls hl => ?_)
      refine lv_iinc (v := nI (i1 + 1)) (lv' := [(3, .int (nI (i1 + 1))), (2, .int ((f_X1_seeing_4_v2 sn sect i1) + (((sn i1) >>> (sect &&& 31)) &&& 1))), (0, .ref aL), (1, .int sect)]) hx hb dX1_seeing_25 hl (k := 3) rfl (nI_add i1 1) (by decide) rfl (fun ls hl => ?_)
      refine lv_goto (tgt := 4) hx hb dX1_seeing_28 (by decide) ?_
      have e_v2 : (f_X1_seeing_4_v2 sn sect (i1 + 1)) = ((f_X1_seeing_4_v2 sn sect i1) + (((sn i1) >>> (sect &&& 31)) &&& 1)) := (by simp only [f_X1_seeing_4_v2])
      exact ih4 (i1 + 1) (by omega) ls (by rw [e_v2]; exact lv_sub hl [2, 3, 1, 0] rfl)
  exact lp4 nl 0 (by omega) ls (lv_sub hl [2, 3, 1, 0] rfl)

def rm_X1_mostSeen : Room := { frames := 1, cells := 0, slots := 0, locals := 23 }
def f_X1_mostSeen_4_v1 (nl : Nat) (sn : Nat → Int32) : Nat → Int32
  | 0 => 0
  | i1 + 1 => (if (f_X1_seeing nl sn (nI (i1 + 1))) ≤ (f_X1_seeing nl sn ((f_X1_mostSeen_4_v1 nl sn i1))) then (f_X1_mostSeen_4_v1 nl sn i1) else nI (i1 + 1))
def f_X1_mostSeen (nl : Nat) (sn : Nat → Int32) : Int32 := (f_X1_mostSeen_4_v1 nl sn (nl - 1))
theorem hd_X1_mostSeen : yX1_mostSeen.cls = RX1 ∧ yX1_mostSeen.cls ≠ "java/lang/invoke/MethodHandle" ∧ yX1_mostSeen.cls ≠ "java/lang/invoke/VarHandle" ∧ (parseMethodDescriptor yX1_mostSeen.desc).map (fun d => d.parameters.length) = some 0 := by decide +kernel
set_option maxHeartbeats 4000000 in
set_option maxRecDepth 100000 in
theorem c_X1_mostSeen (l : Launch) (D : va_G) (cI : ClassId) (aL aLk aLh aLs : Nat) (nl : Nat) (sn : Nat → Int32) (hn : nl ≤ 6) : MetR l yX1_mostSeen wsX1_mostSeen rm_X1_mostSeen D cI [.ref aL] [(aL, .inr (1, [.ref aLk, .ref aLh, .ref aLs, .int (nI nl)])), (aLs, .inl (cI, 6, .inl sn))] (some (.int (f_X1_mostSeen nl sn))) := by
  refine mR (cc := cX1_mostSeen) (maxL := 3) (ret := (some .int)) (by decide) rfl (Nat.le_of_ble_eq_true rfl) ?_
  intro p e s m args below meth c Q hx hb hr hml hown hts hlk hP hK hQ ls hl
  have hown : s.vm.findClass RX1 = some m.cls := hown
  have hl : lv_has ls 3 [(0, .ref aL)] := hl
  have w1 := hts (.fieldLink RX1 33 "DarkOffice$Lamps" "size" "I") (List.mem_of_getElem? (i := 1) rfl)
  have uX1 : ∀ w ∈ wsX10, w ∈ wsX1_mostSeen := fun _ h => List.mem_cons_of_mem _ (List.mem_append_right _ h)
  refine lv_iconst (v := 0) hx hb dX1_mostSeen_0 (by decide) ?_
  refine lv_istore_n (lv' := [(1, .int 0), (0, .ref aL)]) hx hb dX1_mostSeen_1 rfl hl (by decide) rfl (fun ls hl => ?_)
  refine lv_iconst (v := 1) hx hb dX1_mostSeen_2 (by decide) ?_
  refine lv_istore_n (lv' := [(2, .int 1), (1, .int 0), (0, .ref aL)]) hx hb dX1_mostSeen_3 rfl hl (by decide) rfl (fun ls hl => ?_)
  have lp4 : ∀ (k4 i1 : Nat), i1 + k4 = nl - 1 → ∀ ls : Array Slot, lv_has ls 3 [(0, .ref aL), (1, .int ((f_X1_mostSeen_4_v1 nl sn i1))), (2, .int (nI (i1 + 1)))] → W p l e rm_X1_mostSeen s m args below meth c s.heap [] 0 0 Q (F0 m 4 ls []) := by
    intro k4
    induction k4 with
    | zero =>
      intro i1 hk4 ls hl
      have hN4 : nl - 1 = i1 := by omega
      subst hN4
      refine lv_iload_n hx hb dX1_mostSeen_4 rfl (lv_at hl 2 rfl) ?_
      refine lv_aload_n hx hb dX1_mostSeen_5 rfl (lv_at hl 0 rfl) ?_
      refine va_get (D := D) (ci := 1) (v := .int (nI nl)) (C := RX1) (T := TX1) (N := 4) hx hb hts uX1 hown hK hP 0 rfl rfl 3 (by decide) w1 (fun _ h9 => h9) rfl dX1_mostSeen_6 ?_
      refine lv_icmp_ge (tgt := 33) hx hb dX1_mostSeen_9 (by decide) (fun _ => ?_) (fun c => absurd (nle_t (a := nl) (b := (nl - 1) + 1) rfl rfl (by omega) (by omega) (by omega)) c)
      refine lv_iload_n hx hb dX1_mostSeen_33 rfl (lv_at hl 1 rfl) ?_
      exact eRi hx hb hr hlk hQ dX1_mostSeen_34 (Eq.symm (by simp only [f_X1_mostSeen]))
    | succ k4 ih4 =>
      intro i1 hk4 ls hl
      refine lv_iload_n hx hb dX1_mostSeen_4 rfl (lv_at hl 2 rfl) ?_
      refine lv_aload_n hx hb dX1_mostSeen_5 rfl (lv_at hl 0 rfl) ?_
      refine va_get (D := D) (ci := 1) (v := .int (nI nl)) (C := RX1) (T := TX1) (N := 4) hx hb hts uX1 hown hK hP 0 rfl rfl 3 (by decide) w1 (fun _ h9 => h9) rfl dX1_mostSeen_6 ?_
      refine lv_icmp_ge (tgt := 33) hx hb dX1_mostSeen_9 (by decide) (fun c => absurd c (nle_f (a := nl) (b := i1 + 1) rfl rfl (by omega) (by omega) (by omega))) (fun _ => ?_)
      refine lv_aload_n hx hb dX1_mostSeen_12 rfl (lv_at hl 0 rfl) ?_
      refine lv_iload_n hx hb dX1_mostSeen_13 rfl (lv_at hl 2 rfl) ?_
      refine rV ⟨hx, hb, hml, hown, hts⟩ (c_X1_seeing l D cI aL aLk aLh aLs nl sn (nI (i1 + 1)) hn) (cwV 1 hts gX1_mostSeen_X1_seeing rfl rfl rfl hd_X1_seeing ⟨Nat.le_of_ble_eq_true rfl, Nat.le_of_ble_eq_true rfl⟩) hK (hP.sub [0, 1] rfl) 0 rfl rfl rfl rfl hl.1 (rest := []) (st' := [.int (f_X1_seeing nl sn (nI (i1 + 1)))]) rfl rfl (Nat.le_of_ble_eq_true rfl) dX1_mostSeen_14 ⟨Nat.zero_le _, Nat.zero_le _⟩ ?_
      refine lv_aload_n hx hb dX1_mostSeen_17 rfl (lv_at hl 0 rfl) ?_
      refine lv_iload_n hx hb dX1_mostSeen_18 rfl (lv_at hl 1 rfl) ?_
      refine rV ⟨hx, hb, hml, hown, hts⟩ (c_X1_seeing l D cI aL aLk aLh aLs nl sn ((f_X1_mostSeen_4_v1 nl sn i1)) hn) (cwV 1 hts gX1_mostSeen_X1_seeing rfl rfl rfl hd_X1_seeing ⟨Nat.le_of_ble_eq_true rfl, Nat.le_of_ble_eq_true rfl⟩) hK (hP.sub [0, 1] rfl) 0 rfl rfl rfl rfl hl.1 (rest := [.int (f_X1_seeing nl sn (nI (i1 + 1)))]) (st' := [.int (f_X1_seeing nl sn ((f_X1_mostSeen_4_v1 nl sn i1))), .int (f_X1_seeing nl sn (nI (i1 + 1)))]) rfl rfl (Nat.le_of_ble_eq_true rfl) dX1_mostSeen_19 ⟨Nat.zero_le _, Nat.zero_le _⟩ ?_
      refine lv_icmp_le (tgt := 27) hx hb dX1_mostSeen_22 (by decide) (fun c1 => ?_) (fun c1 => ?_)
      · refine lv_iinc (v := nI ((i1 + 1) + 1)) (lv' := [(2, .int (nI ((i1 + 1) + 1))), (0, .ref aL), (1, .int ((f_X1_mostSeen_4_v1 nl sn i1)))]) hx hb dX1_mostSeen_27 hl (k := 2) rfl (nI_add (i1 + 1) 1) (by decide) rfl (fun ls hl => ?_)
        refine lv_goto (tgt := 4) hx hb dX1_mostSeen_30 (by decide) ?_
        have e_v1 : (f_X1_mostSeen_4_v1 nl sn (i1 + 1)) = (f_X1_mostSeen_4_v1 nl sn i1) := (by simp only [f_X1_mostSeen_4_v1, if_pos c1])
        exact ih4 (i1 + 1) (by omega) ls (by rw [e_v1]; exact lv_sub hl [1, 2, 0] rfl)
      · refine lv_iload_n hx hb dX1_mostSeen_25 rfl (lv_at hl 2 rfl) ?_
        refine lv_istore_n (lv' := [(1, .int (nI (i1 + 1))), (0, .ref aL), (2, .int (nI (i1 + 1)))]) hx hb dX1_mostSeen_26 rfl hl (by decide) rfl (fun ls hl => ?_)
        refine lv_iinc (v := nI ((i1 + 1) + 1)) (lv' := [(2, .int (nI ((i1 + 1) + 1))), (1, .int (nI (i1 + 1))), (0, .ref aL)]) hx hb dX1_mostSeen_27 hl (k := 2) rfl (nI_add (i1 + 1) 1) (by decide) rfl (fun ls hl => ?_)
        refine lv_goto (tgt := 4) hx hb dX1_mostSeen_30 (by decide) ?_
        have e_v1 : (f_X1_mostSeen_4_v1 nl sn (i1 + 1)) = nI (i1 + 1) := (by simp only [f_X1_mostSeen_4_v1, if_neg c1])
        exact ih4 (i1 + 1) (by omega) ls (by rw [e_v1]; exact lv_sub hl [2, 1, 0] rfl)
  exact lp4 (nl - 1) 0 (by omega) ls (lv_sub hl [2, 1, 0] rfl)

def rm_X0_stirred : Room := { frames := 0, cells := 0, slots := 0, locals := 0 }
def f_X0_stirred_4_v2 (sc : Nat → Int32) (who : Int32) : Nat → Int32
  | 0 => 0
  | i1 + 1 => ((f_X0_stirred_4_v2 sc who i1) ||| (((who >>> (nI i1 &&& 31)) &&& 1) <<< ((sc i1) &&& 31)))
def f_X0_stirred (pe : Nat) (sc : Nat → Int32) (who : Int32) : Int32 := (f_X0_stirred_4_v2 sc who pe)
theorem hd_X0_stirred : yX0_stirred.cls = RX0 ∧ yX0_stirred.cls ≠ "java/lang/invoke/MethodHandle" ∧ yX0_stirred.cls ≠ "java/lang/invoke/VarHandle" ∧ (parseMethodDescriptor yX0_stirred.desc).map (fun d => d.parameters.length) = some 1 := by decide +kernel
set_option maxHeartbeats 4000000 in
set_option maxRecDepth 100000 in
theorem c_X0_stirred (l : Launch) (D : va_G) (cI : ClassId) (aE aEs aEw aEd aEl aEt : Nat) (li : Int32) (mi : Int32) (pe : Nat) (to : Int32) (sc : Nat → Int32) (who : Int32) (hpe : pe ≤ 4) : MetR l yX0_stirred wsX0_stirred rm_X0_stirred D cI [.ref aE, .int who] [(aE, .inr (0, [.int li, .int mi, .int (nI pe), .ref aEs, .ref aEw, .ref aEd, .int to, .ref aEl, .ref aEt])), (aEs, .inl (cI, 4, .inl sc))] (some (.int (f_X0_stirred pe sc who))) := by
  refine mR (cc := cX0_stirred) (maxL := 4) (ret := (some .int)) (by decide) rfl (Nat.le_of_ble_eq_true rfl) ?_
  intro p e s m args below meth c Q hx hb hr hml hown hts hlk hP hK hQ ls hl
  have hown : s.vm.findClass RX0 = some m.cls := hown
  have hl : lv_has ls 4 [(0, .ref aE), (1, .int who)] := hl
  have w1 := hts (.fieldLink RX0 34 "DarkOffice$Evening" "people" "I") (List.mem_of_getElem? (i := 1) rfl)
  have uX0 : ∀ w ∈ wsX00, w ∈ wsX0_stirred := fun _ h => List.mem_cons_of_mem _ (List.mem_append_right _ h)
  have w2 := hts (.fieldLink RX0 9 "DarkOffice$Evening" "sections" "[I") (List.mem_of_getElem? (i := 2) rfl)
  refine lv_iconst (v := 0) hx hb dX0_stirred_0 (by decide) ?_
  refine lv_istore_n (lv' := [(2, .int 0), (0, .ref aE), (1, .int who)]) hx hb dX0_stirred_1 rfl hl (by decide) rfl (fun ls hl => ?_)
  refine lv_iconst (v := 0) hx hb dX0_stirred_2 (by decide) ?_
  refine lv_istore_n (lv' := [(3, .int 0), (2, .int 0), (0, .ref aE), (1, .int who)]) hx hb dX0_stirred_3 rfl hl (by decide) rfl (fun ls hl => ?_)
  have lp4 : ∀ (k4 i1 : Nat), i1 + k4 = pe → ∀ ls : Array Slot, lv_has ls 4 [(0, .ref aE), (1, .int who), (2, .int ((f_X0_stirred_4_v2 sc who i1))), (3, .int (nI i1))] → W p l e rm_X0_stirred s m args below meth c s.heap [] 0 0 Q (F0 m 4 ls []) := by
    intro k4
    induction k4 with
    | zero =>
      intro i1 hk4 ls hl
      have hN4 : pe = i1 := by omega
      subst hN4
      refine lv_iload_n hx hb dX0_stirred_4 rfl (lv_at hl 3 rfl) ?_
      refine lv_aload_n hx hb dX0_stirred_5 rfl (lv_at hl 0 rfl) ?_
      refine va_get (D := D) (ci := 0) (v := .int (nI pe)) (C := RX0) (T := TX0) (N := 9) hx hb hts uX0 hown hK hP 0 rfl rfl 2 (by decide) w1 (fun _ h9 => h9) rfl dX0_stirred_6 ?_
      refine lv_icmp_ge (tgt := 33) hx hb dX0_stirred_9 (by decide) (fun _ => ?_) (fun c => absurd (nle_t (a := pe) (b := pe) rfl rfl (by omega) (by omega) (by omega)) c)
      refine lv_iload_n hx hb dX0_stirred_33 rfl (lv_at hl 2 rfl) ?_
      exact eRi hx hb hr hlk hQ dX0_stirred_34 (Eq.symm (by simp only [f_X0_stirred]))
    | succ k4 ih4 =>
      intro i1 hk4 ls hl
      refine lv_iload_n hx hb dX0_stirred_4 rfl (lv_at hl 3 rfl) ?_
      refine lv_aload_n hx hb dX0_stirred_5 rfl (lv_at hl 0 rfl) ?_
      refine va_get (D := D) (ci := 0) (v := .int (nI pe)) (C := RX0) (T := TX0) (N := 9) hx hb hts uX0 hown hK hP 0 rfl rfl 2 (by decide) w1 (fun _ h9 => h9) rfl dX0_stirred_6 ?_
      refine lv_icmp_ge (tgt := 33) hx hb dX0_stirred_9 (by decide) (fun c => absurd c (nle_f (a := pe) (b := i1) rfl rfl (by omega) (by omega) (by omega))) (fun _ => ?_)
      refine lv_iload_n hx hb dX0_stirred_12 rfl (lv_at hl 2 rfl) ?_
      refine lv_iload_n hx hb dX0_stirred_13 rfl (lv_at hl 1 rfl) ?_
      refine lv_iload_n hx hb dX0_stirred_14 rfl (lv_at hl 3 rfl) ?_
      refine lv_ishr hx hb dX0_stirred_15 ?_
      refine lv_iconst (v := 1) hx hb dX0_stirred_16 (by decide) ?_
      refine lv_iand hx hb dX0_stirred_17 ?_
      refine lv_aload_n hx hb dX0_stirred_18 rfl (lv_at hl 0 rfl) ?_
      refine va_get (D := D) (ci := 0) (v := .ref aEs) (C := RX0) (T := TX0) (N := 9) hx hb hts uX0 hown hK hP 0 rfl rfl 3 (by decide) w2 (fun _ h9 => h9) rfl dX0_stirred_19 ?_
      refine lv_iload_n hx hb dX0_stirred_22 rfl (lv_at hl 3 rfl) ?_
      refine xald hx hb hK hP 1 rfl i1 rfl (by omega) (by decide) dX0_stirred_23 ?_
      refine lv_ishl hx hb dX0_stirred_24 ?_
      refine lv_ior hx hb dX0_stirred_25 ?_
      refine lv_istore_n (lv' := [(2, .int ((f_X0_stirred_4_v2 sc who i1) ||| (((who >>> (nI i1 &&& 31)) &&& 1) <<< ((sc i1) &&& 31)))), (0, .ref aE), (1, .int who), (3, .int (nI i1))]) hx hb dX0_stirred_26 rfl hl (by decide) rfl (fun ls hl => ?_)
      refine lv_iinc (v := nI (i1 + 1)) (lv' := [(3, .int (nI (i1 + 1))), (2, .int ((f_X0_stirred_4_v2 sc who i1) ||| (((who >>> (nI i1 &&& 31)) &&& 1) <<< ((sc i1) &&& 31)))), (0, .ref aE), (1, .int who)]) hx hb dX0_stirred_27 hl (k := 3) rfl (nI_add i1 1) (by decide) rfl (fun ls hl => ?_)
      refine lv_goto (tgt := 4) hx hb dX0_stirred_30 (by decide) ?_
      have e_v2 : (f_X0_stirred_4_v2 sc who (i1 + 1)) = ((f_X0_stirred_4_v2 sc who i1) ||| (((who >>> (nI i1 &&& 31)) &&& 1) <<< ((sc i1) &&& 31))) := (by simp only [f_X0_stirred_4_v2])
      exact ih4 (i1 + 1) (by omega) ls (by rw [e_v2]; exact lv_sub hl [2, 3, 1, 0] rfl)
  exact lp4 pe 0 (by omega) ls (lv_sub hl [2, 3, 1, 0] rfl)

def rm_X0_inDark : Room := { frames := 0, cells := 0, slots := 0, locals := 0 }
def f_X0_inDark_4_v2 (sc : Nat → Int32) (litOnes : Int32) : Nat → Int32
  | 0 => 0
  | i1 + 1 => ((f_X0_inDark_4_v2 sc litOnes i1) + (1 - ((litOnes >>> ((sc i1) &&& 31)) &&& 1)))
def f_X0_inDark (pe : Nat) (sc : Nat → Int32) (litOnes : Int32) : Int32 := (f_X0_inDark_4_v2 sc litOnes pe)
theorem hd_X0_inDark : yX0_inDark.cls = RX0 ∧ yX0_inDark.cls ≠ "java/lang/invoke/MethodHandle" ∧ yX0_inDark.cls ≠ "java/lang/invoke/VarHandle" ∧ (parseMethodDescriptor yX0_inDark.desc).map (fun d => d.parameters.length) = some 1 := by decide +kernel
set_option maxHeartbeats 4000000 in
set_option maxRecDepth 100000 in
theorem c_X0_inDark (l : Launch) (D : va_G) (cI : ClassId) (aE aEs aEw aEd aEl aEt : Nat) (li : Int32) (mi : Int32) (pe : Nat) (to : Int32) (sc : Nat → Int32) (litOnes : Int32) (hpe : pe ≤ 4) : MetR l yX0_inDark wsX0_inDark rm_X0_inDark D cI [.ref aE, .int litOnes] [(aE, .inr (0, [.int li, .int mi, .int (nI pe), .ref aEs, .ref aEw, .ref aEd, .int to, .ref aEl, .ref aEt])), (aEs, .inl (cI, 4, .inl sc))] (some (.int (f_X0_inDark pe sc litOnes))) := by
  refine mR (cc := cX0_inDark) (maxL := 4) (ret := (some .int)) (by decide) rfl (Nat.le_of_ble_eq_true rfl) ?_
  intro p e s m args below meth c Q hx hb hr hml hown hts hlk hP hK hQ ls hl
  have hown : s.vm.findClass RX0 = some m.cls := hown
  have hl : lv_has ls 4 [(0, .ref aE), (1, .int litOnes)] := hl
  have w1 := hts (.fieldLink RX0 34 "DarkOffice$Evening" "people" "I") (List.mem_of_getElem? (i := 1) rfl)
  have uX0 : ∀ w ∈ wsX00, w ∈ wsX0_inDark := fun _ h => List.mem_cons_of_mem _ (List.mem_append_right _ h)
  have w2 := hts (.fieldLink RX0 9 "DarkOffice$Evening" "sections" "[I") (List.mem_of_getElem? (i := 2) rfl)
  refine lv_iconst (v := 0) hx hb dX0_inDark_0 (by decide) ?_
  refine lv_istore_n (lv' := [(2, .int 0), (0, .ref aE), (1, .int litOnes)]) hx hb dX0_inDark_1 rfl hl (by decide) rfl (fun ls hl => ?_)
  refine lv_iconst (v := 0) hx hb dX0_inDark_2 (by decide) ?_
  refine lv_istore_n (lv' := [(3, .int 0), (2, .int 0), (0, .ref aE), (1, .int litOnes)]) hx hb dX0_inDark_3 rfl hl (by decide) rfl (fun ls hl => ?_)
  have lp4 : ∀ (k4 i1 : Nat), i1 + k4 = pe → ∀ ls : Array Slot, lv_has ls 4 [(0, .ref aE), (1, .int litOnes), (2, .int ((f_X0_inDark_4_v2 sc litOnes i1))), (3, .int (nI i1))] → W p l e rm_X0_inDark s m args below meth c s.heap [] 0 0 Q (F0 m 4 ls []) := by
    intro k4
    induction k4 with
    | zero =>
      intro i1 hk4 ls hl
      have hN4 : pe = i1 := by omega
      subst hN4
      refine lv_iload_n hx hb dX0_inDark_4 rfl (lv_at hl 3 rfl) ?_
      refine lv_aload_n hx hb dX0_inDark_5 rfl (lv_at hl 0 rfl) ?_
      refine va_get (D := D) (ci := 0) (v := .int (nI pe)) (C := RX0) (T := TX0) (N := 9) hx hb hts uX0 hown hK hP 0 rfl rfl 2 (by decide) w1 (fun _ h9 => h9) rfl dX0_inDark_6 ?_
      refine lv_icmp_ge (tgt := 33) hx hb dX0_inDark_9 (by decide) (fun _ => ?_) (fun c => absurd (nle_t (a := pe) (b := pe) rfl rfl (by omega) (by omega) (by omega)) c)
      refine lv_iload_n hx hb dX0_inDark_33 rfl (lv_at hl 2 rfl) ?_
      exact eRi hx hb hr hlk hQ dX0_inDark_34 (Eq.symm (by simp only [f_X0_inDark]))
    | succ k4 ih4 =>
      intro i1 hk4 ls hl
      refine lv_iload_n hx hb dX0_inDark_4 rfl (lv_at hl 3 rfl) ?_
      refine lv_aload_n hx hb dX0_inDark_5 rfl (lv_at hl 0 rfl) ?_
      refine va_get (D := D) (ci := 0) (v := .int (nI pe)) (C := RX0) (T := TX0) (N := 9) hx hb hts uX0 hown hK hP 0 rfl rfl 2 (by decide) w1 (fun _ h9 => h9) rfl dX0_inDark_6 ?_
      refine lv_icmp_ge (tgt := 33) hx hb dX0_inDark_9 (by decide) (fun c => absurd c (nle_f (a := pe) (b := i1) rfl rfl (by omega) (by omega) (by omega))) (fun _ => ?_)
      refine lv_iload_n hx hb dX0_inDark_12 rfl (lv_at hl 2 rfl) ?_
      refine lv_iconst (v := 1) hx hb dX0_inDark_13 (by decide) ?_
      refine lv_iload_n hx hb dX0_inDark_14 rfl (lv_at hl 1 rfl) ?_
      refine lv_aload_n hx hb dX0_inDark_15 rfl (lv_at hl 0 rfl) ?_
      refine va_get (D := D) (ci := 0) (v := .ref aEs) (C := RX0) (T := TX0) (N := 9) hx hb hts uX0 hown hK hP 0 rfl rfl 3 (by decide) w2 (fun _ h9 => h9) rfl dX0_inDark_16 ?_
      refine lv_iload_n hx hb dX0_inDark_19 rfl (lv_at hl 3 rfl) ?_
      refine xald hx hb hK hP 1 rfl i1 rfl (by omega) (by decide) dX0_inDark_20 ?_
      refine lv_ishr hx hb dX0_inDark_21 ?_
      refine lv_iconst (v := 1) hx hb dX0_inDark_22 (by decide) ?_
      refine lv_iand hx hb dX0_inDark_23 ?_
      refine lv_isub hx hb dX0_inDark_24 ?_
      refine lv_iadd hx hb dX0_inDark_25 ?_
      refine lv_istore_n (lv' := [(2, .int ((f_X0_inDark_4_v2 sc litOnes i1) + (1 - ((litOnes >>> ((sc i1) &&& 31)) &&& 1)))), (0, .ref aE), (1, .int litOnes), (3, .int (nI i1))]) hx hb dX0_inDark_26 rfl hl (by decide) rfl (fun ls hl => ?_)
      refine lv_iinc (v := nI (i1 + 1)) (lv' := [(3, .int (nI (i1 + 1))), (2, .int ((f_X0_inDark_4_v2 sc litOnes i1) + (1 - ((litOnes >>> ((sc i1) &&& 31)) &&& 1)))), (0, .ref aE), (1, .int litOnes)]) hx hb dX0_inDark_27 hl (k := 3) rfl (nI_add i1 1) (by decide) rfl (fun ls hl => ?_)
      refine lv_goto (tgt := 4) hx hb dX0_inDark_30 (by decide) ?_
      have e_v2 : (f_X0_inDark_4_v2 sc litOnes (i1 + 1)) = ((f_X0_inDark_4_v2 sc litOnes i1) + (1 - ((litOnes >>> ((sc i1) &&& 31)) &&& 1))) := (by simp only [f_X0_inDark_4_v2])
      exact ih4 (i1 + 1) (by omega) ls (by rw [e_v2]; exact lv_sub hl [2, 3, 1, 0] rfl)
  exact lp4 pe 0 (by omega) ls (lv_sub hl [2, 3, 1, 0] rfl)

def rm_X0_peopleIn : Room := { frames := 0, cells := 0, slots := 0, locals := 0 }
def f_X0_peopleIn_4_v2 (sc : Nat → Int32) (sect : Int32) : Nat → Int32
  | 0 => 0
  | i1 + 1 => (if (sc i1) = sect then ((f_X0_peopleIn_4_v2 sc sect i1) ||| ((1 : Int32) <<< (nI i1 &&& 31))) else ((f_X0_peopleIn_4_v2 sc sect i1) ||| 0))
def f_X0_peopleIn (pe : Nat) (sc : Nat → Int32) (sect : Int32) : Int32 := (f_X0_peopleIn_4_v2 sc sect pe)
theorem hd_X0_peopleIn : yX0_peopleIn.cls = RX0 ∧ yX0_peopleIn.cls ≠ "java/lang/invoke/MethodHandle" ∧ yX0_peopleIn.cls ≠ "java/lang/invoke/VarHandle" ∧ (parseMethodDescriptor yX0_peopleIn.desc).map (fun d => d.parameters.length) = some 1 := by decide +kernel
set_option maxHeartbeats 4000000 in
set_option maxRecDepth 100000 in
theorem c_X0_peopleIn (l : Launch) (D : va_G) (cI : ClassId) (aE aEs aEw aEd aEl aEt : Nat) (li : Int32) (mi : Int32) (pe : Nat) (to : Int32) (sc : Nat → Int32) (sect : Int32) (hpe : pe ≤ 4) : MetR l yX0_peopleIn wsX0_peopleIn rm_X0_peopleIn D cI [.ref aE, .int sect] [(aE, .inr (0, [.int li, .int mi, .int (nI pe), .ref aEs, .ref aEw, .ref aEd, .int to, .ref aEl, .ref aEt])), (aEs, .inl (cI, 4, .inl sc))] (some (.int (f_X0_peopleIn pe sc sect))) := by
  refine mR (cc := cX0_peopleIn) (maxL := 4) (ret := (some .int)) (by decide) rfl (Nat.le_of_ble_eq_true rfl) ?_
  intro p e s m args below meth c Q hx hb hr hml hown hts hlk hP hK hQ ls hl
  have hown : s.vm.findClass RX0 = some m.cls := hown
  have hl : lv_has ls 4 [(0, .ref aE), (1, .int sect)] := hl
  have w1 := hts (.fieldLink RX0 34 "DarkOffice$Evening" "people" "I") (List.mem_of_getElem? (i := 1) rfl)
  have uX0 : ∀ w ∈ wsX00, w ∈ wsX0_peopleIn := fun _ h => List.mem_cons_of_mem _ (List.mem_append_right _ h)
  have w2 := hts (.fieldLink RX0 9 "DarkOffice$Evening" "sections" "[I") (List.mem_of_getElem? (i := 2) rfl)
  refine lv_iconst (v := 0) hx hb dX0_peopleIn_0 (by decide) ?_
  refine lv_istore_n (lv' := [(2, .int 0), (0, .ref aE), (1, .int sect)]) hx hb dX0_peopleIn_1 rfl hl (by decide) rfl (fun ls hl => ?_)
  refine lv_iconst (v := 0) hx hb dX0_peopleIn_2 (by decide) ?_
  refine lv_istore_n (lv' := [(3, .int 0), (2, .int 0), (0, .ref aE), (1, .int sect)]) hx hb dX0_peopleIn_3 rfl hl (by decide) rfl (fun ls hl => ?_)
  have lp4 : ∀ (k4 i1 : Nat), i1 + k4 = pe → ∀ ls : Array Slot, lv_has ls 4 [(0, .ref aE), (1, .int sect), (2, .int ((f_X0_peopleIn_4_v2 sc sect i1))), (3, .int (nI i1))] → W p l e rm_X0_peopleIn s m args below meth c s.heap [] 0 0 Q (F0 m 4 ls []) := by
    intro k4
    induction k4 with
    | zero =>
      intro i1 hk4 ls hl
      have hN4 : pe = i1 := by omega
      subst hN4
      refine lv_iload_n hx hb dX0_peopleIn_4 rfl (lv_at hl 3 rfl) ?_
      refine lv_aload_n hx hb dX0_peopleIn_5 rfl (lv_at hl 0 rfl) ?_
      refine va_get (D := D) (ci := 0) (v := .int (nI pe)) (C := RX0) (T := TX0) (N := 9) hx hb hts uX0 hown hK hP 0 rfl rfl 2 (by decide) w1 (fun _ h9 => h9) rfl dX0_peopleIn_6 ?_
      refine lv_icmp_ge (tgt := 38) hx hb dX0_peopleIn_9 (by decide) (fun _ => ?_) (fun c => absurd (nle_t (a := pe) (b := pe) rfl rfl (by omega) (by omega) (by omega)) c)
      refine lv_iload_n hx hb dX0_peopleIn_38 rfl (lv_at hl 2 rfl) ?_
      exact eRi hx hb hr hlk hQ dX0_peopleIn_39 (Eq.symm (by simp only [f_X0_peopleIn]))
    | succ k4 ih4 =>
      intro i1 hk4 ls hl
      refine lv_iload_n hx hb dX0_peopleIn_4 rfl (lv_at hl 3 rfl) ?_
      refine lv_aload_n hx hb dX0_peopleIn_5 rfl (lv_at hl 0 rfl) ?_
      refine va_get (D := D) (ci := 0) (v := .int (nI pe)) (C := RX0) (T := TX0) (N := 9) hx hb hts uX0 hown hK hP 0 rfl rfl 2 (by decide) w1 (fun _ h9 => h9) rfl dX0_peopleIn_6 ?_
      refine lv_icmp_ge (tgt := 38) hx hb dX0_peopleIn_9 (by decide) (fun c => absurd c (nle_f (a := pe) (b := i1) rfl rfl (by omega) (by omega) (by omega))) (fun _ => ?_)
      refine lv_iload_n hx hb dX0_peopleIn_12 rfl (lv_at hl 2 rfl) ?_
      refine lv_aload_n hx hb dX0_peopleIn_13 rfl (lv_at hl 0 rfl) ?_
      refine va_get (D := D) (ci := 0) (v := .ref aEs) (C := RX0) (T := TX0) (N := 9) hx hb hts uX0 hown hK hP 0 rfl rfl 3 (by decide) w2 (fun _ h9 => h9) rfl dX0_peopleIn_14 ?_
      refine lv_iload_n hx hb dX0_peopleIn_17 rfl (lv_at hl 3 rfl) ?_
      refine xald hx hb hK hP 1 rfl i1 rfl (by omega) (by decide) dX0_peopleIn_18 ?_
      refine lv_iload_n hx hb dX0_peopleIn_19 rfl (lv_at hl 1 rfl) ?_
      refine lv_icmp_ne (tgt := 29) hx hb dX0_peopleIn_20 (by decide) (fun c1 => ?_) (fun c1 => ?_)
      · refine lv_iconst (v := 0) hx hb dX0_peopleIn_29 (by decide) ?_
        refine lv_ior hx hb dX0_peopleIn_30 ?_
        refine lv_istore_n (lv' := [(2, .int ((f_X0_peopleIn_4_v2 sc sect i1) ||| 0)), (0, .ref aE), (1, .int sect), (3, .int (nI i1))]) hx hb dX0_peopleIn_31 rfl hl (by decide) rfl (fun ls hl => ?_)
        refine lv_iinc (v := nI (i1 + 1)) (lv' := [(3, .int (nI (i1 + 1))), (2, .int ((f_X0_peopleIn_4_v2 sc sect i1) ||| 0)), (0, .ref aE), (1, .int sect)]) hx hb dX0_peopleIn_32 hl (k := 3) rfl (nI_add i1 1) (by decide) rfl (fun ls hl => ?_)
        refine lv_goto (tgt := 4) hx hb dX0_peopleIn_35 (by decide) ?_
        have e_v2 : (f_X0_peopleIn_4_v2 sc sect (i1 + 1)) = ((f_X0_peopleIn_4_v2 sc sect i1) ||| 0) := (by simp only [f_X0_peopleIn_4_v2, if_neg c1])
        exact ih4 (i1 + 1) (by omega) ls (by rw [e_v2]; exact lv_sub hl [2, 3, 1, 0] rfl)
      · refine lv_iconst (v := 1) hx hb dX0_peopleIn_23 (by decide) ?_
        refine lv_iload_n hx hb dX0_peopleIn_24 rfl (lv_at hl 3 rfl) ?_
        refine lv_ishl hx hb dX0_peopleIn_25 ?_
        refine lv_goto (tgt := 30) hx hb dX0_peopleIn_26 (by decide) ?_
        refine lv_ior hx hb dX0_peopleIn_30 ?_
        refine lv_istore_n (lv' := [(2, .int ((f_X0_peopleIn_4_v2 sc sect i1) ||| ((1 : Int32) <<< (nI i1 &&& 31)))), (0, .ref aE), (1, .int sect), (3, .int (nI i1))]) hx hb dX0_peopleIn_31 rfl hl (by decide) rfl (fun ls hl => ?_)
        refine lv_iinc (v := nI (i1 + 1)) (lv' := [(3, .int (nI (i1 + 1))), (2, .int ((f_X0_peopleIn_4_v2 sc sect i1) ||| ((1 : Int32) <<< (nI i1 &&& 31)))), (0, .ref aE), (1, .int sect)]) hx hb dX0_peopleIn_32 hl (k := 3) rfl (nI_add i1 1) (by decide) rfl (fun ls hl => ?_)
        refine lv_goto (tgt := 4) hx hb dX0_peopleIn_35 (by decide) ?_
        have e_v2 : (f_X0_peopleIn_4_v2 sc sect (i1 + 1)) = ((f_X0_peopleIn_4_v2 sc sect i1) ||| ((1 : Int32) <<< (nI i1 &&& 31))) := (by simp only [f_X0_peopleIn_4_v2, if_pos c1])
        exact ih4 (i1 + 1) (by omega) ls (by rw [e_v2]; exact lv_sub hl [2, 3, 1, 0] rfl)
  exact lp4 pe 0 (by omega) ls (lv_sub hl [2, 3, 1, 0] rfl)

def rm_X0_write : Room := { frames := 0, cells := 0, slots := 0, locals := 0 }
def f_X0_write_2_Ew (wv : Nat → Int32) (who : Int32) : Nat → (Nat → Int32)
  | 0 => wv
  | i1 + 1 => (upd (f_X0_write_2_Ew wv who i1) i1 (((f_X0_write_2_Ew wv who i1) i1) + ((who >>> (nI i1 &&& 31)) &&& 1)))
def f_X0_write_2_Ed (sc : Nat → Int32) (dk : Nat → Int32) (litOnes : Int32) : Nat → (Nat → Int32)
  | 0 => dk
  | i1 + 1 => (upd (f_X0_write_2_Ed sc dk litOnes i1) i1 (((f_X0_write_2_Ed sc dk litOnes i1) i1) + (1 - ((litOnes >>> ((sc i1) &&& 31)) &&& 1))))
def f_X0_write_Ew (pe : Nat) (wv : Nat → Int32) (who : Int32) : Nat → Int32 := (f_X0_write_2_Ew wv who pe)
def f_X0_write_Ed (pe : Nat) (sc : Nat → Int32) (dk : Nat → Int32) (litOnes : Int32) : Nat → Int32 := (f_X0_write_2_Ed sc dk litOnes pe)
theorem hd_X0_write : yX0_write.cls = RX0 ∧ yX0_write.cls ≠ "java/lang/invoke/MethodHandle" ∧ yX0_write.cls ≠ "java/lang/invoke/VarHandle" ∧ (parseMethodDescriptor yX0_write.desc).map (fun d => d.parameters.length) = some 2 := by decide +kernel
set_option maxHeartbeats 4000000 in
set_option maxRecDepth 100000 in
theorem c_X0_write (l : Launch) (D : va_G) (cI : ClassId) (aE aEs aEw aEd aEl aEt : Nat) (li : Int32) (mi : Int32) (pe : Nat) (to : Int32) (sc : Nat → Int32) (wv : Nat → Int32) (dk : Nat → Int32) (litOnes : Int32) (who : Int32) (hpe : pe ≤ 4) : MetX l yX0_write wsX0_write rm_X0_write D cI [.ref aE, .int who, .int litOnes] [(aE, .inr (0, [.int li, .int mi, .int (nI pe), .ref aEs, .ref aEw, .ref aEd, .int to, .ref aEl, .ref aEt])), (aEs, .inl (cI, 4, .inl sc)), (aEw, .inl (cI, 4, .inl wv)), (aEd, .inl (cI, 4, .inl dk))] none [(aE, .inr (0, [.int li, .int mi, .int (nI pe), .ref aEs, .ref aEw, .ref aEd, .int to, .ref aEl, .ref aEt])), (aEs, .inl (cI, 4, .inl sc)), (aEw, .inl (cI, 4, .inl (f_X0_write_Ew pe wv who))), (aEd, .inl (cI, 4, .inl (f_X0_write_Ed pe sc dk litOnes)))] := by
  refine mX (cc := cX0_write) (maxL := 4) (ret := none) (by decide) rfl (Nat.le_of_ble_eq_true rfl) ?_
  intro p e s m args below meth c Q A hx hb hr hml hown hts hlk hP hK hD hA hS hQ ls hl
  have hown : s.vm.findClass RX0 = some m.cls := hown
  have hl : lv_has ls 4 [(0, .ref aE), (1, .int who), (2, .int litOnes)] := hl
  have w1 := hts (.fieldLink RX0 34 "DarkOffice$Evening" "people" "I") (List.mem_of_getElem? (i := 1) rfl)
  have uX0 : ∀ w ∈ wsX00, w ∈ wsX0_write := fun _ h => List.mem_cons_of_mem _ (List.mem_append_right _ h)
  have w2 := hts (.fieldLink RX0 15 "DarkOffice$Evening" "waves" "[I") (List.mem_of_getElem? (i := 2) rfl)
  have w3 := hts (.fieldLink RX0 18 "DarkOffice$Evening" "darks" "[I") (List.mem_of_getElem? (i := 3) rfl)
  have w4 := hts (.fieldLink RX0 9 "DarkOffice$Evening" "sections" "[I") (List.mem_of_getElem? (i := 4) rfl)
  refine lv_iconst (v := 0) hx hb dX0_write_0 (by decide) ?_
  refine lv_istore_n (lv' := [(3, .int 0), (0, .ref aE), (1, .int who), (2, .int litOnes)]) hx hb dX0_write_1 rfl hl (by decide) rfl (fun ls hl => ?_)
  have lp2 : ∀ (k2 i1 : Nat), i1 + k2 = pe → ∀ (H : Heap) (locs : List Loc), va_P D vwCl [(aE, .inr (0, [.int li, .int mi, .int (nI pe), .ref aEs, .ref aEw, .ref aEd, .int to, .ref aEl, .ref aEt])), (aEs, .inl (cI, 4, .inl sc)), (aEw, .inl (cI, 4, .inl ((f_X0_write_2_Ew wv who i1)))), (aEd, .inl (cI, 4, .inl ((f_X0_write_2_Ed sc dk litOnes i1))))] H → va_D A [(aE, .inr (0, [.int li, .int mi, .int (nI pe), .ref aEs, .ref aEw, .ref aEd, .int to, .ref aEl, .ref aEt])), (aEs, .inl (cI, 4, .inl sc)), (aEw, .inl (cI, 4, .inl ((f_X0_write_2_Ew wv who i1)))), (aEd, .inl (cI, 4, .inl ((f_X0_write_2_Ed sc dk litOnes i1))))] → va_S A s.heap H locs → ∀ ls : Array Slot, lv_has ls 4 [(0, .ref aE), (1, .int who), (2, .int litOnes), (3, .int (nI i1))] → W p l e rm_X0_write s m args below meth c H locs 0 0 Q (F0 m 2 ls []) := by
    intro k2
    induction k2 with
    | zero =>
      intro i1 hk2 H locs hP hD hS ls hl
      have hN2 : pe = i1 := by omega
      subst hN2
      refine lv_iload_n hx hb dX0_write_2 rfl (lv_at hl 3 rfl) ?_
      refine lv_aload_n hx hb dX0_write_3 rfl (lv_at hl 0 rfl) ?_
      refine va_get (D := D) (ci := 0) (v := .int (nI pe)) (C := RX0) (T := TX0) (N := 9) hx hb hts uX0 hown hK hP 0 rfl rfl 2 (by decide) w1 (fun _ h9 => h9) rfl dX0_write_4 ?_
      refine lv_icmp_ge (tgt := 51) hx hb dX0_write_7 (by decide) (fun _ => ?_) (fun c => absurd (nle_t (a := pe) (b := pe) rfl rfl (by omega) (by omega) (by omega)) c)
      have e_Ew : (f_X0_write_Ew pe wv who) = (f_X0_write_2_Ew wv who pe) := (by simp only [f_X0_write_Ew])
      have e_Ed : (f_X0_write_Ed pe sc dk litOnes) = (f_X0_write_2_Ed sc dk litOnes pe) := (by simp only [f_X0_write_Ed])
      exact eXv hx hb hr hlk hQ (by rw [e_Ew, e_Ed]; exact hP) (by rw [e_Ew, e_Ed]; exact hD) hS dX0_write_51
    | succ k2 ih2 =>
      intro i1 hk2 H locs hP hD hS ls hl
      refine lv_iload_n hx hb dX0_write_2 rfl (lv_at hl 3 rfl) ?_
      refine lv_aload_n hx hb dX0_write_3 rfl (lv_at hl 0 rfl) ?_
      refine va_get (D := D) (ci := 0) (v := .int (nI pe)) (C := RX0) (T := TX0) (N := 9) hx hb hts uX0 hown hK hP 0 rfl rfl 2 (by decide) w1 (fun _ h9 => h9) rfl dX0_write_4 ?_
      refine lv_icmp_ge (tgt := 51) hx hb dX0_write_7 (by decide) (fun c => absurd c (nle_f (a := pe) (b := i1) rfl rfl (by omega) (by omega) (by omega))) (fun _ => ?_)
      refine lv_aload_n hx hb dX0_write_10 rfl (lv_at hl 0 rfl) ?_
      refine va_get (D := D) (ci := 0) (v := .ref aEw) (C := RX0) (T := TX0) (N := 9) hx hb hts uX0 hown hK hP 0 rfl rfl 4 (by decide) w2 (fun _ h9 => h9) rfl dX0_write_11 ?_
      refine lv_iload_n hx hb dX0_write_14 rfl (lv_at hl 3 rfl) ?_
      refine lv_dup2_11 hx hb dX0_write_15 rfl rfl ?_
      refine xald hx hb hK hP 2 rfl i1 rfl (by omega) (by decide) dX0_write_16 ?_
      refine lv_iload_n hx hb dX0_write_17 rfl (lv_at hl 1 rfl) ?_
      refine lv_iload_n hx hb dX0_write_18 rfl (lv_at hl 3 rfl) ?_
      refine lv_ishr hx hb dX0_write_19 ?_
      refine lv_iconst (v := 1) hx hb dX0_write_20 (by decide) ?_
      refine lv_iand hx hb dX0_write_21 ?_
      refine lv_iadd hx hb dX0_write_22 ?_
      refine xast hx hb hK hP hD hS 2 rfl i1 rfl (by omega) (by decide) dX0_write_23 (fun H locs hP hD hS => ?_)
      have hP : va_P D vwCl [(aE, .inr (0, [.int li, .int mi, .int (nI pe), .ref aEs, .ref aEw, .ref aEd, .int to, .ref aEl, .ref aEt])), (aEs, .inl (cI, 4, .inl sc)), (aEw, .inl (cI, 4, .inl (upd (f_X0_write_2_Ew wv who i1) i1 (((f_X0_write_2_Ew wv who i1) i1) + ((who >>> (nI i1 &&& 31)) &&& 1))))), (aEd, .inl (cI, 4, .inl ((f_X0_write_2_Ed sc dk litOnes i1))))] H := hP
      have hD : va_D A [(aE, .inr (0, [.int li, .int mi, .int (nI pe), .ref aEs, .ref aEw, .ref aEd, .int to, .ref aEl, .ref aEt])), (aEs, .inl (cI, 4, .inl sc)), (aEw, .inl (cI, 4, .inl (upd (f_X0_write_2_Ew wv who i1) i1 (((f_X0_write_2_Ew wv who i1) i1) + ((who >>> (nI i1 &&& 31)) &&& 1))))), (aEd, .inl (cI, 4, .inl ((f_X0_write_2_Ed sc dk litOnes i1))))] := hD
      refine lv_aload_n hx hb dX0_write_24 rfl (lv_at hl 0 rfl) ?_
      refine va_get (D := D) (ci := 0) (v := .ref aEd) (C := RX0) (T := TX0) (N := 9) hx hb hts uX0 hown hK hP 0 rfl rfl 5 (by decide) w3 (fun _ h9 => h9) rfl dX0_write_25 ?_
      refine lv_iload_n hx hb dX0_write_28 rfl (lv_at hl 3 rfl) ?_
      refine lv_dup2_11 hx hb dX0_write_29 rfl rfl ?_
      refine xald hx hb hK hP 3 rfl i1 rfl (by omega) (by decide) dX0_write_30 ?_
      refine lv_iconst (v := 1) hx hb dX0_write_31 (by decide) ?_
      refine lv_iload_n hx hb dX0_write_32 rfl (lv_at hl 2 rfl) ?_
      refine lv_aload_n hx hb dX0_write_33 rfl (lv_at hl 0 rfl) ?_
      refine va_get (D := D) (ci := 0) (v := .ref aEs) (C := RX0) (T := TX0) (N := 9) hx hb hts uX0 hown hK hP 0 rfl rfl 3 (by decide) w4 (fun _ h9 => h9) rfl dX0_write_34 ?_
      refine lv_iload_n hx hb dX0_write_37 rfl (lv_at hl 3 rfl) ?_
      refine xald hx hb hK hP 1 rfl i1 rfl (by omega) (by decide) dX0_write_38 ?_
      refine lv_ishr hx hb dX0_write_39 ?_
      refine lv_iconst (v := 1) hx hb dX0_write_40 (by decide) ?_
      refine lv_iand hx hb dX0_write_41 ?_
      refine lv_isub hx hb dX0_write_42 ?_
      refine lv_iadd hx hb dX0_write_43 ?_
      refine xast hx hb hK hP hD hS 3 rfl i1 rfl (by omega) (by decide) dX0_write_44 (fun H locs hP hD hS => ?_)
      have hP : va_P D vwCl [(aE, .inr (0, [.int li, .int mi, .int (nI pe), .ref aEs, .ref aEw, .ref aEd, .int to, .ref aEl, .ref aEt])), (aEs, .inl (cI, 4, .inl sc)), (aEw, .inl (cI, 4, .inl (upd (f_X0_write_2_Ew wv who i1) i1 (((f_X0_write_2_Ew wv who i1) i1) + ((who >>> (nI i1 &&& 31)) &&& 1))))), (aEd, .inl (cI, 4, .inl (upd (f_X0_write_2_Ed sc dk litOnes i1) i1 (((f_X0_write_2_Ed sc dk litOnes i1) i1) + (1 - ((litOnes >>> ((sc i1) &&& 31)) &&& 1))))))] H := hP
      have hD : va_D A [(aE, .inr (0, [.int li, .int mi, .int (nI pe), .ref aEs, .ref aEw, .ref aEd, .int to, .ref aEl, .ref aEt])), (aEs, .inl (cI, 4, .inl sc)), (aEw, .inl (cI, 4, .inl (upd (f_X0_write_2_Ew wv who i1) i1 (((f_X0_write_2_Ew wv who i1) i1) + ((who >>> (nI i1 &&& 31)) &&& 1))))), (aEd, .inl (cI, 4, .inl (upd (f_X0_write_2_Ed sc dk litOnes i1) i1 (((f_X0_write_2_Ed sc dk litOnes i1) i1) + (1 - ((litOnes >>> ((sc i1) &&& 31)) &&& 1))))))] := hD
      refine lv_iinc (v := nI (i1 + 1)) (lv' := [(3, .int (nI (i1 + 1))), (0, .ref aE), (1, .int who), (2, .int litOnes)]) hx hb dX0_write_45 hl (k := 3) rfl (nI_add i1 1) (by decide) rfl (fun ls hl => ?_)
      refine lv_goto (tgt := 2) hx hb dX0_write_48 (by decide) ?_
      have e_Ew : (f_X0_write_2_Ew wv who (i1 + 1)) = (upd (f_X0_write_2_Ew wv who i1) i1 (((f_X0_write_2_Ew wv who i1) i1) + ((who >>> (nI i1 &&& 31)) &&& 1))) := (by simp only [f_X0_write_2_Ew])
      have e_Ed : (f_X0_write_2_Ed sc dk litOnes (i1 + 1)) = (upd (f_X0_write_2_Ed sc dk litOnes i1) i1 (((f_X0_write_2_Ed sc dk litOnes i1) i1) + (1 - ((litOnes >>> ((sc i1) &&& 31)) &&& 1)))) := (by simp only [f_X0_write_2_Ed])
      exact ih2 (i1 + 1) (by omega) _ _ (by rw [e_Ew, e_Ed]; exact hP) (by rw [e_Ew, e_Ed]; exact hD) hS ls (lv_sub hl [1, 2, 3, 0] rfl)
  exact lp2 pe 0 (by omega) _ _ hP hD hS ls (lv_sub hl [1, 2, 3, 0] rfl)

def rm_X0_ofAll : Room := { frames := 0, cells := 0, slots := 0, locals := 0 }
def f_X0_ofAll_4_v2 (fr : Nat → Int32) : Nat → Int32
  | 0 => 0
  | i1 + 1 => ((f_X0_ofAll_4_v2 fr i1) + (fr i1))
def f_X0_ofAll (pe : Nat) (fr : Nat → Int32) : Int32 := (f_X0_ofAll_4_v2 fr pe)
theorem hd_X0_ofAll : yX0_ofAll.cls = RX0 ∧ yX0_ofAll.cls ≠ "java/lang/invoke/MethodHandle" ∧ yX0_ofAll.cls ≠ "java/lang/invoke/VarHandle" ∧ (parseMethodDescriptor yX0_ofAll.desc).map (fun d => d.parameters.length) = some 1 := by decide +kernel
set_option maxHeartbeats 4000000 in
set_option maxRecDepth 100000 in
theorem c_X0_ofAll (l : Launch) (D : va_G) (cI : ClassId) (aE aEs aEw aEd aEl aEt aF : Nat) (li : Int32) (mi : Int32) (pe : Nat) (to : Int32) (fr : Nat → Int32) (hpe : pe ≤ 4) : MetR l yX0_ofAll wsX0_ofAll rm_X0_ofAll D cI [.ref aE, .ref aF] [(aE, .inr (0, [.int li, .int mi, .int (nI pe), .ref aEs, .ref aEw, .ref aEd, .int to, .ref aEl, .ref aEt])), (aF, .inl (cI, 4, .inl fr))] (some (.int (f_X0_ofAll pe fr))) := by
  refine mR (cc := cX0_ofAll) (maxL := 4) (ret := (some .int)) (by decide) rfl (Nat.le_of_ble_eq_true rfl) ?_
  intro p e s m args below meth c Q hx hb hr hml hown hts hlk hP hK hQ ls hl
  have hown : s.vm.findClass RX0 = some m.cls := hown
  have hl : lv_has ls 4 [(0, .ref aE), (1, .ref aF)] := hl
  have w1 := hts (.fieldLink RX0 34 "DarkOffice$Evening" "people" "I") (List.mem_of_getElem? (i := 1) rfl)
  have uX0 : ∀ w ∈ wsX00, w ∈ wsX0_ofAll := fun _ h => List.mem_cons_of_mem _ (List.mem_append_right _ h)
  refine lv_iconst (v := 0) hx hb dX0_ofAll_0 (by decide) ?_
  refine lv_istore_n (lv' := [(2, .int 0), (0, .ref aE), (1, .ref aF)]) hx hb dX0_ofAll_1 rfl hl (by decide) rfl (fun ls hl => ?_)
  refine lv_iconst (v := 0) hx hb dX0_ofAll_2 (by decide) ?_
  refine lv_istore_n (lv' := [(3, .int 0), (2, .int 0), (0, .ref aE), (1, .ref aF)]) hx hb dX0_ofAll_3 rfl hl (by decide) rfl (fun ls hl => ?_)
  have lp4 : ∀ (k4 i1 : Nat), i1 + k4 = pe → ∀ ls : Array Slot, lv_has ls 4 [(0, .ref aE), (1, .ref aF), (2, .int ((f_X0_ofAll_4_v2 fr i1))), (3, .int (nI i1))] → W p l e rm_X0_ofAll s m args below meth c s.heap [] 0 0 Q (F0 m 4 ls []) := by
    intro k4
    induction k4 with
    | zero =>
      intro i1 hk4 ls hl
      have hN4 : pe = i1 := by omega
      subst hN4
      refine lv_iload_n hx hb dX0_ofAll_4 rfl (lv_at hl 3 rfl) ?_
      refine lv_aload_n hx hb dX0_ofAll_5 rfl (lv_at hl 0 rfl) ?_
      refine va_get (D := D) (ci := 0) (v := .int (nI pe)) (C := RX0) (T := TX0) (N := 9) hx hb hts uX0 hown hK hP 0 rfl rfl 2 (by decide) w1 (fun _ h9 => h9) rfl dX0_ofAll_6 ?_
      refine lv_icmp_ge (tgt := 30) hx hb dX0_ofAll_9 (by decide) (fun _ => ?_) (fun c => absurd (nle_t (a := pe) (b := pe) rfl rfl (by omega) (by omega) (by omega)) c)
      refine lv_iload_n hx hb dX0_ofAll_30 rfl (lv_at hl 2 rfl) ?_
      exact eRi hx hb hr hlk hQ dX0_ofAll_31 (Eq.symm (by simp only [f_X0_ofAll]))
    | succ k4 ih4 =>
      intro i1 hk4 ls hl
      refine lv_iload_n hx hb dX0_ofAll_4 rfl (lv_at hl 3 rfl) ?_
      refine lv_aload_n hx hb dX0_ofAll_5 rfl (lv_at hl 0 rfl) ?_
      refine va_get (D := D) (ci := 0) (v := .int (nI pe)) (C := RX0) (T := TX0) (N := 9) hx hb hts uX0 hown hK hP 0 rfl rfl 2 (by decide) w1 (fun _ h9 => h9) rfl dX0_ofAll_6 ?_
      refine lv_icmp_ge (tgt := 30) hx hb dX0_ofAll_9 (by decide) (fun c => absurd c (nle_f (a := pe) (b := i1) rfl rfl (by omega) (by omega) (by omega))) (fun _ => ?_)
      refine lv_iload_n hx hb dX0_ofAll_12 rfl (lv_at hl 3 rfl) ?_
      refine lv_aload_n hx hb dX0_ofAll_13 rfl (lv_at hl 1 rfl) ?_
      refine va_alen (v := 4) hx hb hK hP 1 0 rfl rfl rfl dX0_ofAll_14 ?_
      refine lv_icmp_ge (tgt := 30) hx hb dX0_ofAll_15 (by decide) (fun c => absurd c (nle_f (a := 4) (b := i1) rfl rfl (by omega) (by omega) (by omega))) (fun _ => ?_)
      refine lv_iload_n hx hb dX0_ofAll_18 rfl (lv_at hl 2 rfl) ?_
      refine lv_aload_n hx hb dX0_ofAll_19 rfl (lv_at hl 1 rfl) ?_
      refine lv_iload_n hx hb dX0_ofAll_20 rfl (lv_at hl 3 rfl) ?_
      refine xald hx hb hK hP 1 rfl i1 rfl (by omega) (by decide) dX0_ofAll_21 ?_
      refine lv_iadd hx hb dX0_ofAll_22 ?_
      refine lv_istore_n (lv' := [(2, .int ((f_X0_ofAll_4_v2 fr i1) + (fr i1))), (0, .ref aE), (1, .ref aF), (3, .int (nI i1))]) hx hb dX0_ofAll_23 rfl hl (by decide) rfl (fun ls hl => ?_)
      refine lv_iinc (v := nI (i1 + 1)) (lv' := [(3, .int (nI (i1 + 1))), (2, .int ((f_X0_ofAll_4_v2 fr i1) + (fr i1))), (0, .ref aE), (1, .ref aF)]) hx hb dX0_ofAll_24 hl (k := 3) rfl (nI_add i1 1) (by decide) rfl (fun ls hl => ?_)
      refine lv_goto (tgt := 4) hx hb dX0_ofAll_27 (by decide) ?_
      have e_v2 : (f_X0_ofAll_4_v2 fr (i1 + 1)) = ((f_X0_ofAll_4_v2 fr i1) + (fr i1)) := (by simp only [f_X0_ofAll_4_v2])
      exact ih4 (i1 + 1) (by omega) ls (by rw [e_v2]; exact lv_sub hl [2, 3, 1, 0] rfl)
  exact lp4 pe 0 (by omega) ls (lv_sub hl [2, 3, 1, 0] rfl)

def rm_X0_tell : Room := { frames := 0, cells := 0, slots := 0, locals := 0 }
def f_X0_tell (to : Int32) : Int32 := (if to < 8 then (to + 1) else (-104))
def f_X0_tell_E_6 (to : Int32) : Int32 := (if to < 8 then (to + 1) else to)
def f_X0_tell_El (to : Int32) (tl : Nat → Int32) (isLit : Int32) (lamp : Int32) (minute : Int32) : Nat → Int32 := (if to < 8 then (if isLit = 0 then tl else (upd tl minute.toNatClampNeg ((tl minute.toNatClampNeg) ||| ((1 : Int32) <<< (lamp &&& 31))))) else tl)
def f_X0_tell_Et (to : Int32) (td : Nat → Int32) (isLit : Int32) (lamp : Int32) (minute : Int32) : Nat → Int32 := (if to < 8 then (if isLit = 0 then (upd td minute.toNatClampNeg ((td minute.toNatClampNeg) ||| ((1 : Int32) <<< (lamp &&& 31)))) else td) else td)
theorem hd_X0_tell : yX0_tell.cls = RX0 ∧ yX0_tell.cls ≠ "java/lang/invoke/MethodHandle" ∧ yX0_tell.cls ≠ "java/lang/invoke/VarHandle" ∧ (parseMethodDescriptor yX0_tell.desc).map (fun d => d.parameters.length) = some 3 := by decide +kernel
set_option maxHeartbeats 4000000 in
set_option maxRecDepth 100000 in
theorem c_X0_tell (l : Launch) (D : va_G) (cI : ClassId) (aE aEs aEw aEd aEl aEt : Nat) (li : Int32) (mi : Int32) (pe : Nat) (to : Int32) (tl : Nat → Int32) (td : Nat → Int32) (isLit : Int32) (lamp : Int32) (minute : Int32) (hv_minute : vp_in minute 7) : MetX l yX0_tell wsX0_tell rm_X0_tell D cI [.ref aE, .int minute, .int lamp, .int isLit] [(aE, .inr (0, [.int li, .int mi, .int (nI pe), .ref aEs, .ref aEw, .ref aEd, .int to, .ref aEl, .ref aEt])), (aEl, .inl (cI, 7, .inl tl)), (aEt, .inl (cI, 7, .inl td))] (some (.int (f_X0_tell to))) [(aE, .inr (0, [.int li, .int mi, .int (nI pe), .ref aEs, .ref aEw, .ref aEd, .int (f_X0_tell_E_6 to), .ref aEl, .ref aEt])), (aEl, .inl (cI, 7, .inl (f_X0_tell_El to tl isLit lamp minute))), (aEt, .inl (cI, 7, .inl (f_X0_tell_Et to td isLit lamp minute)))] := by
  refine mX (cc := cX0_tell) (maxL := 4) (ret := (some .int)) (by decide) rfl (Nat.le_of_ble_eq_true rfl) ?_
  intro p e s m args below meth c Q A hx hb hr hml hown hts hlk hP hK hD hA hS hQ ls hl
  have hown : s.vm.findClass RX0 = some m.cls := hown
  have hl : lv_has ls 4 [(0, .ref aE), (1, .int minute), (2, .int lamp), (3, .int isLit)] := hl
  have w1 := hts (.fieldLink RX0 40 "DarkOffice$Evening" "told" "I") (List.mem_of_getElem? (i := 1) rfl)
  have uX0 : ∀ w ∈ wsX00, w ∈ wsX0_tell := fun _ h => List.mem_cons_of_mem _ (List.mem_append_right _ h)
  have w3 := hts (.fieldLink RX0 24 "DarkOffice$Evening" "toldDark" "[I") (List.mem_of_getElem? (i := 3) rfl)
  have w2 := hts (.fieldLink RX0 21 "DarkOffice$Evening" "toldLit" "[I") (List.mem_of_getElem? (i := 2) rfl)
  refine lv_aload_n hx hb dX0_tell_0 rfl (lv_at hl 0 rfl) ?_
  refine va_get (D := D) (ci := 0) (v := .int to) (C := RX0) (T := TX0) (N := 9) hx hb hts uX0 hown hK hP 0 rfl rfl 6 (by decide) w1 (fun _ h9 => h9) rfl dX0_tell_1 ?_
  refine lv_bipush (v := 8) hx hb dX0_tell_4 (by decide) ?_
  refine lv_icmp_lt (tgt := 12) hx hb dX0_tell_6 (by decide) (fun c1 => ?_) (fun c1 => ?_)
  · refine lv_iload_n hx hb dX0_tell_12 rfl (lv_at hl 3 rfl) ?_
    refine lv_if_eq (tgt := 31) hx hb dX0_tell_13 (by decide) (fun c2 => ?_) (fun c2 => ?_)
    · refine lv_aload_n hx hb dX0_tell_31 rfl (lv_at hl 0 rfl) ?_
      refine va_get (D := D) (ci := 0) (v := .ref aEt) (C := RX0) (T := TX0) (N := 9) hx hb hts uX0 hown hK hP 0 rfl rfl 8 (by decide) w3 (fun _ h9 => h9) rfl dX0_tell_32 ?_
      refine lv_iload_n hx hb dX0_tell_35 rfl (lv_at hl 1 rfl) ?_
      refine lv_dup2_11 hx hb dX0_tell_36 rfl rfl ?_
      refine va_iald hx hb hK hP 2 0 rfl rfl hv_minute dX0_tell_37 ?_
      refine lv_iconst (v := 1) hx hb dX0_tell_38 (by decide) ?_
      refine lv_iload_n hx hb dX0_tell_39 rfl (lv_at hl 2 rfl) ?_
      refine lv_ishl hx hb dX0_tell_40 ?_
      refine lv_ior hx hb dX0_tell_41 ?_
      refine va_iast hx hb hK hP hD hS 2 0 rfl rfl hv_minute dX0_tell_42 (fun H locs hP hD hS => ?_)
      have hP : va_P D vwCl [(aE, .inr (0, [.int li, .int mi, .int (nI pe), .ref aEs, .ref aEw, .ref aEd, .int to, .ref aEl, .ref aEt])), (aEl, .inl (cI, 7, .inl tl)), (aEt, .inl (cI, 7, .inl (upd td minute.toNatClampNeg ((td minute.toNatClampNeg) ||| ((1 : Int32) <<< (lamp &&& 31))))))] H := hP
      have hD : va_D A [(aE, .inr (0, [.int li, .int mi, .int (nI pe), .ref aEs, .ref aEw, .ref aEd, .int to, .ref aEl, .ref aEt])), (aEl, .inl (cI, 7, .inl tl)), (aEt, .inl (cI, 7, .inl (upd td minute.toNatClampNeg ((td minute.toNatClampNeg) ||| ((1 : Int32) <<< (lamp &&& 31))))))] := hD
      refine lv_aload_n hx hb dX0_tell_43 rfl (lv_at hl 0 rfl) ?_
      refine lv_dup hx hb dX0_tell_44 rfl ?_
      refine va_get (D := D) (ci := 0) (v := .int to) (C := RX0) (T := TX0) (N := 9) hx hb hts uX0 hown hK hP 0 rfl rfl 6 (by decide) w1 (fun _ h9 => h9) rfl dX0_tell_45 ?_
      refine lv_iconst (v := 1) hx hb dX0_tell_48 (by decide) ?_
      refine lv_iadd hx hb dX0_tell_49 ?_
      refine va_put (D := D) (ci := 0) (v := .int (to + 1)) (ty := .int) (C := RX0) (T := TX0) (N := 9) hx hb hts uX0 tyX0 tyX0_ok nmX0 hown hK hP hD hS 0 rfl rfl 6 (by decide) w1 (fun _ h9 => h9) rfl (by decide +kernel) rfl rfl (Nat.le_of_ble_eq_true rfl) dX0_tell_50 (fun H locs hP hD hS => ?_)
      have hP : va_P D vwCl [(aE, .inr (0, [.int li, .int mi, .int (nI pe), .ref aEs, .ref aEw, .ref aEd, .int (to + 1), .ref aEl, .ref aEt])), (aEl, .inl (cI, 7, .inl tl)), (aEt, .inl (cI, 7, .inl (upd td minute.toNatClampNeg ((td minute.toNatClampNeg) ||| ((1 : Int32) <<< (lamp &&& 31))))))] H := hP
      have hD : va_D A [(aE, .inr (0, [.int li, .int mi, .int (nI pe), .ref aEs, .ref aEw, .ref aEd, .int (to + 1), .ref aEl, .ref aEt])), (aEl, .inl (cI, 7, .inl tl)), (aEt, .inl (cI, 7, .inl (upd td minute.toNatClampNeg ((td minute.toNatClampNeg) ||| ((1 : Int32) <<< (lamp &&& 31))))))] := hD
      refine lv_aload_n hx hb dX0_tell_53 rfl (lv_at hl 0 rfl) ?_
      refine va_get (D := D) (ci := 0) (v := .int (to + 1)) (C := RX0) (T := TX0) (N := 9) hx hb hts uX0 hown hK hP 0 rfl rfl 6 (by decide) w1 (fun _ h9 => h9) rfl dX0_tell_54 ?_
      have e_E_6 : (f_X0_tell_E_6 to) = (to + 1) := (by simp only [f_X0_tell_E_6, if_pos c1, if_pos c2])
      have e_El : (f_X0_tell_El to tl isLit lamp minute) = tl := (by simp only [f_X0_tell_El, if_pos c1, if_pos c2])
      have e_Et : (f_X0_tell_Et to td isLit lamp minute) = (upd td minute.toNatClampNeg ((td minute.toNatClampNeg) ||| ((1 : Int32) <<< (lamp &&& 31)))) := (by simp only [f_X0_tell_Et, if_pos c1, if_pos c2])
      exact eXi hx hb hr hlk hQ (by rw [e_E_6, e_El, e_Et]; exact hP) (by rw [e_E_6, e_El, e_Et]; exact hD) hS dX0_tell_57 (Eq.symm (by simp only [f_X0_tell, if_pos c1, if_pos c2]))
    · refine lv_aload_n hx hb dX0_tell_16 rfl (lv_at hl 0 rfl) ?_
      refine va_get (D := D) (ci := 0) (v := .ref aEl) (C := RX0) (T := TX0) (N := 9) hx hb hts uX0 hown hK hP 0 rfl rfl 7 (by decide) w2 (fun _ h9 => h9) rfl dX0_tell_17 ?_
      refine lv_iload_n hx hb dX0_tell_20 rfl (lv_at hl 1 rfl) ?_
      refine lv_dup2_11 hx hb dX0_tell_21 rfl rfl ?_
      refine va_iald hx hb hK hP 1 0 rfl rfl hv_minute dX0_tell_22 ?_
      refine lv_iconst (v := 1) hx hb dX0_tell_23 (by decide) ?_
      refine lv_iload_n hx hb dX0_tell_24 rfl (lv_at hl 2 rfl) ?_
      refine lv_ishl hx hb dX0_tell_25 ?_
      refine lv_ior hx hb dX0_tell_26 ?_
      refine va_iast hx hb hK hP hD hS 1 0 rfl rfl hv_minute dX0_tell_27 (fun H locs hP hD hS => ?_)
      have hP : va_P D vwCl [(aE, .inr (0, [.int li, .int mi, .int (nI pe), .ref aEs, .ref aEw, .ref aEd, .int to, .ref aEl, .ref aEt])), (aEl, .inl (cI, 7, .inl (upd tl minute.toNatClampNeg ((tl minute.toNatClampNeg) ||| ((1 : Int32) <<< (lamp &&& 31)))))), (aEt, .inl (cI, 7, .inl td))] H := hP
      have hD : va_D A [(aE, .inr (0, [.int li, .int mi, .int (nI pe), .ref aEs, .ref aEw, .ref aEd, .int to, .ref aEl, .ref aEt])), (aEl, .inl (cI, 7, .inl (upd tl minute.toNatClampNeg ((tl minute.toNatClampNeg) ||| ((1 : Int32) <<< (lamp &&& 31)))))), (aEt, .inl (cI, 7, .inl td))] := hD
      refine lv_goto (tgt := 43) hx hb dX0_tell_28 (by decide) ?_
      refine lv_aload_n hx hb dX0_tell_43 rfl (lv_at hl 0 rfl) ?_
      refine lv_dup hx hb dX0_tell_44 rfl ?_
      refine va_get (D := D) (ci := 0) (v := .int to) (C := RX0) (T := TX0) (N := 9) hx hb hts uX0 hown hK hP 0 rfl rfl 6 (by decide) w1 (fun _ h9 => h9) rfl dX0_tell_45 ?_
      refine lv_iconst (v := 1) hx hb dX0_tell_48 (by decide) ?_
      refine lv_iadd hx hb dX0_tell_49 ?_
      refine va_put (D := D) (ci := 0) (v := .int (to + 1)) (ty := .int) (C := RX0) (T := TX0) (N := 9) hx hb hts uX0 tyX0 tyX0_ok nmX0 hown hK hP hD hS 0 rfl rfl 6 (by decide) w1 (fun _ h9 => h9) rfl (by decide +kernel) rfl rfl (Nat.le_of_ble_eq_true rfl) dX0_tell_50 (fun H locs hP hD hS => ?_)
      have hP : va_P D vwCl [(aE, .inr (0, [.int li, .int mi, .int (nI pe), .ref aEs, .ref aEw, .ref aEd, .int (to + 1), .ref aEl, .ref aEt])), (aEl, .inl (cI, 7, .inl (upd tl minute.toNatClampNeg ((tl minute.toNatClampNeg) ||| ((1 : Int32) <<< (lamp &&& 31)))))), (aEt, .inl (cI, 7, .inl td))] H := hP
      have hD : va_D A [(aE, .inr (0, [.int li, .int mi, .int (nI pe), .ref aEs, .ref aEw, .ref aEd, .int (to + 1), .ref aEl, .ref aEt])), (aEl, .inl (cI, 7, .inl (upd tl minute.toNatClampNeg ((tl minute.toNatClampNeg) ||| ((1 : Int32) <<< (lamp &&& 31)))))), (aEt, .inl (cI, 7, .inl td))] := hD
      refine lv_aload_n hx hb dX0_tell_53 rfl (lv_at hl 0 rfl) ?_
      refine va_get (D := D) (ci := 0) (v := .int (to + 1)) (C := RX0) (T := TX0) (N := 9) hx hb hts uX0 hown hK hP 0 rfl rfl 6 (by decide) w1 (fun _ h9 => h9) rfl dX0_tell_54 ?_
      have e_E_6 : (f_X0_tell_E_6 to) = (to + 1) := (by simp only [f_X0_tell_E_6, if_pos c1, if_neg c2])
      have e_El : (f_X0_tell_El to tl isLit lamp minute) = (upd tl minute.toNatClampNeg ((tl minute.toNatClampNeg) ||| ((1 : Int32) <<< (lamp &&& 31)))) := (by simp only [f_X0_tell_El, if_pos c1, if_neg c2])
      have e_Et : (f_X0_tell_Et to td isLit lamp minute) = td := (by simp only [f_X0_tell_Et, if_pos c1, if_neg c2])
      exact eXi hx hb hr hlk hQ (by rw [e_E_6, e_El, e_Et]; exact hP) (by rw [e_E_6, e_El, e_Et]; exact hD) hS dX0_tell_57 (Eq.symm (by simp only [f_X0_tell, if_pos c1, if_neg c2]))
  · refine lv_bipush (v := (-104)) hx hb dX0_tell_9 (by decide) ?_
    have e_E_6 : (f_X0_tell_E_6 to) = to := (by simp only [f_X0_tell_E_6, if_neg c1])
    have e_El : (f_X0_tell_El to tl isLit lamp minute) = tl := (by simp only [f_X0_tell_El, if_neg c1])
    have e_Et : (f_X0_tell_Et to td isLit lamp minute) = td := (by simp only [f_X0_tell_Et, if_neg c1])
    exact eXi hx hb hr hlk hQ (by rw [e_E_6, e_El, e_Et]; exact hP) (by rw [e_E_6, e_El, e_Et]; exact hD) hS dX0_tell_11 (Eq.symm (by simp only [f_X0_tell, if_neg c1]))

def rm_X0_emptyBook : Room := { frames := 0, cells := 0, slots := 0, locals := 0 }
def f_X0_emptyBook_7_El (tl : Nat → Int32) : Nat → (Nat → Int32)
  | 0 => tl
  | i1 + 1 => (upd (f_X0_emptyBook_7_El tl i1) i1 0)
def f_X0_emptyBook_7_Et (td : Nat → Int32) : Nat → (Nat → Int32)
  | 0 => td
  | i1 + 1 => (upd (f_X0_emptyBook_7_Et td i1) i1 0)
def f_X0_emptyBook_El (tl : Nat → Int32) : Nat → Int32 := (f_X0_emptyBook_7_El tl 7)
def f_X0_emptyBook_Et (td : Nat → Int32) : Nat → Int32 := (f_X0_emptyBook_7_Et td 7)
theorem hd_X0_emptyBook : yX0_emptyBook.cls = RX0 ∧ yX0_emptyBook.cls ≠ "java/lang/invoke/MethodHandle" ∧ yX0_emptyBook.cls ≠ "java/lang/invoke/VarHandle" ∧ (parseMethodDescriptor yX0_emptyBook.desc).map (fun d => d.parameters.length) = some 0 := by decide +kernel
set_option maxHeartbeats 4000000 in
set_option maxRecDepth 100000 in
theorem c_X0_emptyBook (l : Launch) (D : va_G) (cI : ClassId) (aE aEs aEw aEd aEl aEt : Nat) (li : Int32) (mi : Int32) (pe : Nat) (to : Int32) (tl : Nat → Int32) (td : Nat → Int32) : MetX l yX0_emptyBook wsX0_emptyBook rm_X0_emptyBook D cI [.ref aE] [(aE, .inr (0, [.int li, .int mi, .int (nI pe), .ref aEs, .ref aEw, .ref aEd, .int to, .ref aEl, .ref aEt])), (aEl, .inl (cI, 7, .inl tl)), (aEt, .inl (cI, 7, .inl td))] none [(aE, .inr (0, [.int li, .int mi, .int (nI pe), .ref aEs, .ref aEw, .ref aEd, .int 0, .ref aEl, .ref aEt])), (aEl, .inl (cI, 7, .inl (f_X0_emptyBook_El tl))), (aEt, .inl (cI, 7, .inl (f_X0_emptyBook_Et td)))] := by
  refine mX (cc := cX0_emptyBook) (maxL := 2) (ret := none) (by decide) rfl (Nat.le_of_ble_eq_true rfl) ?_
  intro p e s m args below meth c Q A hx hb hr hml hown hts hlk hP hK hD hA hS hQ ls hl
  have hown : s.vm.findClass RX0 = some m.cls := hown
  have hl : lv_has ls 2 [(0, .ref aE)] := hl
  have w1 := hts (.fieldLink RX0 40 "DarkOffice$Evening" "told" "I") (List.mem_of_getElem? (i := 1) rfl)
  have uX0 : ∀ w ∈ wsX00, w ∈ wsX0_emptyBook := fun _ h => List.mem_cons_of_mem _ (List.mem_append_right _ h)
  have w2 := hts (.fieldLink RX0 21 "DarkOffice$Evening" "toldLit" "[I") (List.mem_of_getElem? (i := 2) rfl)
  have w3 := hts (.fieldLink RX0 24 "DarkOffice$Evening" "toldDark" "[I") (List.mem_of_getElem? (i := 3) rfl)
  refine lv_aload_n hx hb dX0_emptyBook_0 rfl (lv_at hl 0 rfl) ?_
  refine lv_iconst (v := 0) hx hb dX0_emptyBook_1 (by decide) ?_
  refine va_put (D := D) (ci := 0) (v := .int 0) (ty := .int) (C := RX0) (T := TX0) (N := 9) hx hb hts uX0 tyX0 tyX0_ok nmX0 hown hK hP hD hS 0 rfl rfl 6 (by decide) w1 (fun _ h9 => h9) rfl (by decide +kernel) rfl rfl (Nat.le_of_ble_eq_true rfl) dX0_emptyBook_2 (fun H locs hP hD hS => ?_)
  have hP : va_P D vwCl [(aE, .inr (0, [.int li, .int mi, .int (nI pe), .ref aEs, .ref aEw, .ref aEd, .int 0, .ref aEl, .ref aEt])), (aEl, .inl (cI, 7, .inl tl)), (aEt, .inl (cI, 7, .inl td))] H := hP
  have hD : va_D A [(aE, .inr (0, [.int li, .int mi, .int (nI pe), .ref aEs, .ref aEw, .ref aEd, .int 0, .ref aEl, .ref aEt])), (aEl, .inl (cI, 7, .inl tl)), (aEt, .inl (cI, 7, .inl td))] := hD
  refine lv_iconst (v := 0) hx hb dX0_emptyBook_5 (by decide) ?_
  refine lv_istore_n (lv' := [(1, .int 0), (0, .ref aE)]) hx hb dX0_emptyBook_6 rfl hl (by decide) rfl (fun ls hl => ?_)
  have lp7 : ∀ (k7 i1 : Nat), i1 + k7 = 7 → ∀ (H : Heap) (locs : List Loc), va_P D vwCl [(aE, .inr (0, [.int li, .int mi, .int (nI pe), .ref aEs, .ref aEw, .ref aEd, .int 0, .ref aEl, .ref aEt])), (aEl, .inl (cI, 7, .inl ((f_X0_emptyBook_7_El tl i1)))), (aEt, .inl (cI, 7, .inl ((f_X0_emptyBook_7_Et td i1))))] H → va_D A [(aE, .inr (0, [.int li, .int mi, .int (nI pe), .ref aEs, .ref aEw, .ref aEd, .int 0, .ref aEl, .ref aEt])), (aEl, .inl (cI, 7, .inl ((f_X0_emptyBook_7_El tl i1)))), (aEt, .inl (cI, 7, .inl ((f_X0_emptyBook_7_Et td i1))))] → va_S A s.heap H locs → ∀ ls : Array Slot, lv_has ls 2 [(0, .ref aE), (1, .int (nI i1))] → W p l e rm_X0_emptyBook s m args below meth c H locs 0 0 Q (F0 m 7 ls []) := by
    intro k7
    induction k7 with
    | zero =>
      intro i1 hk7 H locs hP hD hS ls hl
      have hN7 : 7 = i1 := by omega
      subst hN7
      refine lv_iload_n hx hb dX0_emptyBook_7 rfl (lv_at hl 1 rfl) ?_
      refine lv_bipush (v := 6) hx hb dX0_emptyBook_8 (by decide) ?_
      refine lv_icmp_gt (tgt := 33) hx hb dX0_emptyBook_10 (by decide) (fun _ => ?_) (fun c => absurd (nlt_t (a := 6) (b := 7) rfl rfl (by omega) (by omega) (by omega)) c)
      have e_El : (f_X0_emptyBook_El tl) = (f_X0_emptyBook_7_El tl 7) := (by simp only [f_X0_emptyBook_El])
      have e_Et : (f_X0_emptyBook_Et td) = (f_X0_emptyBook_7_Et td 7) := (by simp only [f_X0_emptyBook_Et])
      exact eXv hx hb hr hlk hQ (by rw [e_El, e_Et]; exact hP) (by rw [e_El, e_Et]; exact hD) hS dX0_emptyBook_33
    | succ k7 ih7 =>
      intro i1 hk7 H locs hP hD hS ls hl
      refine lv_iload_n hx hb dX0_emptyBook_7 rfl (lv_at hl 1 rfl) ?_
      refine lv_bipush (v := 6) hx hb dX0_emptyBook_8 (by decide) ?_
      refine lv_icmp_gt (tgt := 33) hx hb dX0_emptyBook_10 (by decide) (fun c => absurd c (nlt_f (a := 6) (b := i1) rfl rfl (by omega) (by omega) (by omega))) (fun _ => ?_)
      refine lv_aload_n hx hb dX0_emptyBook_13 rfl (lv_at hl 0 rfl) ?_
      refine va_get (D := D) (ci := 0) (v := .ref aEl) (C := RX0) (T := TX0) (N := 9) hx hb hts uX0 hown hK hP 0 rfl rfl 7 (by decide) w2 (fun _ h9 => h9) rfl dX0_emptyBook_14 ?_
      refine lv_iload_n hx hb dX0_emptyBook_17 rfl (lv_at hl 1 rfl) ?_
      refine lv_iconst (v := 0) hx hb dX0_emptyBook_18 (by decide) ?_
      refine xast hx hb hK hP hD hS 1 rfl i1 rfl (by omega) (by decide) dX0_emptyBook_19 (fun H locs hP hD hS => ?_)
      have hP : va_P D vwCl [(aE, .inr (0, [.int li, .int mi, .int (nI pe), .ref aEs, .ref aEw, .ref aEd, .int 0, .ref aEl, .ref aEt])), (aEl, .inl (cI, 7, .inl (upd (f_X0_emptyBook_7_El tl i1) i1 0))), (aEt, .inl (cI, 7, .inl ((f_X0_emptyBook_7_Et td i1))))] H := hP
      have hD : va_D A [(aE, .inr (0, [.int li, .int mi, .int (nI pe), .ref aEs, .ref aEw, .ref aEd, .int 0, .ref aEl, .ref aEt])), (aEl, .inl (cI, 7, .inl (upd (f_X0_emptyBook_7_El tl i1) i1 0))), (aEt, .inl (cI, 7, .inl ((f_X0_emptyBook_7_Et td i1))))] := hD
      refine lv_aload_n hx hb dX0_emptyBook_20 rfl (lv_at hl 0 rfl) ?_
      refine va_get (D := D) (ci := 0) (v := .ref aEt) (C := RX0) (T := TX0) (N := 9) hx hb hts uX0 hown hK hP 0 rfl rfl 8 (by decide) w3 (fun _ h9 => h9) rfl dX0_emptyBook_21 ?_
      refine lv_iload_n hx hb dX0_emptyBook_24 rfl (lv_at hl 1 rfl) ?_
      refine lv_iconst (v := 0) hx hb dX0_emptyBook_25 (by decide) ?_
      refine xast hx hb hK hP hD hS 2 rfl i1 rfl (by omega) (by decide) dX0_emptyBook_26 (fun H locs hP hD hS => ?_)
      have hP : va_P D vwCl [(aE, .inr (0, [.int li, .int mi, .int (nI pe), .ref aEs, .ref aEw, .ref aEd, .int 0, .ref aEl, .ref aEt])), (aEl, .inl (cI, 7, .inl (upd (f_X0_emptyBook_7_El tl i1) i1 0))), (aEt, .inl (cI, 7, .inl (upd (f_X0_emptyBook_7_Et td i1) i1 0)))] H := hP
      have hD : va_D A [(aE, .inr (0, [.int li, .int mi, .int (nI pe), .ref aEs, .ref aEw, .ref aEd, .int 0, .ref aEl, .ref aEt])), (aEl, .inl (cI, 7, .inl (upd (f_X0_emptyBook_7_El tl i1) i1 0))), (aEt, .inl (cI, 7, .inl (upd (f_X0_emptyBook_7_Et td i1) i1 0)))] := hD
      refine lv_iinc (v := nI (i1 + 1)) (lv' := [(1, .int (nI (i1 + 1))), (0, .ref aE)]) hx hb dX0_emptyBook_27 hl (k := 1) rfl (nI_add i1 1) (by decide) rfl (fun ls hl => ?_)
      refine lv_goto (tgt := 7) hx hb dX0_emptyBook_30 (by decide) ?_
      have e_El : (f_X0_emptyBook_7_El tl (i1 + 1)) = (upd (f_X0_emptyBook_7_El tl i1) i1 0) := (by simp only [f_X0_emptyBook_7_El])
      have e_Et : (f_X0_emptyBook_7_Et td (i1 + 1)) = (upd (f_X0_emptyBook_7_Et td i1) i1 0) := (by simp only [f_X0_emptyBook_7_Et])
      exact ih7 (i1 + 1) (by omega) _ _ (by rw [e_El, e_Et]; exact hP) (by rw [e_El, e_Et]; exact hD) hS ls (lv_sub hl [1, 0] rfl)
  exact lp7 7 0 (by omega) _ _ hP hD hS ls (lv_sub hl [1, 0] rfl)

def rm_X0_begin : Room := { frames := 1, cells := 0, slots := 0, locals := 21 }
def f_X0_begin_El (tl : Nat → Int32) : Nat → Int32 := (f_X0_emptyBook_El tl)
def f_X0_begin_Et (td : Nat → Int32) : Nat → Int32 := (f_X0_emptyBook_Et td)
theorem hd_X0_begin : yX0_begin.cls = RX0 ∧ yX0_begin.cls ≠ "java/lang/invoke/MethodHandle" ∧ yX0_begin.cls ≠ "java/lang/invoke/VarHandle" ∧ (parseMethodDescriptor yX0_begin.desc).map (fun d => d.parameters.length) = some 0 := by decide +kernel
set_option maxHeartbeats 4000000 in
set_option maxRecDepth 100000 in
theorem c_X0_begin (l : Launch) (D : va_G) (cI : ClassId) (aE aEs aEw aEd aEl aEt : Nat) (li : Int32) (mi : Int32) (pe : Nat) (to : Int32) (tl : Nat → Int32) (td : Nat → Int32) : MetX l yX0_begin wsX0_begin rm_X0_begin D cI [.ref aE] [(aE, .inr (0, [.int li, .int mi, .int (nI pe), .ref aEs, .ref aEw, .ref aEd, .int to, .ref aEl, .ref aEt])), (aEl, .inl (cI, 7, .inl tl)), (aEt, .inl (cI, 7, .inl td))] none [(aE, .inr (0, [.int 0, .int 0, .int 0, .ref aEs, .ref aEw, .ref aEd, .int 0, .ref aEl, .ref aEt])), (aEl, .inl (cI, 7, .inl (f_X0_begin_El tl))), (aEt, .inl (cI, 7, .inl (f_X0_begin_Et td)))] := by
  refine mX (cc := cX0_begin) (maxL := 1) (ret := none) (by decide) rfl (Nat.le_of_ble_eq_true rfl) ?_
  intro p e s m args below meth c Q A hx hb hr hml hown hts hlk hP hK hD hA hS hQ ls hl
  have hown : s.vm.findClass RX0 = some m.cls := hown
  have hl : lv_has ls 1 [(0, .ref aE)] := hl
  have w1 := hts (.fieldLink RX0 27 "DarkOffice$Evening" "lit" "I") (List.mem_of_getElem? (i := 1) rfl)
  have uX0 : ∀ w ∈ wsX00, w ∈ wsX0_begin := fun _ h => List.mem_cons_of_mem _ (List.mem_append_right _ h)
  have w2 := hts (.fieldLink RX0 31 "DarkOffice$Evening" "minutes" "I") (List.mem_of_getElem? (i := 2) rfl)
  have w3 := hts (.fieldLink RX0 34 "DarkOffice$Evening" "people" "I") (List.mem_of_getElem? (i := 3) rfl)
  refine lv_aload_n hx hb dX0_begin_0 rfl (lv_at hl 0 rfl) ?_
  refine lv_iconst (v := 0) hx hb dX0_begin_1 (by decide) ?_
  refine va_put (D := D) (ci := 0) (v := .int 0) (ty := .int) (C := RX0) (T := TX0) (N := 9) hx hb hts uX0 tyX0 tyX0_ok nmX0 hown hK hP hD hS 0 rfl rfl 0 (by decide) w1 (fun _ h9 => h9) rfl (by decide +kernel) rfl rfl (Nat.le_of_ble_eq_true rfl) dX0_begin_2 (fun H locs hP hD hS => ?_)
  have hP : va_P D vwCl [(aE, .inr (0, [.int 0, .int mi, .int (nI pe), .ref aEs, .ref aEw, .ref aEd, .int to, .ref aEl, .ref aEt])), (aEl, .inl (cI, 7, .inl tl)), (aEt, .inl (cI, 7, .inl td))] H := hP
  have hD : va_D A [(aE, .inr (0, [.int 0, .int mi, .int (nI pe), .ref aEs, .ref aEw, .ref aEd, .int to, .ref aEl, .ref aEt])), (aEl, .inl (cI, 7, .inl tl)), (aEt, .inl (cI, 7, .inl td))] := hD
  refine lv_aload_n hx hb dX0_begin_5 rfl (lv_at hl 0 rfl) ?_
  refine lv_iconst (v := 0) hx hb dX0_begin_6 (by decide) ?_
  refine va_put (D := D) (ci := 0) (v := .int 0) (ty := .int) (C := RX0) (T := TX0) (N := 9) hx hb hts uX0 tyX0 tyX0_ok nmX0 hown hK hP hD hS 0 rfl rfl 1 (by decide) w2 (fun _ h9 => h9) rfl (by decide +kernel) rfl rfl (Nat.le_of_ble_eq_true rfl) dX0_begin_7 (fun H locs hP hD hS => ?_)
  have hP : va_P D vwCl [(aE, .inr (0, [.int 0, .int 0, .int (nI pe), .ref aEs, .ref aEw, .ref aEd, .int to, .ref aEl, .ref aEt])), (aEl, .inl (cI, 7, .inl tl)), (aEt, .inl (cI, 7, .inl td))] H := hP
  have hD : va_D A [(aE, .inr (0, [.int 0, .int 0, .int (nI pe), .ref aEs, .ref aEw, .ref aEd, .int to, .ref aEl, .ref aEt])), (aEl, .inl (cI, 7, .inl tl)), (aEt, .inl (cI, 7, .inl td))] := hD
  refine lv_aload_n hx hb dX0_begin_10 rfl (lv_at hl 0 rfl) ?_
  refine lv_iconst (v := 0) hx hb dX0_begin_11 (by decide) ?_
  refine va_put (D := D) (ci := 0) (v := .int 0) (ty := .int) (C := RX0) (T := TX0) (N := 9) hx hb hts uX0 tyX0 tyX0_ok nmX0 hown hK hP hD hS 0 rfl rfl 2 (by decide) w3 (fun _ h9 => h9) rfl (by decide +kernel) rfl rfl (Nat.le_of_ble_eq_true rfl) dX0_begin_12 (fun H locs hP hD hS => ?_)
  have hP : va_P D vwCl [(aE, .inr (0, [.int 0, .int 0, .int 0, .ref aEs, .ref aEw, .ref aEd, .int to, .ref aEl, .ref aEt])), (aEl, .inl (cI, 7, .inl tl)), (aEt, .inl (cI, 7, .inl td))] H := hP
  have hD : va_D A [(aE, .inr (0, [.int 0, .int 0, .int 0, .ref aEs, .ref aEw, .ref aEd, .int to, .ref aEl, .ref aEt])), (aEl, .inl (cI, 7, .inl tl)), (aEt, .inl (cI, 7, .inl td))] := hD
  refine lv_aload_n hx hb dX0_begin_15 rfl (lv_at hl 0 rfl) ?_
  refine xV (w2 := [(aE, .inr (0, [.int 0, .int 0, .int 0, .ref aEs, .ref aEw, .ref aEd, .int 0, .ref aEl, .ref aEt])), (aEl, .inl (cI, 7, .inl (f_X0_emptyBook_El tl))), (aEt, .inl (cI, 7, .inl (f_X0_emptyBook_Et td)))]) ⟨hx, hb, hml, hown, hts⟩ (c_X0_emptyBook l D cI aE aEs aEw aEd aEl aEt 0 0 0 to tl td) (cwV 0 hts gX0_begin_X0_emptyBook rfl rfl rfl hd_X0_emptyBook ⟨Nat.le_of_ble_eq_true rfl, Nat.le_of_ble_eq_true rfl⟩) hK hP hD hS hA [0, 1, 2] [] [0, 1, 2] rfl rfl rfl rfl rfl (by decide) rfl rfl rfl 0 rfl rfl rfl rfl hl.1 (rest := []) (st' := []) rfl rfl (Nat.le_of_ble_eq_true rfl) dX0_begin_16 ⟨Nat.zero_le _, Nat.zero_le _⟩ (fun H locs hP hD hS => ?_)
  have e_El : (f_X0_begin_El tl) = (f_X0_emptyBook_El tl) := (by simp only [f_X0_begin_El])
  have e_Et : (f_X0_begin_Et td) = (f_X0_emptyBook_Et td) := (by simp only [f_X0_begin_Et])
  exact eXv hx hb hr hlk hQ (by rw [e_El, e_Et]; exact hP) (by rw [e_El, e_Et]; exact hD) hS dX0_begin_19

def rm_X0_seat : Room := { frames := 0, cells := 0, slots := 0, locals := 0 }
def f_X0_seat (pe : Nat) : Int32 := (if nI pe < 4 then nI pe else (-104))
def f_X0_seat_E_2 (pe : Nat) : Int32 := (if nI pe < 4 then (nI pe + 1) else nI pe)
def f_X0_seat_Es (pe : Nat) (sc : Nat → Int32) (sect : Int32) : Nat → Int32 := (if nI pe < 4 then (upd sc pe sect) else sc)
def f_X0_seat_Ew (pe : Nat) (wv : Nat → Int32) : Nat → Int32 := (if nI pe < 4 then (upd wv pe 0) else wv)
def f_X0_seat_Ed (pe : Nat) (dk : Nat → Int32) : Nat → Int32 := (if nI pe < 4 then (upd dk pe 0) else dk)
theorem hd_X0_seat : yX0_seat.cls = RX0 ∧ yX0_seat.cls ≠ "java/lang/invoke/MethodHandle" ∧ yX0_seat.cls ≠ "java/lang/invoke/VarHandle" ∧ (parseMethodDescriptor yX0_seat.desc).map (fun d => d.parameters.length) = some 1 := by decide +kernel
set_option maxHeartbeats 4000000 in
set_option maxRecDepth 100000 in
theorem c_X0_seat (l : Launch) (D : va_G) (cI : ClassId) (aE aEs aEw aEd aEl aEt : Nat) (li : Int32) (mi : Int32) (pe : Nat) (to : Int32) (sc : Nat → Int32) (wv : Nat → Int32) (dk : Nat → Int32) (sect : Int32) (hpe : pe ≤ 4) : MetX l yX0_seat wsX0_seat rm_X0_seat D cI [.ref aE, .int sect] [(aE, .inr (0, [.int li, .int mi, .int (nI pe), .ref aEs, .ref aEw, .ref aEd, .int to, .ref aEl, .ref aEt])), (aEs, .inl (cI, 4, .inl sc)), (aEw, .inl (cI, 4, .inl wv)), (aEd, .inl (cI, 4, .inl dk))] (some (.int (f_X0_seat pe))) [(aE, .inr (0, [.int li, .int mi, .int (f_X0_seat_E_2 pe), .ref aEs, .ref aEw, .ref aEd, .int to, .ref aEl, .ref aEt])), (aEs, .inl (cI, 4, .inl (f_X0_seat_Es pe sc sect))), (aEw, .inl (cI, 4, .inl (f_X0_seat_Ew pe wv))), (aEd, .inl (cI, 4, .inl (f_X0_seat_Ed pe dk)))] := by
  refine mX (cc := cX0_seat) (maxL := 3) (ret := (some .int)) (by decide) rfl (Nat.le_of_ble_eq_true rfl) ?_
  intro p e s m args below meth c Q A hx hb hr hml hown hts hlk hP hK hD hA hS hQ ls hl
  have hown : s.vm.findClass RX0 = some m.cls := hown
  have hl : lv_has ls 3 [(0, .ref aE), (1, .int sect)] := hl
  have w1 := hts (.fieldLink RX0 34 "DarkOffice$Evening" "people" "I") (List.mem_of_getElem? (i := 1) rfl)
  have uX0 : ∀ w ∈ wsX00, w ∈ wsX0_seat := fun _ h => List.mem_cons_of_mem _ (List.mem_append_right _ h)
  have w2 := hts (.fieldLink RX0 9 "DarkOffice$Evening" "sections" "[I") (List.mem_of_getElem? (i := 2) rfl)
  have w3 := hts (.fieldLink RX0 15 "DarkOffice$Evening" "waves" "[I") (List.mem_of_getElem? (i := 3) rfl)
  have w4 := hts (.fieldLink RX0 18 "DarkOffice$Evening" "darks" "[I") (List.mem_of_getElem? (i := 4) rfl)
  refine lv_aload_n hx hb dX0_seat_0 rfl (lv_at hl 0 rfl) ?_
  refine va_get (D := D) (ci := 0) (v := .int (nI pe)) (C := RX0) (T := TX0) (N := 9) hx hb hts uX0 hown hK hP 0 rfl rfl 2 (by decide) w1 (fun _ h9 => h9) rfl dX0_seat_1 ?_
  refine lv_iconst (v := 4) hx hb dX0_seat_4 (by decide) ?_
  refine lv_icmp_lt (tgt := 11) hx hb dX0_seat_5 (by decide) (fun c1 => ?_) (fun c1 => ?_)
  · have q1 : pe < 4 := nlt_d (a := pe) (b := 4) rfl rfl (by omega) (by omega) c1
    refine lv_aload_n hx hb dX0_seat_11 rfl (lv_at hl 0 rfl) ?_
    refine va_get (D := D) (ci := 0) (v := .int (nI pe)) (C := RX0) (T := TX0) (N := 9) hx hb hts uX0 hown hK hP 0 rfl rfl 2 (by decide) w1 (fun _ h9 => h9) rfl dX0_seat_12 ?_
    refine lv_istore_n (lv' := [(2, .int (nI pe)), (0, .ref aE), (1, .int sect)]) hx hb dX0_seat_15 rfl hl (by decide) rfl (fun ls hl => ?_)
    refine lv_aload_n hx hb dX0_seat_16 rfl (lv_at hl 1 rfl) ?_
    refine va_get (D := D) (ci := 0) (v := .ref aEs) (C := RX0) (T := TX0) (N := 9) hx hb hts uX0 hown hK hP 0 rfl rfl 3 (by decide) w2 (fun _ h9 => h9) rfl dX0_seat_17 ?_
    refine lv_iload_n hx hb dX0_seat_20 rfl (lv_at hl 0 rfl) ?_
    refine lv_iload_n hx hb dX0_seat_21 rfl (lv_at hl 2 rfl) ?_
    refine xast hx hb hK hP hD hS 1 rfl pe rfl (by omega) (by decide) dX0_seat_22 (fun H locs hP hD hS => ?_)
    have hP : va_P D vwCl [(aE, .inr (0, [.int li, .int mi, .int (nI pe), .ref aEs, .ref aEw, .ref aEd, .int to, .ref aEl, .ref aEt])), (aEs, .inl (cI, 4, .inl (upd sc pe sect))), (aEw, .inl (cI, 4, .inl wv)), (aEd, .inl (cI, 4, .inl dk))] H := hP
    have hD : va_D A [(aE, .inr (0, [.int li, .int mi, .int (nI pe), .ref aEs, .ref aEw, .ref aEd, .int to, .ref aEl, .ref aEt])), (aEs, .inl (cI, 4, .inl (upd sc pe sect))), (aEw, .inl (cI, 4, .inl wv)), (aEd, .inl (cI, 4, .inl dk))] := hD
    refine lv_aload_n hx hb dX0_seat_23 rfl (lv_at hl 1 rfl) ?_
    refine va_get (D := D) (ci := 0) (v := .ref aEw) (C := RX0) (T := TX0) (N := 9) hx hb hts uX0 hown hK hP 0 rfl rfl 4 (by decide) w3 (fun _ h9 => h9) rfl dX0_seat_24 ?_
    refine lv_iload_n hx hb dX0_seat_27 rfl (lv_at hl 0 rfl) ?_
    refine lv_iconst (v := 0) hx hb dX0_seat_28 (by decide) ?_
    refine xast hx hb hK hP hD hS 2 rfl pe rfl (by omega) (by decide) dX0_seat_29 (fun H locs hP hD hS => ?_)
    have hP : va_P D vwCl [(aE, .inr (0, [.int li, .int mi, .int (nI pe), .ref aEs, .ref aEw, .ref aEd, .int to, .ref aEl, .ref aEt])), (aEs, .inl (cI, 4, .inl (upd sc pe sect))), (aEw, .inl (cI, 4, .inl (upd wv pe 0))), (aEd, .inl (cI, 4, .inl dk))] H := hP
    have hD : va_D A [(aE, .inr (0, [.int li, .int mi, .int (nI pe), .ref aEs, .ref aEw, .ref aEd, .int to, .ref aEl, .ref aEt])), (aEs, .inl (cI, 4, .inl (upd sc pe sect))), (aEw, .inl (cI, 4, .inl (upd wv pe 0))), (aEd, .inl (cI, 4, .inl dk))] := hD
    refine lv_aload_n hx hb dX0_seat_30 rfl (lv_at hl 1 rfl) ?_
    refine va_get (D := D) (ci := 0) (v := .ref aEd) (C := RX0) (T := TX0) (N := 9) hx hb hts uX0 hown hK hP 0 rfl rfl 5 (by decide) w4 (fun _ h9 => h9) rfl dX0_seat_31 ?_
    refine lv_iload_n hx hb dX0_seat_34 rfl (lv_at hl 0 rfl) ?_
    refine lv_iconst (v := 0) hx hb dX0_seat_35 (by decide) ?_
    refine xast hx hb hK hP hD hS 3 rfl pe rfl (by omega) (by decide) dX0_seat_36 (fun H locs hP hD hS => ?_)
    have hP : va_P D vwCl [(aE, .inr (0, [.int li, .int mi, .int (nI pe), .ref aEs, .ref aEw, .ref aEd, .int to, .ref aEl, .ref aEt])), (aEs, .inl (cI, 4, .inl (upd sc pe sect))), (aEw, .inl (cI, 4, .inl (upd wv pe 0))), (aEd, .inl (cI, 4, .inl (upd dk pe 0)))] H := hP
    have hD : va_D A [(aE, .inr (0, [.int li, .int mi, .int (nI pe), .ref aEs, .ref aEw, .ref aEd, .int to, .ref aEl, .ref aEt])), (aEs, .inl (cI, 4, .inl (upd sc pe sect))), (aEw, .inl (cI, 4, .inl (upd wv pe 0))), (aEd, .inl (cI, 4, .inl (upd dk pe 0)))] := hD
    refine lv_aload_n hx hb dX0_seat_37 rfl (lv_at hl 1 rfl) ?_
    refine lv_dup hx hb dX0_seat_38 rfl ?_
    refine va_get (D := D) (ci := 0) (v := .int (nI pe)) (C := RX0) (T := TX0) (N := 9) hx hb hts uX0 hown hK hP 0 rfl rfl 2 (by decide) w1 (fun _ h9 => h9) rfl dX0_seat_39 ?_
    refine lv_iconst (v := 1) hx hb dX0_seat_42 (by decide) ?_
    refine lv_iadd hx hb dX0_seat_43 ?_
    refine va_put (D := D) (ci := 0) (v := .int (nI pe + 1)) (ty := .int) (C := RX0) (T := TX0) (N := 9) hx hb hts uX0 tyX0 tyX0_ok nmX0 hown hK hP hD hS 0 rfl rfl 2 (by decide) w1 (fun _ h9 => h9) rfl (by decide +kernel) rfl rfl (Nat.le_of_ble_eq_true rfl) dX0_seat_44 (fun H locs hP hD hS => ?_)
    have hP : va_P D vwCl [(aE, .inr (0, [.int li, .int mi, .int (nI pe + 1), .ref aEs, .ref aEw, .ref aEd, .int to, .ref aEl, .ref aEt])), (aEs, .inl (cI, 4, .inl (upd sc pe sect))), (aEw, .inl (cI, 4, .inl (upd wv pe 0))), (aEd, .inl (cI, 4, .inl (upd dk pe 0)))] H := hP
    have hD : va_D A [(aE, .inr (0, [.int li, .int mi, .int (nI pe + 1), .ref aEs, .ref aEw, .ref aEd, .int to, .ref aEl, .ref aEt])), (aEs, .inl (cI, 4, .inl (upd sc pe sect))), (aEw, .inl (cI, 4, .inl (upd wv pe 0))), (aEd, .inl (cI, 4, .inl (upd dk pe 0)))] := hD
    refine lv_iload_n hx hb dX0_seat_47 rfl (lv_at hl 0 rfl) ?_
    have e_E_2 : (f_X0_seat_E_2 pe) = (nI pe + 1) := (by simp only [f_X0_seat_E_2, if_pos c1])
    have e_Es : (f_X0_seat_Es pe sc sect) = (upd sc pe sect) := (by simp only [f_X0_seat_Es, if_pos c1])
    have e_Ew : (f_X0_seat_Ew pe wv) = (upd wv pe 0) := (by simp only [f_X0_seat_Ew, if_pos c1])
    have e_Ed : (f_X0_seat_Ed pe dk) = (upd dk pe 0) := (by simp only [f_X0_seat_Ed, if_pos c1])
    exact eXi hx hb hr hlk hQ (by rw [e_E_2, e_Es, e_Ew, e_Ed]; exact hP) (by rw [e_E_2, e_Es, e_Ew, e_Ed]; exact hD) hS dX0_seat_48 (Eq.symm (by simp only [f_X0_seat, if_pos c1]))
  · have q1 : 4 ≤ pe := nlt_e (a := pe) (b := 4) rfl rfl (by omega) (by omega) c1
    refine lv_bipush (v := (-104)) hx hb dX0_seat_8 (by decide) ?_
    have e_E_2 : (f_X0_seat_E_2 pe) = nI pe := (by simp only [f_X0_seat_E_2, if_neg c1])
    have e_Es : (f_X0_seat_Es pe sc sect) = sc := (by simp only [f_X0_seat_Es, if_neg c1])
    have e_Ew : (f_X0_seat_Ew pe wv) = wv := (by simp only [f_X0_seat_Ew, if_neg c1])
    have e_Ed : (f_X0_seat_Ed pe dk) = dk := (by simp only [f_X0_seat_Ed, if_neg c1])
    exact eXi hx hb hr hlk hQ (by rw [e_E_2, e_Es, e_Ew, e_Ed]; exact hP) (by rw [e_E_2, e_Es, e_Ew, e_Ed]; exact hD) hS dX0_seat_10 (Eq.symm (by simp only [f_X0_seat, if_neg c1]))

def rm_X0_bookAgrees : Room := { frames := 0, cells := 0, slots := 0, locals := 0 }
def f_X0_bookAgrees (tl : Nat → Int32) (td : Nat → Int32) (litOnes : Int32) (minute : Int32) : Int32 := (if minute < 0 then 1 else (if minute ≤ 6 then (if ((tl minute.toNatClampNeg) &&& (litOnes ^^^ (-1))) = 0 then (if ((td minute.toNatClampNeg) &&& litOnes) = 0 then 1 else 0) else 0) else 1))
theorem hd_X0_bookAgrees : yX0_bookAgrees.cls = RX0 ∧ yX0_bookAgrees.cls ≠ "java/lang/invoke/MethodHandle" ∧ yX0_bookAgrees.cls ≠ "java/lang/invoke/VarHandle" ∧ (parseMethodDescriptor yX0_bookAgrees.desc).map (fun d => d.parameters.length) = some 2 := by decide +kernel
set_option maxHeartbeats 4000000 in
set_option maxRecDepth 100000 in
theorem c_X0_bookAgrees (l : Launch) (D : va_G) (cI : ClassId) (aE aEs aEw aEd aEl aEt : Nat) (li : Int32) (mi : Int32) (pe : Nat) (to : Int32) (tl : Nat → Int32) (td : Nat → Int32) (litOnes : Int32) (minute : Int32) : MetR l yX0_bookAgrees wsX0_bookAgrees rm_X0_bookAgrees D cI [.ref aE, .int minute, .int litOnes] [(aE, .inr (0, [.int li, .int mi, .int (nI pe), .ref aEs, .ref aEw, .ref aEd, .int to, .ref aEl, .ref aEt])), (aEl, .inl (cI, 7, .inl tl)), (aEt, .inl (cI, 7, .inl td))] (some (.int (f_X0_bookAgrees tl td litOnes minute))) := by
  refine mR (cc := cX0_bookAgrees) (maxL := 3) (ret := (some .boolean)) (by decide) rfl (Nat.le_of_ble_eq_true rfl) ?_
  intro p e s m args below meth c Q hx hb hr hml hown hts hlk hP hK hQ ls hl
  have hown : s.vm.findClass RX0 = some m.cls := hown
  have hl : lv_has ls 3 [(0, .ref aE), (1, .int minute), (2, .int litOnes)] := hl
  have w1 := hts (.fieldLink RX0 21 "DarkOffice$Evening" "toldLit" "[I") (List.mem_of_getElem? (i := 1) rfl)
  have uX0 : ∀ w ∈ wsX00, w ∈ wsX0_bookAgrees := fun _ h => List.mem_cons_of_mem _ (List.mem_append_right _ h)
  have w2 := hts (.fieldLink RX0 24 "DarkOffice$Evening" "toldDark" "[I") (List.mem_of_getElem? (i := 2) rfl)
  refine lv_iload_n hx hb dX0_bookAgrees_0 rfl (lv_at hl 1 rfl) ?_
  refine lv_if_lt (tgt := 10) hx hb dX0_bookAgrees_1 (by decide) (fun c1 => ?_) (fun c1 => ?_)
  · refine lv_iconst (v := 1) hx hb dX0_bookAgrees_10 (by decide) ?_
    exact eRz hx hb hr hlk hQ dX0_bookAgrees_11 rfl (Eq.symm (by simp only [f_X0_bookAgrees, if_pos c1]))
  · refine lv_iload_n hx hb dX0_bookAgrees_4 rfl (lv_at hl 1 rfl) ?_
    refine lv_bipush (v := 6) hx hb dX0_bookAgrees_5 (by decide) ?_
    refine lv_icmp_le (tgt := 12) hx hb dX0_bookAgrees_7 (by decide) (fun c2 => ?_) (fun c2 => ?_)
    · refine lv_aload_n hx hb dX0_bookAgrees_12 rfl (lv_at hl 0 rfl) ?_
      refine va_get (D := D) (ci := 0) (v := .ref aEl) (C := RX0) (T := TX0) (N := 9) hx hb hts uX0 hown hK hP 0 rfl rfl 7 (by decide) w1 (fun _ h9 => h9) rfl dX0_bookAgrees_13 ?_
      refine lv_iload_n hx hb dX0_bookAgrees_16 rfl (lv_at hl 1 rfl) ?_
      refine va_iald hx hb hK hP 1 0 rfl rfl (vin6 c1 c2) dX0_bookAgrees_17 ?_
      refine lv_iload_n hx hb dX0_bookAgrees_18 rfl (lv_at hl 2 rfl) ?_
      refine lv_iconst (v := (-1)) hx hb dX0_bookAgrees_19 (by decide) ?_
      refine lv_ixor hx hb dX0_bookAgrees_20 ?_
      refine lv_iand hx hb dX0_bookAgrees_21 ?_
      refine lv_if_ne (tgt := 40) hx hb dX0_bookAgrees_22 (by decide) (fun c3 => ?_) (fun c3 => ?_)
      · refine lv_iconst (v := 0) hx hb dX0_bookAgrees_40 (by decide) ?_
        exact eRz hx hb hr hlk hQ dX0_bookAgrees_41 rfl (Eq.symm (by simp only [f_X0_bookAgrees, if_neg c1, if_pos c2, if_neg c3]))
      · refine lv_aload_n hx hb dX0_bookAgrees_25 rfl (lv_at hl 0 rfl) ?_
        refine va_get (D := D) (ci := 0) (v := .ref aEt) (C := RX0) (T := TX0) (N := 9) hx hb hts uX0 hown hK hP 0 rfl rfl 8 (by decide) w2 (fun _ h9 => h9) rfl dX0_bookAgrees_26 ?_
        refine lv_iload_n hx hb dX0_bookAgrees_29 rfl (lv_at hl 1 rfl) ?_
        refine va_iald hx hb hK hP 2 0 rfl rfl (vin6 c1 c2) dX0_bookAgrees_30 ?_
        refine lv_iload_n hx hb dX0_bookAgrees_31 rfl (lv_at hl 2 rfl) ?_
        refine lv_iand hx hb dX0_bookAgrees_32 ?_
        refine lv_if_ne (tgt := 40) hx hb dX0_bookAgrees_33 (by decide) (fun c4 => ?_) (fun c4 => ?_)
        · refine lv_iconst (v := 0) hx hb dX0_bookAgrees_40 (by decide) ?_
          exact eRz hx hb hr hlk hQ dX0_bookAgrees_41 rfl (Eq.symm (by simp only [f_X0_bookAgrees, if_neg c1, if_pos c2, if_pos c3, if_neg c4]))
        · refine lv_iconst (v := 1) hx hb dX0_bookAgrees_36 (by decide) ?_
          refine lv_goto (tgt := 41) hx hb dX0_bookAgrees_37 (by decide) ?_
          exact eRz hx hb hr hlk hQ dX0_bookAgrees_41 rfl (Eq.symm (by simp only [f_X0_bookAgrees, if_neg c1, if_pos c2, if_pos c3, if_pos c4]))
    · refine lv_iconst (v := 1) hx hb dX0_bookAgrees_10 (by decide) ?_
      exact eRz hx hb hr hlk hQ dX0_bookAgrees_11 rfl (Eq.symm (by simp only [f_X0_bookAgrees, if_neg c1, if_neg c2]))

def rm_X0_copy : Room := { frames := 0, cells := 0, slots := 0, locals := 0 }
def f_X0_copy_83_El (tl : Nat → Int32) (ktl : Nat → Int32) : Nat → (Nat → Int32)
  | 0 => tl
  | i2 + 1 => (upd (f_X0_copy_83_El tl ktl i2) i2 (ktl i2))
def f_X0_copy_83_Et (td : Nat → Int32) (ktd : Nat → Int32) : Nat → (Nat → Int32)
  | 0 => td
  | i2 + 1 => (upd (f_X0_copy_83_Et td ktd i2) i2 (ktd i2))
def f_X0_copy_34_Es (sc : Nat → Int32) (ksc : Nat → Int32) : Nat → (Nat → Int32)
  | 0 => sc
  | i1 + 1 => (upd (f_X0_copy_34_Es sc ksc i1) i1 (ksc i1))
def f_X0_copy_34_Ew (wv : Nat → Int32) (kwv : Nat → Int32) : Nat → (Nat → Int32)
  | 0 => wv
  | i1 + 1 => (upd (f_X0_copy_34_Ew wv kwv i1) i1 (kwv i1))
def f_X0_copy_34_Ed (dk : Nat → Int32) (kdk : Nat → Int32) : Nat → (Nat → Int32)
  | 0 => dk
  | i1 + 1 => (upd (f_X0_copy_34_Ed dk kdk i1) i1 (kdk i1))
def f_X0_copy_E_0 (kli : Int32) : Int32 := kli
def f_X0_copy_E_1 (kmi : Int32) : Int32 := kmi
def f_X0_copy_E_2 (kpe : Int32) : Int32 := kpe
def f_X0_copy_E_6 (kto : Int32) : Int32 := kto
def f_X0_copy_Es (sc : Nat → Int32) (ksc : Nat → Int32) : Nat → Int32 := (f_X0_copy_34_Es sc ksc 4)
def f_X0_copy_Ew (wv : Nat → Int32) (kwv : Nat → Int32) : Nat → Int32 := (f_X0_copy_34_Ew wv kwv 4)
def f_X0_copy_Ed (dk : Nat → Int32) (kdk : Nat → Int32) : Nat → Int32 := (f_X0_copy_34_Ed dk kdk 4)
def f_X0_copy_El (tl : Nat → Int32) (ktl : Nat → Int32) : Nat → Int32 := (f_X0_copy_83_El tl ktl 7)
def f_X0_copy_Et (td : Nat → Int32) (ktd : Nat → Int32) : Nat → Int32 := (f_X0_copy_83_Et td ktd 7)
theorem hd_X0_copy : yX0_copy.cls = RX0 ∧ yX0_copy.cls ≠ "java/lang/invoke/MethodHandle" ∧ yX0_copy.cls ≠ "java/lang/invoke/VarHandle" ∧ (parseMethodDescriptor yX0_copy.desc).map (fun d => d.parameters.length) = some 1 := by decide +kernel
set_option maxHeartbeats 4000000 in
set_option maxRecDepth 100000 in
theorem c_X0_copy (l : Launch) (D : va_G) (cI : ClassId) (aE aEs aEw aEd aEl aEt aK aKs aKw aKd aKl aKt : Nat) (li : Int32) (mi : Int32) (to : Int32) (sc : Nat → Int32) (wv : Nat → Int32) (dk : Nat → Int32) (tl : Nat → Int32) (td : Nat → Int32) (kli : Int32) (kmi : Int32) (kpe : Int32) (kto : Int32) (ksc : Nat → Int32) (kwv : Nat → Int32) (kdk : Nat → Int32) (ktl : Nat → Int32) (ktd : Nat → Int32) (qe : Int32) : MetX l yX0_copy wsX0_copy rm_X0_copy D cI [.ref aE, .ref aK] [(aE, .inr (0, [.int li, .int mi, .int qe, .ref aEs, .ref aEw, .ref aEd, .int to, .ref aEl, .ref aEt])), (aEs, .inl (cI, 4, .inl sc)), (aEw, .inl (cI, 4, .inl wv)), (aEd, .inl (cI, 4, .inl dk)), (aEl, .inl (cI, 7, .inl tl)), (aEt, .inl (cI, 7, .inl td)), (aK, .inr (0, [.int kli, .int kmi, .int kpe, .ref aKs, .ref aKw, .ref aKd, .int kto, .ref aKl, .ref aKt])), (aKs, .inl (cI, 4, .inl ksc)), (aKw, .inl (cI, 4, .inl kwv)), (aKd, .inl (cI, 4, .inl kdk)), (aKl, .inl (cI, 7, .inl ktl)), (aKt, .inl (cI, 7, .inl ktd))] none [(aE, .inr (0, [.int (f_X0_copy_E_0 kli), .int (f_X0_copy_E_1 kmi), .int (f_X0_copy_E_2 kpe), .ref aEs, .ref aEw, .ref aEd, .int (f_X0_copy_E_6 kto), .ref aEl, .ref aEt])), (aEs, .inl (cI, 4, .inl (f_X0_copy_Es sc ksc))), (aEw, .inl (cI, 4, .inl (f_X0_copy_Ew wv kwv))), (aEd, .inl (cI, 4, .inl (f_X0_copy_Ed dk kdk))), (aEl, .inl (cI, 7, .inl (f_X0_copy_El tl ktl))), (aEt, .inl (cI, 7, .inl (f_X0_copy_Et td ktd))), (aK, .inr (0, [.int kli, .int kmi, .int kpe, .ref aKs, .ref aKw, .ref aKd, .int kto, .ref aKl, .ref aKt])), (aKs, .inl (cI, 4, .inl ksc)), (aKw, .inl (cI, 4, .inl kwv)), (aKd, .inl (cI, 4, .inl kdk)), (aKl, .inl (cI, 7, .inl ktl)), (aKt, .inl (cI, 7, .inl ktd))] := by
  refine mX (cc := cX0_copy) (maxL := 3) (ret := none) (by decide) rfl (Nat.le_of_ble_eq_true rfl) ?_
  intro p e s m args below meth c Q A hx hb hr hml hown hts hlk hP hK hD hA hS hQ ls hl
  have hown : s.vm.findClass RX0 = some m.cls := hown
  have hl : lv_has ls 3 [(0, .ref aE), (1, .ref aK)] := hl
  have w1 := hts (.fieldLink RX0 27 "DarkOffice$Evening" "lit" "I") (List.mem_of_getElem? (i := 1) rfl)
  have uX0 : ∀ w ∈ wsX00, w ∈ wsX0_copy := fun _ h => List.mem_cons_of_mem _ (List.mem_append_right _ h)
  have w2 := hts (.fieldLink RX0 31 "DarkOffice$Evening" "minutes" "I") (List.mem_of_getElem? (i := 2) rfl)
  have w3 := hts (.fieldLink RX0 34 "DarkOffice$Evening" "people" "I") (List.mem_of_getElem? (i := 3) rfl)
  have w4 := hts (.fieldLink RX0 40 "DarkOffice$Evening" "told" "I") (List.mem_of_getElem? (i := 4) rfl)
  have w8 := hts (.fieldLink RX0 21 "DarkOffice$Evening" "toldLit" "[I") (List.mem_of_getElem? (i := 8) rfl)
  have w9 := hts (.fieldLink RX0 24 "DarkOffice$Evening" "toldDark" "[I") (List.mem_of_getElem? (i := 9) rfl)
  have w5 := hts (.fieldLink RX0 9 "DarkOffice$Evening" "sections" "[I") (List.mem_of_getElem? (i := 5) rfl)
  have w6 := hts (.fieldLink RX0 15 "DarkOffice$Evening" "waves" "[I") (List.mem_of_getElem? (i := 6) rfl)
  have w7 := hts (.fieldLink RX0 18 "DarkOffice$Evening" "darks" "[I") (List.mem_of_getElem? (i := 7) rfl)
  refine lv_aload_n hx hb dX0_copy_0 rfl (lv_at hl 0 rfl) ?_
  refine lv_aload_n hx hb dX0_copy_1 rfl (lv_at hl 1 rfl) ?_
  refine va_get (D := D) (ci := 0) (v := .int kli) (C := RX0) (T := TX0) (N := 9) hx hb hts uX0 hown hK hP 6 rfl rfl 0 (by decide) w1 (fun _ h9 => h9) rfl dX0_copy_2 ?_
  refine va_put (D := D) (ci := 0) (v := .int kli) (ty := .int) (C := RX0) (T := TX0) (N := 9) hx hb hts uX0 tyX0 tyX0_ok nmX0 hown hK hP hD hS 0 rfl rfl 0 (by decide) w1 (fun _ h9 => h9) rfl (by decide +kernel) rfl rfl (Nat.le_of_ble_eq_true rfl) dX0_copy_5 (fun H locs hP hD hS => ?_)
  have hP : va_P D vwCl [(aE, .inr (0, [.int kli, .int mi, .int qe, .ref aEs, .ref aEw, .ref aEd, .int to, .ref aEl, .ref aEt])), (aEs, .inl (cI, 4, .inl sc)), (aEw, .inl (cI, 4, .inl wv)), (aEd, .inl (cI, 4, .inl dk)), (aEl, .inl (cI, 7, .inl tl)), (aEt, .inl (cI, 7, .inl td)), (aK, .inr (0, [.int kli, .int kmi, .int kpe, .ref aKs, .ref aKw, .ref aKd, .int kto, .ref aKl, .ref aKt])), (aKs, .inl (cI, 4, .inl ksc)), (aKw, .inl (cI, 4, .inl kwv)), (aKd, .inl (cI, 4, .inl kdk)), (aKl, .inl (cI, 7, .inl ktl)), (aKt, .inl (cI, 7, .inl ktd))] H := hP
  have hD : va_D A [(aE, .inr (0, [.int kli, .int mi, .int qe, .ref aEs, .ref aEw, .ref aEd, .int to, .ref aEl, .ref aEt])), (aEs, .inl (cI, 4, .inl sc)), (aEw, .inl (cI, 4, .inl wv)), (aEd, .inl (cI, 4, .inl dk)), (aEl, .inl (cI, 7, .inl tl)), (aEt, .inl (cI, 7, .inl td)), (aK, .inr (0, [.int kli, .int kmi, .int kpe, .ref aKs, .ref aKw, .ref aKd, .int kto, .ref aKl, .ref aKt])), (aKs, .inl (cI, 4, .inl ksc)), (aKw, .inl (cI, 4, .inl kwv)), (aKd, .inl (cI, 4, .inl kdk)), (aKl, .inl (cI, 7, .inl ktl)), (aKt, .inl (cI, 7, .inl ktd))] := hD
  refine lv_aload_n hx hb dX0_copy_8 rfl (lv_at hl 0 rfl) ?_
  refine lv_aload_n hx hb dX0_copy_9 rfl (lv_at hl 1 rfl) ?_
  refine va_get (D := D) (ci := 0) (v := .int kmi) (C := RX0) (T := TX0) (N := 9) hx hb hts uX0 hown hK hP 6 rfl rfl 1 (by decide) w2 (fun _ h9 => h9) rfl dX0_copy_10 ?_
  refine va_put (D := D) (ci := 0) (v := .int kmi) (ty := .int) (C := RX0) (T := TX0) (N := 9) hx hb hts uX0 tyX0 tyX0_ok nmX0 hown hK hP hD hS 0 rfl rfl 1 (by decide) w2 (fun _ h9 => h9) rfl (by decide +kernel) rfl rfl (Nat.le_of_ble_eq_true rfl) dX0_copy_13 (fun H locs hP hD hS => ?_)
  have hP : va_P D vwCl [(aE, .inr (0, [.int kli, .int kmi, .int qe, .ref aEs, .ref aEw, .ref aEd, .int to, .ref aEl, .ref aEt])), (aEs, .inl (cI, 4, .inl sc)), (aEw, .inl (cI, 4, .inl wv)), (aEd, .inl (cI, 4, .inl dk)), (aEl, .inl (cI, 7, .inl tl)), (aEt, .inl (cI, 7, .inl td)), (aK, .inr (0, [.int kli, .int kmi, .int kpe, .ref aKs, .ref aKw, .ref aKd, .int kto, .ref aKl, .ref aKt])), (aKs, .inl (cI, 4, .inl ksc)), (aKw, .inl (cI, 4, .inl kwv)), (aKd, .inl (cI, 4, .inl kdk)), (aKl, .inl (cI, 7, .inl ktl)), (aKt, .inl (cI, 7, .inl ktd))] H := hP
  have hD : va_D A [(aE, .inr (0, [.int kli, .int kmi, .int qe, .ref aEs, .ref aEw, .ref aEd, .int to, .ref aEl, .ref aEt])), (aEs, .inl (cI, 4, .inl sc)), (aEw, .inl (cI, 4, .inl wv)), (aEd, .inl (cI, 4, .inl dk)), (aEl, .inl (cI, 7, .inl tl)), (aEt, .inl (cI, 7, .inl td)), (aK, .inr (0, [.int kli, .int kmi, .int kpe, .ref aKs, .ref aKw, .ref aKd, .int kto, .ref aKl, .ref aKt])), (aKs, .inl (cI, 4, .inl ksc)), (aKw, .inl (cI, 4, .inl kwv)), (aKd, .inl (cI, 4, .inl kdk)), (aKl, .inl (cI, 7, .inl ktl)), (aKt, .inl (cI, 7, .inl ktd))] := hD
  refine lv_aload_n hx hb dX0_copy_16 rfl (lv_at hl 0 rfl) ?_
  refine lv_aload_n hx hb dX0_copy_17 rfl (lv_at hl 1 rfl) ?_
  refine va_get (D := D) (ci := 0) (v := .int kpe) (C := RX0) (T := TX0) (N := 9) hx hb hts uX0 hown hK hP 6 rfl rfl 2 (by decide) w3 (fun _ h9 => h9) rfl dX0_copy_18 ?_
  refine va_put (D := D) (ci := 0) (v := .int kpe) (ty := .int) (C := RX0) (T := TX0) (N := 9) hx hb hts uX0 tyX0 tyX0_ok nmX0 hown hK hP hD hS 0 rfl rfl 2 (by decide) w3 (fun _ h9 => h9) rfl (by decide +kernel) rfl rfl (Nat.le_of_ble_eq_true rfl) dX0_copy_21 (fun H locs hP hD hS => ?_)
  have hP : va_P D vwCl [(aE, .inr (0, [.int kli, .int kmi, .int kpe, .ref aEs, .ref aEw, .ref aEd, .int to, .ref aEl, .ref aEt])), (aEs, .inl (cI, 4, .inl sc)), (aEw, .inl (cI, 4, .inl wv)), (aEd, .inl (cI, 4, .inl dk)), (aEl, .inl (cI, 7, .inl tl)), (aEt, .inl (cI, 7, .inl td)), (aK, .inr (0, [.int kli, .int kmi, .int kpe, .ref aKs, .ref aKw, .ref aKd, .int kto, .ref aKl, .ref aKt])), (aKs, .inl (cI, 4, .inl ksc)), (aKw, .inl (cI, 4, .inl kwv)), (aKd, .inl (cI, 4, .inl kdk)), (aKl, .inl (cI, 7, .inl ktl)), (aKt, .inl (cI, 7, .inl ktd))] H := hP
  have hD : va_D A [(aE, .inr (0, [.int kli, .int kmi, .int kpe, .ref aEs, .ref aEw, .ref aEd, .int to, .ref aEl, .ref aEt])), (aEs, .inl (cI, 4, .inl sc)), (aEw, .inl (cI, 4, .inl wv)), (aEd, .inl (cI, 4, .inl dk)), (aEl, .inl (cI, 7, .inl tl)), (aEt, .inl (cI, 7, .inl td)), (aK, .inr (0, [.int kli, .int kmi, .int kpe, .ref aKs, .ref aKw, .ref aKd, .int kto, .ref aKl, .ref aKt])), (aKs, .inl (cI, 4, .inl ksc)), (aKw, .inl (cI, 4, .inl kwv)), (aKd, .inl (cI, 4, .inl kdk)), (aKl, .inl (cI, 7, .inl ktl)), (aKt, .inl (cI, 7, .inl ktd))] := hD
  refine lv_aload_n hx hb dX0_copy_24 rfl (lv_at hl 0 rfl) ?_
  refine lv_aload_n hx hb dX0_copy_25 rfl (lv_at hl 1 rfl) ?_
  refine va_get (D := D) (ci := 0) (v := .int kto) (C := RX0) (T := TX0) (N := 9) hx hb hts uX0 hown hK hP 6 rfl rfl 6 (by decide) w4 (fun _ h9 => h9) rfl dX0_copy_26 ?_
  refine va_put (D := D) (ci := 0) (v := .int kto) (ty := .int) (C := RX0) (T := TX0) (N := 9) hx hb hts uX0 tyX0 tyX0_ok nmX0 hown hK hP hD hS 0 rfl rfl 6 (by decide) w4 (fun _ h9 => h9) rfl (by decide +kernel) rfl rfl (Nat.le_of_ble_eq_true rfl) dX0_copy_29 (fun H locs hP hD hS => ?_)
  have hP : va_P D vwCl [(aE, .inr (0, [.int kli, .int kmi, .int kpe, .ref aEs, .ref aEw, .ref aEd, .int kto, .ref aEl, .ref aEt])), (aEs, .inl (cI, 4, .inl sc)), (aEw, .inl (cI, 4, .inl wv)), (aEd, .inl (cI, 4, .inl dk)), (aEl, .inl (cI, 7, .inl tl)), (aEt, .inl (cI, 7, .inl td)), (aK, .inr (0, [.int kli, .int kmi, .int kpe, .ref aKs, .ref aKw, .ref aKd, .int kto, .ref aKl, .ref aKt])), (aKs, .inl (cI, 4, .inl ksc)), (aKw, .inl (cI, 4, .inl kwv)), (aKd, .inl (cI, 4, .inl kdk)), (aKl, .inl (cI, 7, .inl ktl)), (aKt, .inl (cI, 7, .inl ktd))] H := hP
  have hD : va_D A [(aE, .inr (0, [.int kli, .int kmi, .int kpe, .ref aEs, .ref aEw, .ref aEd, .int kto, .ref aEl, .ref aEt])), (aEs, .inl (cI, 4, .inl sc)), (aEw, .inl (cI, 4, .inl wv)), (aEd, .inl (cI, 4, .inl dk)), (aEl, .inl (cI, 7, .inl tl)), (aEt, .inl (cI, 7, .inl td)), (aK, .inr (0, [.int kli, .int kmi, .int kpe, .ref aKs, .ref aKw, .ref aKd, .int kto, .ref aKl, .ref aKt])), (aKs, .inl (cI, 4, .inl ksc)), (aKw, .inl (cI, 4, .inl kwv)), (aKd, .inl (cI, 4, .inl kdk)), (aKl, .inl (cI, 7, .inl ktl)), (aKt, .inl (cI, 7, .inl ktd))] := hD
  refine lv_iconst (v := 0) hx hb dX0_copy_32 (by decide) ?_
  refine lv_istore_n (lv' := [(2, .int 0), (0, .ref aE), (1, .ref aK)]) hx hb dX0_copy_33 rfl hl (by decide) rfl (fun ls hl => ?_)
  have lp34 : ∀ (k34 i1 : Nat), i1 + k34 = 4 → ∀ (H : Heap) (locs : List Loc), va_P D vwCl [(aE, .inr (0, [.int kli, .int kmi, .int kpe, .ref aEs, .ref aEw, .ref aEd, .int kto, .ref aEl, .ref aEt])), (aEs, .inl (cI, 4, .inl ((f_X0_copy_34_Es sc ksc i1)))), (aEw, .inl (cI, 4, .inl ((f_X0_copy_34_Ew wv kwv i1)))), (aEd, .inl (cI, 4, .inl ((f_X0_copy_34_Ed dk kdk i1)))), (aEl, .inl (cI, 7, .inl tl)), (aEt, .inl (cI, 7, .inl td)), (aK, .inr (0, [.int kli, .int kmi, .int kpe, .ref aKs, .ref aKw, .ref aKd, .int kto, .ref aKl, .ref aKt])), (aKs, .inl (cI, 4, .inl ksc)), (aKw, .inl (cI, 4, .inl kwv)), (aKd, .inl (cI, 4, .inl kdk)), (aKl, .inl (cI, 7, .inl ktl)), (aKt, .inl (cI, 7, .inl ktd))] H → va_D A [(aE, .inr (0, [.int kli, .int kmi, .int kpe, .ref aEs, .ref aEw, .ref aEd, .int kto, .ref aEl, .ref aEt])), (aEs, .inl (cI, 4, .inl ((f_X0_copy_34_Es sc ksc i1)))), (aEw, .inl (cI, 4, .inl ((f_X0_copy_34_Ew wv kwv i1)))), (aEd, .inl (cI, 4, .inl ((f_X0_copy_34_Ed dk kdk i1)))), (aEl, .inl (cI, 7, .inl tl)), (aEt, .inl (cI, 7, .inl td)), (aK, .inr (0, [.int kli, .int kmi, .int kpe, .ref aKs, .ref aKw, .ref aKd, .int kto, .ref aKl, .ref aKt])), (aKs, .inl (cI, 4, .inl ksc)), (aKw, .inl (cI, 4, .inl kwv)), (aKd, .inl (cI, 4, .inl kdk)), (aKl, .inl (cI, 7, .inl ktl)), (aKt, .inl (cI, 7, .inl ktd))] → va_S A s.heap H locs → ∀ ls : Array Slot, lv_has ls 3 [(0, .ref aE), (1, .ref aK), (2, .int (nI i1))] → W p l e rm_X0_copy s m args below meth c H locs 0 0 Q (F0 m 34 ls []) := by
    intro k34
    induction k34 with
    | zero =>
      intro i1 hk34 H locs hP hD hS ls hl
      have hN34 : 4 = i1 := by omega
      subst hN34
      refine lv_iload_n hx hb dX0_copy_34 rfl (lv_at hl 2 rfl) ?_
      refine lv_iconst (v := 4) hx hb dX0_copy_35 (by decide) ?_
      refine lv_icmp_ge (tgt := 81) hx hb dX0_copy_36 (by decide) (fun _ => ?_) (fun c => absurd (nle_t (a := 4) (b := 4) rfl rfl (by omega) (by omega) (by omega)) c)
      refine lv_iconst (v := 0) hx hb dX0_copy_81 (by decide) ?_
      refine lv_istore_n (lv' := [(2, .int 0), (0, .ref aE), (1, .ref aK)]) hx hb dX0_copy_82 rfl hl (by decide) rfl (fun ls hl => ?_)
      have lp83 : ∀ (k83 i2 : Nat), i2 + k83 = 7 → ∀ (H : Heap) (locs : List Loc), va_P D vwCl [(aE, .inr (0, [.int kli, .int kmi, .int kpe, .ref aEs, .ref aEw, .ref aEd, .int kto, .ref aEl, .ref aEt])), (aEs, .inl (cI, 4, .inl ((f_X0_copy_34_Es sc ksc 4)))), (aEw, .inl (cI, 4, .inl ((f_X0_copy_34_Ew wv kwv 4)))), (aEd, .inl (cI, 4, .inl ((f_X0_copy_34_Ed dk kdk 4)))), (aEl, .inl (cI, 7, .inl ((f_X0_copy_83_El tl ktl i2)))), (aEt, .inl (cI, 7, .inl ((f_X0_copy_83_Et td ktd i2)))), (aK, .inr (0, [.int kli, .int kmi, .int kpe, .ref aKs, .ref aKw, .ref aKd, .int kto, .ref aKl, .ref aKt])), (aKs, .inl (cI, 4, .inl ksc)), (aKw, .inl (cI, 4, .inl kwv)), (aKd, .inl (cI, 4, .inl kdk)), (aKl, .inl (cI, 7, .inl ktl)), (aKt, .inl (cI, 7, .inl ktd))] H → va_D A [(aE, .inr (0, [.int kli, .int kmi, .int kpe, .ref aEs, .ref aEw, .ref aEd, .int kto, .ref aEl, .ref aEt])), (aEs, .inl (cI, 4, .inl ((f_X0_copy_34_Es sc ksc 4)))), (aEw, .inl (cI, 4, .inl ((f_X0_copy_34_Ew wv kwv 4)))), (aEd, .inl (cI, 4, .inl ((f_X0_copy_34_Ed dk kdk 4)))), (aEl, .inl (cI, 7, .inl ((f_X0_copy_83_El tl ktl i2)))), (aEt, .inl (cI, 7, .inl ((f_X0_copy_83_Et td ktd i2)))), (aK, .inr (0, [.int kli, .int kmi, .int kpe, .ref aKs, .ref aKw, .ref aKd, .int kto, .ref aKl, .ref aKt])), (aKs, .inl (cI, 4, .inl ksc)), (aKw, .inl (cI, 4, .inl kwv)), (aKd, .inl (cI, 4, .inl kdk)), (aKl, .inl (cI, 7, .inl ktl)), (aKt, .inl (cI, 7, .inl ktd))] → va_S A s.heap H locs → ∀ ls : Array Slot, lv_has ls 3 [(0, .ref aE), (1, .ref aK), (2, .int (nI i2))] → W p l e rm_X0_copy s m args below meth c H locs 0 0 Q (F0 m 83 ls []) := by
        intro k83
        induction k83 with
        | zero =>
          intro i2 hk83 H locs hP hD hS ls hl
          have hN83 : 7 = i2 := by omega
          subst hN83
          refine lv_iload_n hx hb dX0_copy_83 rfl (lv_at hl 2 rfl) ?_
          refine lv_bipush (v := 6) hx hb dX0_copy_84 (by decide) ?_
          refine lv_icmp_gt (tgt := 119) hx hb dX0_copy_86 (by decide) (fun _ => ?_) (fun c => absurd (nlt_t (a := 6) (b := 7) rfl rfl (by omega) (by omega) (by omega)) c)
          have e_E_0 : (f_X0_copy_E_0 kli) = kli := (by simp only [f_X0_copy_E_0])
          have e_E_1 : (f_X0_copy_E_1 kmi) = kmi := (by simp only [f_X0_copy_E_1])
          have e_E_2 : (f_X0_copy_E_2 kpe) = kpe := (by simp only [f_X0_copy_E_2])
          have e_E_6 : (f_X0_copy_E_6 kto) = kto := (by simp only [f_X0_copy_E_6])
          have e_Es : (f_X0_copy_Es sc ksc) = (f_X0_copy_34_Es sc ksc 4) := (by simp only [f_X0_copy_Es])
          have e_Ew : (f_X0_copy_Ew wv kwv) = (f_X0_copy_34_Ew wv kwv 4) := (by simp only [f_X0_copy_Ew])
          have e_Ed : (f_X0_copy_Ed dk kdk) = (f_X0_copy_34_Ed dk kdk 4) := (by simp only [f_X0_copy_Ed])
          have e_El : (f_X0_copy_El tl ktl) = (f_X0_copy_83_El tl ktl 7) := (by simp only [f_X0_copy_El])
          have e_Et : (f_X0_copy_Et td ktd) = (f_X0_copy_83_Et td ktd 7) := (by simp only [f_X0_copy_Et])
          exact eXv hx hb hr hlk hQ (by rw [e_E_0, e_E_1, e_E_2, e_E_6, e_Es, e_Ew, e_Ed, e_El, e_Et]; exact hP) (by rw [e_E_0, e_E_1, e_E_2, e_E_6, e_Es, e_Ew, e_Ed, e_El, e_Et]; exact hD) hS dX0_copy_119
        | succ k83 ih83 =>
          intro i2 hk83 H locs hP hD hS ls hl
          refine lv_iload_n hx hb dX0_copy_83 rfl (lv_at hl 2 rfl) ?_
          refine lv_bipush (v := 6) hx hb dX0_copy_84 (by decide) ?_
          refine lv_icmp_gt (tgt := 119) hx hb dX0_copy_86 (by decide) (fun c => absurd c (nlt_f (a := 6) (b := i2) rfl rfl (by omega) (by omega) (by omega))) (fun _ => ?_)
          refine lv_aload_n hx hb dX0_copy_89 rfl (lv_at hl 0 rfl) ?_
          refine va_get (D := D) (ci := 0) (v := .ref aEl) (C := RX0) (T := TX0) (N := 9) hx hb hts uX0 hown hK hP 0 rfl rfl 7 (by decide) w8 (fun _ h9 => h9) rfl dX0_copy_90 ?_
          refine lv_iload_n hx hb dX0_copy_93 rfl (lv_at hl 2 rfl) ?_
          refine lv_aload_n hx hb dX0_copy_94 rfl (lv_at hl 1 rfl) ?_
          refine va_get (D := D) (ci := 0) (v := .ref aKl) (C := RX0) (T := TX0) (N := 9) hx hb hts uX0 hown hK hP 6 rfl rfl 7 (by decide) w8 (fun _ h9 => h9) rfl dX0_copy_95 ?_
          refine lv_iload_n hx hb dX0_copy_98 rfl (lv_at hl 2 rfl) ?_
          refine xald hx hb hK hP 10 rfl i2 rfl (by omega) (by decide) dX0_copy_99 ?_
          refine xast hx hb hK hP hD hS 4 rfl i2 rfl (by omega) (by decide) dX0_copy_100 (fun H locs hP hD hS => ?_)
          have hP : va_P D vwCl [(aE, .inr (0, [.int kli, .int kmi, .int kpe, .ref aEs, .ref aEw, .ref aEd, .int kto, .ref aEl, .ref aEt])), (aEs, .inl (cI, 4, .inl ((f_X0_copy_34_Es sc ksc 4)))), (aEw, .inl (cI, 4, .inl ((f_X0_copy_34_Ew wv kwv 4)))), (aEd, .inl (cI, 4, .inl ((f_X0_copy_34_Ed dk kdk 4)))), (aEl, .inl (cI, 7, .inl (upd (f_X0_copy_83_El tl ktl i2) i2 (ktl i2)))), (aEt, .inl (cI, 7, .inl ((f_X0_copy_83_Et td ktd i2)))), (aK, .inr (0, [.int kli, .int kmi, .int kpe, .ref aKs, .ref aKw, .ref aKd, .int kto, .ref aKl, .ref aKt])), (aKs, .inl (cI, 4, .inl ksc)), (aKw, .inl (cI, 4, .inl kwv)), (aKd, .inl (cI, 4, .inl kdk)), (aKl, .inl (cI, 7, .inl ktl)), (aKt, .inl (cI, 7, .inl ktd))] H := hP
          have hD : va_D A [(aE, .inr (0, [.int kli, .int kmi, .int kpe, .ref aEs, .ref aEw, .ref aEd, .int kto, .ref aEl, .ref aEt])), (aEs, .inl (cI, 4, .inl ((f_X0_copy_34_Es sc ksc 4)))), (aEw, .inl (cI, 4, .inl ((f_X0_copy_34_Ew wv kwv 4)))), (aEd, .inl (cI, 4, .inl ((f_X0_copy_34_Ed dk kdk 4)))), (aEl, .inl (cI, 7, .inl (upd (f_X0_copy_83_El tl ktl i2) i2 (ktl i2)))), (aEt, .inl (cI, 7, .inl ((f_X0_copy_83_Et td ktd i2)))), (aK, .inr (0, [.int kli, .int kmi, .int kpe, .ref aKs, .ref aKw, .ref aKd, .int kto, .ref aKl, .ref aKt])), (aKs, .inl (cI, 4, .inl ksc)), (aKw, .inl (cI, 4, .inl kwv)), (aKd, .inl (cI, 4, .inl kdk)), (aKl, .inl (cI, 7, .inl ktl)), (aKt, .inl (cI, 7, .inl ktd))] := hD
          refine lv_aload_n hx hb dX0_copy_101 rfl (lv_at hl 0 rfl) ?_
          refine va_get (D := D) (ci := 0) (v := .ref aEt) (C := RX0) (T := TX0) (N := 9) hx hb hts uX0 hown hK hP 0 rfl rfl 8 (by decide) w9 (fun _ h9 => h9) rfl dX0_copy_102 ?_
          refine lv_iload_n hx hb dX0_copy_105 rfl (lv_at hl 2 rfl) ?_
          refine lv_aload_n hx hb dX0_copy_106 rfl (lv_at hl 1 rfl) ?_
          refine va_get (D := D) (ci := 0) (v := .ref aKt) (C := RX0) (T := TX0) (N := 9) hx hb hts uX0 hown hK hP 6 rfl rfl 8 (by decide) w9 (fun _ h9 => h9) rfl dX0_copy_107 ?_
          refine lv_iload_n hx hb dX0_copy_110 rfl (lv_at hl 2 rfl) ?_
          refine xald hx hb hK hP 11 rfl i2 rfl (by omega) (by decide) dX0_copy_111 ?_
          refine xast hx hb hK hP hD hS 5 rfl i2 rfl (by omega) (by decide) dX0_copy_112 (fun H locs hP hD hS => ?_)
          have hP : va_P D vwCl [(aE, .inr (0, [.int kli, .int kmi, .int kpe, .ref aEs, .ref aEw, .ref aEd, .int kto, .ref aEl, .ref aEt])), (aEs, .inl (cI, 4, .inl ((f_X0_copy_34_Es sc ksc 4)))), (aEw, .inl (cI, 4, .inl ((f_X0_copy_34_Ew wv kwv 4)))), (aEd, .inl (cI, 4, .inl ((f_X0_copy_34_Ed dk kdk 4)))), (aEl, .inl (cI, 7, .inl (upd (f_X0_copy_83_El tl ktl i2) i2 (ktl i2)))), (aEt, .inl (cI, 7, .inl (upd (f_X0_copy_83_Et td ktd i2) i2 (ktd i2)))), (aK, .inr (0, [.int kli, .int kmi, .int kpe, .ref aKs, .ref aKw, .ref aKd, .int kto, .ref aKl, .ref aKt])), (aKs, .inl (cI, 4, .inl ksc)), (aKw, .inl (cI, 4, .inl kwv)), (aKd, .inl (cI, 4, .inl kdk)), (aKl, .inl (cI, 7, .inl ktl)), (aKt, .inl (cI, 7, .inl ktd))] H := hP
          have hD : va_D A [(aE, .inr (0, [.int kli, .int kmi, .int kpe, .ref aEs, .ref aEw, .ref aEd, .int kto, .ref aEl, .ref aEt])), (aEs, .inl (cI, 4, .inl ((f_X0_copy_34_Es sc ksc 4)))), (aEw, .inl (cI, 4, .inl ((f_X0_copy_34_Ew wv kwv 4)))), (aEd, .inl (cI, 4, .inl ((f_X0_copy_34_Ed dk kdk 4)))), (aEl, .inl (cI, 7, .inl (upd (f_X0_copy_83_El tl ktl i2) i2 (ktl i2)))), (aEt, .inl (cI, 7, .inl (upd (f_X0_copy_83_Et td ktd i2) i2 (ktd i2)))), (aK, .inr (0, [.int kli, .int kmi, .int kpe, .ref aKs, .ref aKw, .ref aKd, .int kto, .ref aKl, .ref aKt])), (aKs, .inl (cI, 4, .inl ksc)), (aKw, .inl (cI, 4, .inl kwv)), (aKd, .inl (cI, 4, .inl kdk)), (aKl, .inl (cI, 7, .inl ktl)), (aKt, .inl (cI, 7, .inl ktd))] := hD
          refine lv_iinc (v := nI (i2 + 1)) (lv' := [(2, .int (nI (i2 + 1))), (0, .ref aE), (1, .ref aK)]) hx hb dX0_copy_113 hl (k := 2) rfl (nI_add i2 1) (by decide) rfl (fun ls hl => ?_)
          refine lv_goto (tgt := 83) hx hb dX0_copy_116 (by decide) ?_
          have e_El : (f_X0_copy_83_El tl ktl (i2 + 1)) = (upd (f_X0_copy_83_El tl ktl i2) i2 (ktl i2)) := (by simp only [f_X0_copy_83_El])
          have e_Et : (f_X0_copy_83_Et td ktd (i2 + 1)) = (upd (f_X0_copy_83_Et td ktd i2) i2 (ktd i2)) := (by simp only [f_X0_copy_83_Et])
          exact ih83 (i2 + 1) (by omega) _ _ (by rw [e_El, e_Et]; exact hP) (by rw [e_El, e_Et]; exact hD) hS ls (lv_sub hl [1, 2, 0] rfl)
      exact lp83 7 0 (by omega) _ _ hP hD hS ls (lv_sub hl [1, 2, 0] rfl)
    | succ k34 ih34 =>
      intro i1 hk34 H locs hP hD hS ls hl
      refine lv_iload_n hx hb dX0_copy_34 rfl (lv_at hl 2 rfl) ?_
      refine lv_iconst (v := 4) hx hb dX0_copy_35 (by decide) ?_
      refine lv_icmp_ge (tgt := 81) hx hb dX0_copy_36 (by decide) (fun c => absurd c (nle_f (a := 4) (b := i1) rfl rfl (by omega) (by omega) (by omega))) (fun _ => ?_)
      refine lv_aload_n hx hb dX0_copy_39 rfl (lv_at hl 0 rfl) ?_
      refine va_get (D := D) (ci := 0) (v := .ref aEs) (C := RX0) (T := TX0) (N := 9) hx hb hts uX0 hown hK hP 0 rfl rfl 3 (by decide) w5 (fun _ h9 => h9) rfl dX0_copy_40 ?_
      refine lv_iload_n hx hb dX0_copy_43 rfl (lv_at hl 2 rfl) ?_
      refine lv_aload_n hx hb dX0_copy_44 rfl (lv_at hl 1 rfl) ?_
      refine va_get (D := D) (ci := 0) (v := .ref aKs) (C := RX0) (T := TX0) (N := 9) hx hb hts uX0 hown hK hP 6 rfl rfl 3 (by decide) w5 (fun _ h9 => h9) rfl dX0_copy_45 ?_
      refine lv_iload_n hx hb dX0_copy_48 rfl (lv_at hl 2 rfl) ?_
      refine xald hx hb hK hP 7 rfl i1 rfl (by omega) (by decide) dX0_copy_49 ?_
      refine xast hx hb hK hP hD hS 1 rfl i1 rfl (by omega) (by decide) dX0_copy_50 (fun H locs hP hD hS => ?_)
      have hP : va_P D vwCl [(aE, .inr (0, [.int kli, .int kmi, .int kpe, .ref aEs, .ref aEw, .ref aEd, .int kto, .ref aEl, .ref aEt])), (aEs, .inl (cI, 4, .inl (upd (f_X0_copy_34_Es sc ksc i1) i1 (ksc i1)))), (aEw, .inl (cI, 4, .inl ((f_X0_copy_34_Ew wv kwv i1)))), (aEd, .inl (cI, 4, .inl ((f_X0_copy_34_Ed dk kdk i1)))), (aEl, .inl (cI, 7, .inl tl)), (aEt, .inl (cI, 7, .inl td)), (aK, .inr (0, [.int kli, .int kmi, .int kpe, .ref aKs, .ref aKw, .ref aKd, .int kto, .ref aKl, .ref aKt])), (aKs, .inl (cI, 4, .inl ksc)), (aKw, .inl (cI, 4, .inl kwv)), (aKd, .inl (cI, 4, .inl kdk)), (aKl, .inl (cI, 7, .inl ktl)), (aKt, .inl (cI, 7, .inl ktd))] H := hP
      have hD : va_D A [(aE, .inr (0, [.int kli, .int kmi, .int kpe, .ref aEs, .ref aEw, .ref aEd, .int kto, .ref aEl, .ref aEt])), (aEs, .inl (cI, 4, .inl (upd (f_X0_copy_34_Es sc ksc i1) i1 (ksc i1)))), (aEw, .inl (cI, 4, .inl ((f_X0_copy_34_Ew wv kwv i1)))), (aEd, .inl (cI, 4, .inl ((f_X0_copy_34_Ed dk kdk i1)))), (aEl, .inl (cI, 7, .inl tl)), (aEt, .inl (cI, 7, .inl td)), (aK, .inr (0, [.int kli, .int kmi, .int kpe, .ref aKs, .ref aKw, .ref aKd, .int kto, .ref aKl, .ref aKt])), (aKs, .inl (cI, 4, .inl ksc)), (aKw, .inl (cI, 4, .inl kwv)), (aKd, .inl (cI, 4, .inl kdk)), (aKl, .inl (cI, 7, .inl ktl)), (aKt, .inl (cI, 7, .inl ktd))] := hD
      refine lv_aload_n hx hb dX0_copy_51 rfl (lv_at hl 0 rfl) ?_
      refine va_get (D := D) (ci := 0) (v := .ref aEw) (C := RX0) (T := TX0) (N := 9) hx hb hts uX0 hown hK hP 0 rfl rfl 4 (by decide) w6 (fun _ h9 => h9) rfl dX0_copy_52 ?_
      refine lv_iload_n hx hb dX0_copy_55 rfl (lv_at hl 2 rfl) ?_
      refine lv_aload_n hx hb dX0_copy_56 rfl (lv_at hl 1 rfl) ?_
      refine va_get (D := D) (ci := 0) (v := .ref aKw) (C := RX0) (T := TX0) (N := 9) hx hb hts uX0 hown hK hP 6 rfl rfl 4 (by decide) w6 (fun _ h9 => h9) rfl dX0_copy_57 ?_
      refine lv_iload_n hx hb dX0_copy_60 rfl (lv_at hl 2 rfl) ?_
      refine xald hx hb hK hP 8 rfl i1 rfl (by omega) (by decide) dX0_copy_61 ?_
      refine xast hx hb hK hP hD hS 2 rfl i1 rfl (by omega) (by decide) dX0_copy_62 (fun H locs hP hD hS => ?_)
      have hP : va_P D vwCl [(aE, .inr (0, [.int kli, .int kmi, .int kpe, .ref aEs, .ref aEw, .ref aEd, .int kto, .ref aEl, .ref aEt])), (aEs, .inl (cI, 4, .inl (upd (f_X0_copy_34_Es sc ksc i1) i1 (ksc i1)))), (aEw, .inl (cI, 4, .inl (upd (f_X0_copy_34_Ew wv kwv i1) i1 (kwv i1)))), (aEd, .inl (cI, 4, .inl ((f_X0_copy_34_Ed dk kdk i1)))), (aEl, .inl (cI, 7, .inl tl)), (aEt, .inl (cI, 7, .inl td)), (aK, .inr (0, [.int kli, .int kmi, .int kpe, .ref aKs, .ref aKw, .ref aKd, .int kto, .ref aKl, .ref aKt])), (aKs, .inl (cI, 4, .inl ksc)), (aKw, .inl (cI, 4, .inl kwv)), (aKd, .inl (cI, 4, .inl kdk)), (aKl, .inl (cI, 7, .inl ktl)), (aKt, .inl (cI, 7, .inl ktd))] H := hP
      have hD : va_D A [(aE, .inr (0, [.int kli, .int kmi, .int kpe, .ref aEs, .ref aEw, .ref aEd, .int kto, .ref aEl, .ref aEt])), (aEs, .inl (cI, 4, .inl (upd (f_X0_copy_34_Es sc ksc i1) i1 (ksc i1)))), (aEw, .inl (cI, 4, .inl (upd (f_X0_copy_34_Ew wv kwv i1) i1 (kwv i1)))), (aEd, .inl (cI, 4, .inl ((f_X0_copy_34_Ed dk kdk i1)))), (aEl, .inl (cI, 7, .inl tl)), (aEt, .inl (cI, 7, .inl td)), (aK, .inr (0, [.int kli, .int kmi, .int kpe, .ref aKs, .ref aKw, .ref aKd, .int kto, .ref aKl, .ref aKt])), (aKs, .inl (cI, 4, .inl ksc)), (aKw, .inl (cI, 4, .inl kwv)), (aKd, .inl (cI, 4, .inl kdk)), (aKl, .inl (cI, 7, .inl ktl)), (aKt, .inl (cI, 7, .inl ktd))] := hD
      refine lv_aload_n hx hb dX0_copy_63 rfl (lv_at hl 0 rfl) ?_
      refine va_get (D := D) (ci := 0) (v := .ref aEd) (C := RX0) (T := TX0) (N := 9) hx hb hts uX0 hown hK hP 0 rfl rfl 5 (by decide) w7 (fun _ h9 => h9) rfl dX0_copy_64 ?_
      refine lv_iload_n hx hb dX0_copy_67 rfl (lv_at hl 2 rfl) ?_
      refine lv_aload_n hx hb dX0_copy_68 rfl (lv_at hl 1 rfl) ?_
      refine va_get (D := D) (ci := 0) (v := .ref aKd) (C := RX0) (T := TX0) (N := 9) hx hb hts uX0 hown hK hP 6 rfl rfl 5 (by decide) w7 (fun _ h9 => h9) rfl dX0_copy_69 ?_
      refine lv_iload_n hx hb dX0_copy_72 rfl (lv_at hl 2 rfl) ?_
      refine xald hx hb hK hP 9 rfl i1 rfl (by omega) (by decide) dX0_copy_73 ?_
      refine xast hx hb hK hP hD hS 3 rfl i1 rfl (by omega) (by decide) dX0_copy_74 (fun H locs hP hD hS => ?_)
      have hP : va_P D vwCl [(aE, .inr (0, [.int kli, .int kmi, .int kpe, .ref aEs, .ref aEw, .ref aEd, .int kto, .ref aEl, .ref aEt])), (aEs, .inl (cI, 4, .inl (upd (f_X0_copy_34_Es sc ksc i1) i1 (ksc i1)))), (aEw, .inl (cI, 4, .inl (upd (f_X0_copy_34_Ew wv kwv i1) i1 (kwv i1)))), (aEd, .inl (cI, 4, .inl (upd (f_X0_copy_34_Ed dk kdk i1) i1 (kdk i1)))), (aEl, .inl (cI, 7, .inl tl)), (aEt, .inl (cI, 7, .inl td)), (aK, .inr (0, [.int kli, .int kmi, .int kpe, .ref aKs, .ref aKw, .ref aKd, .int kto, .ref aKl, .ref aKt])), (aKs, .inl (cI, 4, .inl ksc)), (aKw, .inl (cI, 4, .inl kwv)), (aKd, .inl (cI, 4, .inl kdk)), (aKl, .inl (cI, 7, .inl ktl)), (aKt, .inl (cI, 7, .inl ktd))] H := hP
      have hD : va_D A [(aE, .inr (0, [.int kli, .int kmi, .int kpe, .ref aEs, .ref aEw, .ref aEd, .int kto, .ref aEl, .ref aEt])), (aEs, .inl (cI, 4, .inl (upd (f_X0_copy_34_Es sc ksc i1) i1 (ksc i1)))), (aEw, .inl (cI, 4, .inl (upd (f_X0_copy_34_Ew wv kwv i1) i1 (kwv i1)))), (aEd, .inl (cI, 4, .inl (upd (f_X0_copy_34_Ed dk kdk i1) i1 (kdk i1)))), (aEl, .inl (cI, 7, .inl tl)), (aEt, .inl (cI, 7, .inl td)), (aK, .inr (0, [.int kli, .int kmi, .int kpe, .ref aKs, .ref aKw, .ref aKd, .int kto, .ref aKl, .ref aKt])), (aKs, .inl (cI, 4, .inl ksc)), (aKw, .inl (cI, 4, .inl kwv)), (aKd, .inl (cI, 4, .inl kdk)), (aKl, .inl (cI, 7, .inl ktl)), (aKt, .inl (cI, 7, .inl ktd))] := hD
      refine lv_iinc (v := nI (i1 + 1)) (lv' := [(2, .int (nI (i1 + 1))), (0, .ref aE), (1, .ref aK)]) hx hb dX0_copy_75 hl (k := 2) rfl (nI_add i1 1) (by decide) rfl (fun ls hl => ?_)
      refine lv_goto (tgt := 34) hx hb dX0_copy_78 (by decide) ?_
      have e_Es : (f_X0_copy_34_Es sc ksc (i1 + 1)) = (upd (f_X0_copy_34_Es sc ksc i1) i1 (ksc i1)) := (by simp only [f_X0_copy_34_Es])
      have e_Ew : (f_X0_copy_34_Ew wv kwv (i1 + 1)) = (upd (f_X0_copy_34_Ew wv kwv i1) i1 (kwv i1)) := (by simp only [f_X0_copy_34_Ew])
      have e_Ed : (f_X0_copy_34_Ed dk kdk (i1 + 1)) = (upd (f_X0_copy_34_Ed dk kdk i1) i1 (kdk i1)) := (by simp only [f_X0_copy_34_Ed])
      exact ih34 (i1 + 1) (by omega) _ _ (by rw [e_Es, e_Ew, e_Ed]; exact hP) (by rw [e_Es, e_Ew, e_Ed]; exact hD) hS ls (lv_sub hl [1, 2, 0] rfl)
  exact lp34 4 0 (by omega) _ _ hP hD hS ls (lv_sub hl [1, 2, 0] rfl)

def rm_X2_put : Room := { frames := 0, cells := 0, slots := 0, locals := 0 }
def f_X2_put (pl : Nat) : Int32 := (if nI pl < 20 then (nI pl + 1) else (-104))
def f_X2_put_P_1 (pl : Nat) : Int32 := (if nI pl < 20 then (nI pl + 1) else nI pl)
def f_X2_put_Pc (pl : Nat) (co : Nat → Int32) (code : Int32) : Nat → Int32 := (if nI pl < 20 then (upd co pl code) else co)
theorem hd_X2_put : yX2_put.cls = RX2 ∧ yX2_put.cls ≠ "java/lang/invoke/MethodHandle" ∧ yX2_put.cls ≠ "java/lang/invoke/VarHandle" ∧ (parseMethodDescriptor yX2_put.desc).map (fun d => d.parameters.length) = some 1 := by decide +kernel
set_option maxHeartbeats 4000000 in
set_option maxRecDepth 100000 in
theorem c_X2_put (l : Launch) (D : va_G) (cI : ClassId) (aP aPc : Nat) (pl : Nat) (co : Nat → Int32) (code : Int32) (hpl : pl ≤ 20) : MetX l yX2_put wsX2_put rm_X2_put D cI [.ref aP, .int code] [(aP, .inr (2, [.ref aPc, .int (nI pl)])), (aPc, .inl (cI, 20, .inl co))] (some (.int (f_X2_put pl))) [(aP, .inr (2, [.ref aPc, .int (f_X2_put_P_1 pl)])), (aPc, .inl (cI, 20, .inl (f_X2_put_Pc pl co code)))] := by
  refine mX (cc := cX2_put) (maxL := 2) (ret := (some .int)) (by decide) rfl (Nat.le_of_ble_eq_true rfl) ?_
  intro p e s m args below meth c Q A hx hb hr hml hown hts hlk hP hK hD hA hS hQ ls hl
  have hown : s.vm.findClass RX2 = some m.cls := hown
  have hl : lv_has ls 2 [(0, .ref aP), (1, .int code)] := hl
  have w1 := hts (.fieldLink RX2 15 "DarkOffice$Page" "length" "I") (List.mem_of_getElem? (i := 1) rfl)
  have uX2 : ∀ w ∈ wsX20, w ∈ wsX2_put := fun _ h => List.mem_cons_of_mem _ (List.mem_append_right _ h)
  have w2 := hts (.fieldLink RX2 9 "DarkOffice$Page" "codes" "[I") (List.mem_of_getElem? (i := 2) rfl)
  refine lv_aload_n hx hb dX2_put_0 rfl (lv_at hl 0 rfl) ?_
  refine va_get (D := D) (ci := 2) (v := .int (nI pl)) (C := RX2) (T := TX2) (N := 2) hx hb hts uX2 hown hK hP 0 rfl rfl 1 (by decide) w1 (fun _ h9 => h9) rfl dX2_put_1 ?_
  refine lv_bipush (v := 20) hx hb dX2_put_4 (by decide) ?_
  refine lv_icmp_lt (tgt := 12) hx hb dX2_put_6 (by decide) (fun c1 => ?_) (fun c1 => ?_)
  · have q1 : pl < 20 := nlt_d (a := pl) (b := 20) rfl rfl (by omega) (by omega) c1
    refine lv_aload_n hx hb dX2_put_12 rfl (lv_at hl 0 rfl) ?_
    refine va_get (D := D) (ci := 2) (v := .ref aPc) (C := RX2) (T := TX2) (N := 2) hx hb hts uX2 hown hK hP 0 rfl rfl 0 (by decide) w2 (fun _ h9 => h9) rfl dX2_put_13 ?_
    refine lv_aload_n hx hb dX2_put_16 rfl (lv_at hl 0 rfl) ?_
    refine va_get (D := D) (ci := 2) (v := .int (nI pl)) (C := RX2) (T := TX2) (N := 2) hx hb hts uX2 hown hK hP 0 rfl rfl 1 (by decide) w1 (fun _ h9 => h9) rfl dX2_put_17 ?_
    refine lv_iload_n hx hb dX2_put_20 rfl (lv_at hl 1 rfl) ?_
    refine xast hx hb hK hP hD hS 1 rfl pl rfl (by omega) (by decide) dX2_put_21 (fun H locs hP hD hS => ?_)
    have hP : va_P D vwCl [(aP, .inr (2, [.ref aPc, .int (nI pl)])), (aPc, .inl (cI, 20, .inl (upd co pl code)))] H := hP
    have hD : va_D A [(aP, .inr (2, [.ref aPc, .int (nI pl)])), (aPc, .inl (cI, 20, .inl (upd co pl code)))] := hD
    refine lv_aload_n hx hb dX2_put_22 rfl (lv_at hl 0 rfl) ?_
    refine lv_dup hx hb dX2_put_23 rfl ?_
    refine va_get (D := D) (ci := 2) (v := .int (nI pl)) (C := RX2) (T := TX2) (N := 2) hx hb hts uX2 hown hK hP 0 rfl rfl 1 (by decide) w1 (fun _ h9 => h9) rfl dX2_put_24 ?_
    refine lv_iconst (v := 1) hx hb dX2_put_27 (by decide) ?_
    refine lv_iadd hx hb dX2_put_28 ?_
    refine va_put (D := D) (ci := 2) (v := .int (nI pl + 1)) (ty := .int) (C := RX2) (T := TX2) (N := 2) hx hb hts uX2 tyX2 tyX2_ok nmX2 hown hK hP hD hS 0 rfl rfl 1 (by decide) w1 (fun _ h9 => h9) rfl (by decide +kernel) rfl rfl (Nat.le_of_ble_eq_true rfl) dX2_put_29 (fun H locs hP hD hS => ?_)
    have hP : va_P D vwCl [(aP, .inr (2, [.ref aPc, .int (nI pl + 1)])), (aPc, .inl (cI, 20, .inl (upd co pl code)))] H := hP
    have hD : va_D A [(aP, .inr (2, [.ref aPc, .int (nI pl + 1)])), (aPc, .inl (cI, 20, .inl (upd co pl code)))] := hD
    refine lv_aload_n hx hb dX2_put_32 rfl (lv_at hl 0 rfl) ?_
    refine va_get (D := D) (ci := 2) (v := .int (nI pl + 1)) (C := RX2) (T := TX2) (N := 2) hx hb hts uX2 hown hK hP 0 rfl rfl 1 (by decide) w1 (fun _ h9 => h9) rfl dX2_put_33 ?_
    have e_P_1 : (f_X2_put_P_1 pl) = (nI pl + 1) := (by simp only [f_X2_put_P_1, if_pos c1])
    have e_Pc : (f_X2_put_Pc pl co code) = (upd co pl code) := (by simp only [f_X2_put_Pc, if_pos c1])
    exact eXi hx hb hr hlk hQ (by rw [e_P_1, e_Pc]; exact hP) (by rw [e_P_1, e_Pc]; exact hD) hS dX2_put_36 (Eq.symm (by simp only [f_X2_put, if_pos c1]))
  · have q1 : 20 ≤ pl := nlt_e (a := pl) (b := 20) rfl rfl (by omega) (by omega) c1
    refine lv_bipush (v := (-104)) hx hb dX2_put_9 (by decide) ?_
    have e_P_1 : (f_X2_put_P_1 pl) = nI pl := (by simp only [f_X2_put_P_1, if_neg c1])
    have e_Pc : (f_X2_put_Pc pl co code) = co := (by simp only [f_X2_put_Pc, if_neg c1])
    exact eXi hx hb hr hlk hQ (by rw [e_P_1, e_Pc]; exact hP) (by rw [e_P_1, e_Pc]; exact hD) hS dX2_put_11 (Eq.symm (by simp only [f_X2_put, if_neg c1]))

def rm_X3_left : Room := { frames := 0, cells := 0, slots := 0, locals := 0 }
def f_X3_left_4_v1 (en : Nat → Int32) : Nat → Int32
  | 0 => 0
  | i1 + 1 => (if (en i1) = (-1) then ((f_X3_left_4_v1 en i1) + 0) else ((f_X3_left_4_v1 en i1) + 1))
def f_X3_left (en : Nat → Int32) (z : Nat) : Int32 := (f_X3_left_4_v1 en z)
theorem hd_X3_left : yX3_left.cls = RX3 ∧ yX3_left.cls ≠ "java/lang/invoke/MethodHandle" ∧ yX3_left.cls ≠ "java/lang/invoke/VarHandle" ∧ (parseMethodDescriptor yX3_left.desc).map (fun d => d.parameters.length) = some 0 := by decide +kernel
set_option maxHeartbeats 4000000 in
set_option maxRecDepth 100000 in
theorem c_X3_left (l : Launch) (D : va_G) (cI : ClassId) (aY aYe : Nat) (en : Nat → Int32) (z : Nat) (hz : z ≤ 64) : MetR l yX3_left wsX3_left rm_X3_left D cI [.ref aY] [(aY, .inr (3, [.ref aYe, .int (nI z)])), (aYe, .inl (cI, 64, .inl en))] (some (.int (f_X3_left en z))) := by
  refine mR (cc := cX3_left) (maxL := 3) (ret := (some .int)) (by decide) rfl (Nat.le_of_ble_eq_true rfl) ?_
  intro p e s m args below meth c Q hx hb hr hml hown hts hlk hP hK hQ ls hl
  have hown : s.vm.findClass RX3 = some m.cls := hown
  have hl : lv_has ls 3 [(0, .ref aY)] := hl
  have w1 := hts (.fieldLink RX3 15 "DarkOffice$Ways" "size" "I") (List.mem_of_getElem? (i := 1) rfl)
  have uX3 : ∀ w ∈ wsX30, w ∈ wsX3_left := fun _ h => List.mem_cons_of_mem _ (List.mem_append_right _ h)
  have w2 := hts (.fieldLink RX3 9 "DarkOffice$Ways" "ends" "[I") (List.mem_of_getElem? (i := 2) rfl)
  refine lv_iconst (v := 0) hx hb dX3_left_0 (by decide) ?_
  refine lv_istore_n (lv' := [(1, .int 0), (0, .ref aY)]) hx hb dX3_left_1 rfl hl (by decide) rfl (fun ls hl => ?_)
  refine lv_iconst (v := 0) hx hb dX3_left_2 (by decide) ?_
  refine lv_istore_n (lv' := [(2, .int 0), (1, .int 0), (0, .ref aY)]) hx hb dX3_left_3 rfl hl (by decide) rfl (fun ls hl => ?_)
  have lp4 : ∀ (k4 i1 : Nat), i1 + k4 = z → ∀ ls : Array Slot, lv_has ls 3 [(0, .ref aY), (1, .int ((f_X3_left_4_v1 en i1))), (2, .int (nI i1))] → W p l e rm_X3_left s m args below meth c s.heap [] 0 0 Q (F0 m 4 ls []) := by
    intro k4
    induction k4 with
    | zero =>
      intro i1 hk4 ls hl
      have hN4 : z = i1 := by omega
      subst hN4
      refine lv_iload_n hx hb dX3_left_4 rfl (lv_at hl 2 rfl) ?_
      refine lv_aload_n hx hb dX3_left_5 rfl (lv_at hl 0 rfl) ?_
      refine va_get (D := D) (ci := 3) (v := .int (nI z)) (C := RX3) (T := TX3) (N := 2) hx hb hts uX3 hown hK hP 0 rfl rfl 1 (by decide) w1 (fun _ h9 => h9) rfl dX3_left_6 ?_
      refine lv_icmp_ge (tgt := 36) hx hb dX3_left_9 (by decide) (fun _ => ?_) (fun c => absurd (nle_t (a := z) (b := z) rfl rfl (by omega) (by omega) (by omega)) c)
      refine lv_iload_n hx hb dX3_left_36 rfl (lv_at hl 1 rfl) ?_
      exact eRi hx hb hr hlk hQ dX3_left_37 (Eq.symm (by simp only [f_X3_left]))
    | succ k4 ih4 =>
      intro i1 hk4 ls hl
      refine lv_iload_n hx hb dX3_left_4 rfl (lv_at hl 2 rfl) ?_
      refine lv_aload_n hx hb dX3_left_5 rfl (lv_at hl 0 rfl) ?_
      refine va_get (D := D) (ci := 3) (v := .int (nI z)) (C := RX3) (T := TX3) (N := 2) hx hb hts uX3 hown hK hP 0 rfl rfl 1 (by decide) w1 (fun _ h9 => h9) rfl dX3_left_6 ?_
      refine lv_icmp_ge (tgt := 36) hx hb dX3_left_9 (by decide) (fun c => absurd c (nle_f (a := z) (b := i1) rfl rfl (by omega) (by omega) (by omega))) (fun _ => ?_)
      refine lv_iload_n hx hb dX3_left_12 rfl (lv_at hl 1 rfl) ?_
      refine lv_aload_n hx hb dX3_left_13 rfl (lv_at hl 0 rfl) ?_
      refine va_get (D := D) (ci := 3) (v := .ref aYe) (C := RX3) (T := TX3) (N := 2) hx hb hts uX3 hown hK hP 0 rfl rfl 0 (by decide) w2 (fun _ h9 => h9) rfl dX3_left_14 ?_
      refine lv_iload_n hx hb dX3_left_17 rfl (lv_at hl 2 rfl) ?_
      refine xald hx hb hK hP 1 rfl i1 rfl (by omega) (by decide) dX3_left_18 ?_
      refine lv_iconst (v := (-1)) hx hb dX3_left_19 (by decide) ?_
      refine lv_icmp_eq (tgt := 27) hx hb dX3_left_20 (by decide) (fun c1 => ?_) (fun c1 => ?_)
      · refine lv_iconst (v := 0) hx hb dX3_left_27 (by decide) ?_
        refine lv_iadd hx hb dX3_left_28 ?_
        refine lv_istore_n (lv' := [(1, .int ((f_X3_left_4_v1 en i1) + 0)), (0, .ref aY), (2, .int (nI i1))]) hx hb dX3_left_29 rfl hl (by decide) rfl (fun ls hl => ?_)
        refine lv_iinc (v := nI (i1 + 1)) (lv' := [(2, .int (nI (i1 + 1))), (1, .int ((f_X3_left_4_v1 en i1) + 0)), (0, .ref aY)]) hx hb dX3_left_30 hl (k := 2) rfl (nI_add i1 1) (by decide) rfl (fun ls hl => ?_)
        refine lv_goto (tgt := 4) hx hb dX3_left_33 (by decide) ?_
        have e_v1 : (f_X3_left_4_v1 en (i1 + 1)) = ((f_X3_left_4_v1 en i1) + 0) := (by simp only [f_X3_left_4_v1, if_pos c1])
        exact ih4 (i1 + 1) (by omega) ls (by rw [e_v1]; exact lv_sub hl [2, 1, 0] rfl)
      · refine lv_iconst (v := 1) hx hb dX3_left_23 (by decide) ?_
        refine lv_goto (tgt := 28) hx hb dX3_left_24 (by decide) ?_
        refine lv_iadd hx hb dX3_left_28 ?_
        refine lv_istore_n (lv' := [(1, .int ((f_X3_left_4_v1 en i1) + 1)), (0, .ref aY), (2, .int (nI i1))]) hx hb dX3_left_29 rfl hl (by decide) rfl (fun ls hl => ?_)
        refine lv_iinc (v := nI (i1 + 1)) (lv' := [(2, .int (nI (i1 + 1))), (1, .int ((f_X3_left_4_v1 en i1) + 1)), (0, .ref aY)]) hx hb dX3_left_30 hl (k := 2) rfl (nI_add i1 1) (by decide) rfl (fun ls hl => ?_)
        refine lv_goto (tgt := 4) hx hb dX3_left_33 (by decide) ?_
        have e_v1 : (f_X3_left_4_v1 en (i1 + 1)) = ((f_X3_left_4_v1 en i1) + 1) := (by simp only [f_X3_left_4_v1, if_neg c1])
        exact ih4 (i1 + 1) (by omega) ls (by rw [e_v1]; exact lv_sub hl [2, 1, 0] rfl)
  exact lp4 z 0 (by omega) ls (lv_sub hl [2, 1, 0] rfl)

def rm_X3_first : Room := { frames := 0, cells := 0, slots := 0, locals := 0 }
def f_X3_first_2_r (en : Nat → Int32) (z : Nat) : Nat → Nat → Int32
  | 0, _ => 0
  | k2 + 1, i1 => (if nI z ≤ nI i1 then (-1) else (if (en i1) = (-1) then (f_X3_first_2_r en z k2 (i1 + 1)) else nI i1))
def f_X3_first (en : Nat → Int32) (z : Nat) : Int32 := (f_X3_first_2_r en z (z + 1) 0)
theorem hd_X3_first : yX3_first.cls = RX3 ∧ yX3_first.cls ≠ "java/lang/invoke/MethodHandle" ∧ yX3_first.cls ≠ "java/lang/invoke/VarHandle" ∧ (parseMethodDescriptor yX3_first.desc).map (fun d => d.parameters.length) = some 0 := by decide +kernel
set_option maxHeartbeats 4000000 in
set_option maxRecDepth 100000 in
theorem c_X3_first (l : Launch) (D : va_G) (cI : ClassId) (aY aYe : Nat) (en : Nat → Int32) (z : Nat) (hz : z ≤ 64) : MetR l yX3_first wsX3_first rm_X3_first D cI [.ref aY] [(aY, .inr (3, [.ref aYe, .int (nI z)])), (aYe, .inl (cI, 64, .inl en))] (some (.int (f_X3_first en z))) := by
  refine mR (cc := cX3_first) (maxL := 2) (ret := (some .int)) (by decide) rfl (Nat.le_of_ble_eq_true rfl) ?_
  intro p e s m args below meth c Q hx hb hr hml hown hts hlk hP hK hQ ls hl
  have hown : s.vm.findClass RX3 = some m.cls := hown
  have hl : lv_has ls 2 [(0, .ref aY)] := hl
  have w1 := hts (.fieldLink RX3 15 "DarkOffice$Ways" "size" "I") (List.mem_of_getElem? (i := 1) rfl)
  have uX3 : ∀ w ∈ wsX30, w ∈ wsX3_first := fun _ h => List.mem_cons_of_mem _ (List.mem_append_right _ h)
  have w2 := hts (.fieldLink RX3 9 "DarkOffice$Ways" "ends" "[I") (List.mem_of_getElem? (i := 2) rfl)
  refine lv_iconst (v := 0) hx hb dX3_first_0 (by decide) ?_
  refine lv_istore_n (lv' := [(1, .int 0), (0, .ref aY)]) hx hb dX3_first_1 rfl hl (by decide) rfl (fun ls hl => ?_)
  have lp2 : ∀ (k2 : Nat) (i1 : Nat), i1 ≤ z ∧ z < i1 + k2 → ((f_X3_first en z) = (f_X3_first_2_r en z k2 i1)) → ∀ ls : Array Slot, lv_has ls 2 [(0, .ref aY), (1, .int (nI i1))] → W p l e rm_X3_first s m args below meth c s.heap [] 0 0 Q (F0 m 2 ls []) := by
    intro k2
    induction k2 with
    | zero =>
      intro i1 hh2 h2_r ls hl
      exact absurd hh2 (by omega)
    | succ k2 ih2 =>
      intro i1 hh2 h2_r ls hl
      refine lv_iload_n hx hb dX3_first_2 rfl (lv_at hl 1 rfl) ?_
      refine lv_aload_n hx hb dX3_first_3 rfl (lv_at hl 0 rfl) ?_
      refine va_get (D := D) (ci := 3) (v := .int (nI z)) (C := RX3) (T := TX3) (N := 2) hx hb hts uX3 hown hK hP 0 rfl rfl 1 (by decide) w1 (fun _ h9 => h9) rfl dX3_first_4 ?_
      refine lv_icmp_ge (tgt := 28) hx hb dX3_first_7 (by decide) (fun c1 => ?_) (fun c1 => ?_)
      · have q1 : z ≤ i1 := nle_d (a := z) (b := i1) rfl rfl (by omega) (by omega) c1
        refine lv_iconst (v := (-1)) hx hb dX3_first_28 (by decide) ?_
        exact eRi hx hb hr hlk hQ dX3_first_29 (Eq.symm (h2_r.trans (by simp only [f_X3_first_2_r, if_pos c1])))
      · have q1 : i1 < z := nle_e (a := z) (b := i1) rfl rfl (by omega) (by omega) c1
        refine lv_aload_n hx hb dX3_first_10 rfl (lv_at hl 0 rfl) ?_
        refine va_get (D := D) (ci := 3) (v := .ref aYe) (C := RX3) (T := TX3) (N := 2) hx hb hts uX3 hown hK hP 0 rfl rfl 0 (by decide) w2 (fun _ h9 => h9) rfl dX3_first_11 ?_
        refine lv_iload_n hx hb dX3_first_14 rfl (lv_at hl 1 rfl) ?_
        refine xald hx hb hK hP 1 rfl i1 rfl (by omega) (by decide) dX3_first_15 ?_
        refine lv_iconst (v := (-1)) hx hb dX3_first_16 (by decide) ?_
        refine lv_icmp_eq (tgt := 22) hx hb dX3_first_17 (by decide) (fun c2 => ?_) (fun c2 => ?_)
        · refine lv_iinc (v := nI (i1 + 1)) (lv' := [(1, .int (nI (i1 + 1))), (0, .ref aY)]) hx hb dX3_first_22 hl (k := 1) rfl (nI_add i1 1) (by decide) rfl (fun ls hl => ?_)
          refine lv_goto (tgt := 2) hx hb dX3_first_25 (by decide) ?_
          exact ih2 (i1 + 1) (by omega) (h2_r.trans (by simp only [f_X3_first_2_r, if_neg c1, if_pos c2])) ls (lv_sub hl [1, 0] rfl)
        · refine lv_iload_n hx hb dX3_first_20 rfl (lv_at hl 1 rfl) ?_
          exact eRi hx hb hr hlk hQ dX3_first_21 (Eq.symm (h2_r.trans (by simp only [f_X3_first_2_r, if_neg c1, if_neg c2])))
  exact lp2 (z + 1) 0 (by omega) (by simp only [f_X3_first]) ls (lv_sub hl [1, 0] rfl)

def rm_X3_endLit : Room := { frames := 1, cells := 0, slots := 0, locals := 21 }
def f_X3_endLit_4_v2 (en : Nat → Int32) (lamp : Int32) : Nat → Int32
  | 0 => 0
  | i1 + 1 => (if (en i1) = (-1) then ((f_X3_endLit_4_v2 en lamp i1) + 0) else (if (f_X1_left lamp (en i1)) ≤ 0 then ((f_X3_endLit_4_v2 en lamp i1) + 0) else ((f_X3_endLit_4_v2 en lamp i1) + 1)))
def f_X3_endLit (en : Nat → Int32) (lamp : Int32) (z : Nat) : Int32 := (f_X3_endLit_4_v2 en lamp z)
theorem hd_X3_endLit : yX3_endLit.cls = RX3 ∧ yX3_endLit.cls ≠ "java/lang/invoke/MethodHandle" ∧ yX3_endLit.cls ≠ "java/lang/invoke/VarHandle" ∧ (parseMethodDescriptor yX3_endLit.desc).map (fun d => d.parameters.length) = some 1 := by decide +kernel
set_option maxHeartbeats 4000000 in
set_option maxRecDepth 100000 in
theorem c_X3_endLit (l : Launch) (D : va_G) (cI : ClassId) (aY aYe : Nat) (en : Nat → Int32) (lamp : Int32) (z : Nat) (hz : z ≤ 64) : MetR l yX3_endLit wsX3_endLit rm_X3_endLit D cI [.ref aY, .int lamp] [(aY, .inr (3, [.ref aYe, .int (nI z)])), (aYe, .inl (cI, 64, .inl en))] (some (.int (f_X3_endLit en lamp z))) := by
  refine mR (cc := cX3_endLit) (maxL := 4) (ret := (some .int)) (by decide) rfl (Nat.le_of_ble_eq_true rfl) ?_
  intro p e s m args below meth c Q hx hb hr hml hown hts hlk hP hK hQ ls hl
  have hown : s.vm.findClass RX3 = some m.cls := hown
  have hl : lv_has ls 4 [(0, .ref aY), (1, .int lamp)] := hl
  have w1 := hts (.fieldLink RX3 15 "DarkOffice$Ways" "size" "I") (List.mem_of_getElem? (i := 1) rfl)
  have uX3 : ∀ w ∈ wsX30, w ∈ wsX3_endLit := fun _ h => List.mem_cons_of_mem _ (List.mem_append_right _ h)
  have w2 := hts (.fieldLink RX3 9 "DarkOffice$Ways" "ends" "[I") (List.mem_of_getElem? (i := 2) rfl)
  refine lv_iconst (v := 0) hx hb dX3_endLit_0 (by decide) ?_
  refine lv_istore_n (lv' := [(2, .int 0), (0, .ref aY), (1, .int lamp)]) hx hb dX3_endLit_1 rfl hl (by decide) rfl (fun ls hl => ?_)
  refine lv_iconst (v := 0) hx hb dX3_endLit_2 (by decide) ?_
  refine lv_istore_n (lv' := [(3, .int 0), (2, .int 0), (0, .ref aY), (1, .int lamp)]) hx hb dX3_endLit_3 rfl hl (by decide) rfl (fun ls hl => ?_)
  have lp4 : ∀ (k4 i1 : Nat), i1 + k4 = z → ∀ ls : Array Slot, lv_has ls 4 [(0, .ref aY), (1, .int lamp), (2, .int ((f_X3_endLit_4_v2 en lamp i1))), (3, .int (nI i1))] → W p l e rm_X3_endLit s m args below meth c s.heap [] 0 0 Q (F0 m 4 ls []) := by
    intro k4
    induction k4 with
    | zero =>
      intro i1 hk4 ls hl
      have hN4 : z = i1 := by omega
      subst hN4
      refine lv_iload_n hx hb dX3_endLit_4 rfl (lv_at hl 3 rfl) ?_
      refine lv_aload_n hx hb dX3_endLit_5 rfl (lv_at hl 0 rfl) ?_
      refine va_get (D := D) (ci := 3) (v := .int (nI z)) (C := RX3) (T := TX3) (N := 2) hx hb hts uX3 hown hK hP 0 rfl rfl 1 (by decide) w1 (fun _ h9 => h9) rfl dX3_endLit_6 ?_
      refine lv_icmp_ge (tgt := 49) hx hb dX3_endLit_9 (by decide) (fun _ => ?_) (fun c => absurd (nle_t (a := z) (b := z) rfl rfl (by omega) (by omega) (by omega)) c)
      refine lv_iload_n hx hb dX3_endLit_49 rfl (lv_at hl 2 rfl) ?_
      exact eRi hx hb hr hlk hQ dX3_endLit_50 (Eq.symm (by simp only [f_X3_endLit]))
    | succ k4 ih4 =>
      intro i1 hk4 ls hl
      refine lv_iload_n hx hb dX3_endLit_4 rfl (lv_at hl 3 rfl) ?_
      refine lv_aload_n hx hb dX3_endLit_5 rfl (lv_at hl 0 rfl) ?_
      refine va_get (D := D) (ci := 3) (v := .int (nI z)) (C := RX3) (T := TX3) (N := 2) hx hb hts uX3 hown hK hP 0 rfl rfl 1 (by decide) w1 (fun _ h9 => h9) rfl dX3_endLit_6 ?_
      refine lv_icmp_ge (tgt := 49) hx hb dX3_endLit_9 (by decide) (fun c => absurd c (nle_f (a := z) (b := i1) rfl rfl (by omega) (by omega) (by omega))) (fun _ => ?_)
      refine lv_iload_n hx hb dX3_endLit_12 rfl (lv_at hl 2 rfl) ?_
      refine lv_aload_n hx hb dX3_endLit_13 rfl (lv_at hl 0 rfl) ?_
      refine va_get (D := D) (ci := 3) (v := .ref aYe) (C := RX3) (T := TX3) (N := 2) hx hb hts uX3 hown hK hP 0 rfl rfl 0 (by decide) w2 (fun _ h9 => h9) rfl dX3_endLit_14 ?_
      refine lv_iload_n hx hb dX3_endLit_17 rfl (lv_at hl 3 rfl) ?_
      refine xald hx hb hK hP 1 rfl i1 rfl (by omega) (by decide) dX3_endLit_18 ?_
      refine lv_iconst (v := (-1)) hx hb dX3_endLit_19 (by decide) ?_
      refine lv_icmp_eq (tgt := 40) hx hb dX3_endLit_20 (by decide) (fun c1 => ?_) (fun c1 => ?_)
      · refine lv_iconst (v := 0) hx hb dX3_endLit_40 (by decide) ?_
        refine lv_iadd hx hb dX3_endLit_41 ?_
        refine lv_istore_n (lv' := [(2, .int ((f_X3_endLit_4_v2 en lamp i1) + 0)), (0, .ref aY), (1, .int lamp), (3, .int (nI i1))]) hx hb dX3_endLit_42 rfl hl (by decide) rfl (fun ls hl => ?_)
        refine lv_iinc (v := nI (i1 + 1)) (lv' := [(3, .int (nI (i1 + 1))), (2, .int ((f_X3_endLit_4_v2 en lamp i1) + 0)), (0, .ref aY), (1, .int lamp)]) hx hb dX3_endLit_43 hl (k := 3) rfl (nI_add i1 1) (by decide) rfl (fun ls hl => ?_)
        refine lv_goto (tgt := 4) hx hb dX3_endLit_46 (by decide) ?_
        have e_v2 : (f_X3_endLit_4_v2 en lamp (i1 + 1)) = ((f_X3_endLit_4_v2 en lamp i1) + 0) := (by simp only [f_X3_endLit_4_v2, if_pos c1])
        exact ih4 (i1 + 1) (by omega) ls (by rw [e_v2]; exact lv_sub hl [2, 3, 1, 0] rfl)
      · refine lv_aload_n hx hb dX3_endLit_23 rfl (lv_at hl 0 rfl) ?_
        refine va_get (D := D) (ci := 3) (v := .ref aYe) (C := RX3) (T := TX3) (N := 2) hx hb hts uX3 hown hK hP 0 rfl rfl 0 (by decide) w2 (fun _ h9 => h9) rfl dX3_endLit_24 ?_
        refine lv_iload_n hx hb dX3_endLit_27 rfl (lv_at hl 3 rfl) ?_
        refine xald hx hb hK hP 1 rfl i1 rfl (by omega) (by decide) dX3_endLit_28 ?_
        refine lv_iload_n hx hb dX3_endLit_29 rfl (lv_at hl 1 rfl) ?_
        refine rS ⟨hx, hb, hml, hown, hts⟩ (c_X1_left l D cI lamp (en i1)) (va_cwS 2 hts gX3_endLit_X1_left rfl rfl rfl hd_X1_left ⟨Nat.le_of_ble_eq_true rfl, Nat.le_of_ble_eq_true rfl⟩) hK (hP.sub [] rfl) rfl hl.1 (rest := [.int ((f_X3_endLit_4_v2 en lamp i1))]) (st' := [.int (f_X1_left lamp (en i1)), .int ((f_X3_endLit_4_v2 en lamp i1))]) rfl rfl (Nat.le_of_ble_eq_true rfl) dX3_endLit_30 ⟨Nat.zero_le _, Nat.zero_le _⟩ ?_
        refine lv_if_le (tgt := 40) hx hb dX3_endLit_33 (by decide) (fun c2 => ?_) (fun c2 => ?_)
        · refine lv_iconst (v := 0) hx hb dX3_endLit_40 (by decide) ?_
          refine lv_iadd hx hb dX3_endLit_41 ?_
          refine lv_istore_n (lv' := [(2, .int ((f_X3_endLit_4_v2 en lamp i1) + 0)), (0, .ref aY), (1, .int lamp), (3, .int (nI i1))]) hx hb dX3_endLit_42 rfl hl (by decide) rfl (fun ls hl => ?_)
          refine lv_iinc (v := nI (i1 + 1)) (lv' := [(3, .int (nI (i1 + 1))), (2, .int ((f_X3_endLit_4_v2 en lamp i1) + 0)), (0, .ref aY), (1, .int lamp)]) hx hb dX3_endLit_43 hl (k := 3) rfl (nI_add i1 1) (by decide) rfl (fun ls hl => ?_)
          refine lv_goto (tgt := 4) hx hb dX3_endLit_46 (by decide) ?_
          have e_v2 : (f_X3_endLit_4_v2 en lamp (i1 + 1)) = ((f_X3_endLit_4_v2 en lamp i1) + 0) := (by simp only [f_X3_endLit_4_v2, if_neg c1, if_pos c2])
          exact ih4 (i1 + 1) (by omega) ls (by rw [e_v2]; exact lv_sub hl [2, 3, 1, 0] rfl)
        · refine lv_iconst (v := 1) hx hb dX3_endLit_36 (by decide) ?_
          refine lv_goto (tgt := 41) hx hb dX3_endLit_37 (by decide) ?_
          refine lv_iadd hx hb dX3_endLit_41 ?_
          refine lv_istore_n (lv' := [(2, .int ((f_X3_endLit_4_v2 en lamp i1) + 1)), (0, .ref aY), (1, .int lamp), (3, .int (nI i1))]) hx hb dX3_endLit_42 rfl hl (by decide) rfl (fun ls hl => ?_)
          refine lv_iinc (v := nI (i1 + 1)) (lv' := [(3, .int (nI (i1 + 1))), (2, .int ((f_X3_endLit_4_v2 en lamp i1) + 1)), (0, .ref aY), (1, .int lamp)]) hx hb dX3_endLit_43 hl (k := 3) rfl (nI_add i1 1) (by decide) rfl (fun ls hl => ?_)
          refine lv_goto (tgt := 4) hx hb dX3_endLit_46 (by decide) ?_
          have e_v2 : (f_X3_endLit_4_v2 en lamp (i1 + 1)) = ((f_X3_endLit_4_v2 en lamp i1) + 1) := (by simp only [f_X3_endLit_4_v2, if_neg c1, if_neg c2])
          exact ih4 (i1 + 1) (by omega) ls (by rw [e_v2]; exact lv_sub hl [2, 3, 1, 0] rfl)
  exact lp4 z 0 (by omega) ls (lv_sub hl [2, 3, 1, 0] rfl)

def rm_X3_tellingLamp : Room := { frames := 2, cells := 0, slots := 0, locals := 44 }
def f_X3_tellingLamp_15_r (nl : Nat) (en : Nat → Int32) (z : Nat) : Nat → Nat → Int32 → Int32 → Int32
  | 0, _, _, _ => 0
  | k15 + 1, i1, x15_v3, x15_v4 => (if nI nl ≤ nI i1 then x15_v3 else (if (f_X3_left en z) ≤ 0 then x15_v3 else (if x15_v4 ≤ (if (f_X3_endLit en (nI i1) z) < ((f_X3_left en z) - (f_X3_endLit en (nI i1) z)) then ((f_X3_left en z) - (f_X3_endLit en (nI i1) z)) else (f_X3_endLit en (nI i1) z)) then (f_X3_tellingLamp_15_r nl en z k15 (i1 + 1) x15_v3 x15_v4) else (f_X3_tellingLamp_15_r nl en z k15 (i1 + 1) (nI i1) (if (f_X3_endLit en (nI i1) z) < ((f_X3_left en z) - (f_X3_endLit en (nI i1) z)) then ((f_X3_left en z) - (f_X3_endLit en (nI i1) z)) else (f_X3_endLit en (nI i1) z))))))
def f_X3_tellingLamp (nl : Nat) (en : Nat → Int32) (z : Nat) : Int32 := (f_X3_tellingLamp_15_r nl en z (nl + 1) 0 (-1) ((f_X3_left en z) + 1))
theorem hd_X3_tellingLamp : yX3_tellingLamp.cls = RX3 ∧ yX3_tellingLamp.cls ≠ "java/lang/invoke/MethodHandle" ∧ yX3_tellingLamp.cls ≠ "java/lang/invoke/VarHandle" ∧ (parseMethodDescriptor yX3_tellingLamp.desc).map (fun d => d.parameters.length) = some 1 := by decide +kernel
set_option maxHeartbeats 4000000 in
set_option maxRecDepth 100000 in
theorem c_X3_tellingLamp (l : Launch) (D : va_G) (cI : ClassId) (aY aYe : Nat) (nl : Nat) (en : Nat → Int32) (z : Nat) (hn : nl ≤ 6) (hz : z ≤ 64) : MetR l yX3_tellingLamp wsX3_tellingLamp rm_X3_tellingLamp D cI [.ref aY, .int (nI nl)] [(aY, .inr (3, [.ref aYe, .int (nI z)])), (aYe, .inl (cI, 64, .inl en))] (some (.int (f_X3_tellingLamp nl en z))) := by
  refine mR (cc := cX3_tellingLamp) (maxL := 8) (ret := (some .int)) (by decide) rfl (Nat.le_of_ble_eq_true rfl) ?_
  intro p e s m args below meth c Q hx hb hr hml hown hts hlk hP hK hQ ls hl
  have hown : s.vm.findClass RX3 = some m.cls := hown
  have hl : lv_has ls 8 [(0, .ref aY), (1, .int (nI nl))] := hl
  have w1 := hts (.methodLink RX3 49 Lib.Math.max.name) (List.mem_of_getElem? (i := 1) rfl)
  have w2 := hts (.static Lib.Math.max.name) (List.mem_of_getElem? (i := 2) rfl)
  have w3 := hts (.initialized "java/lang/Math") (List.mem_of_getElem? (i := 3) rfl)
  have w4 := hts (.code Lib.Math.max.name Lib.Math.max.code 2 (some .int)) (List.mem_of_getElem? (i := 4) rfl)
  refine lv_aload_n hx hb dX3_tellingLamp_0 rfl (lv_at hl 0 rfl) ?_
  refine rV ⟨hx, hb, hml, hown, hts⟩ (c_X3_left l D cI aY aYe en z hz) (cwV 0 hts gX3_tellingLamp_X3_left rfl rfl rfl hd_X3_left ⟨Nat.le_of_ble_eq_true rfl, Nat.le_of_ble_eq_true rfl⟩) hK (hP.sub [0, 1] rfl) 0 rfl rfl rfl rfl hl.1 (rest := []) (st' := [.int (f_X3_left en z)]) rfl rfl (Nat.le_of_ble_eq_true rfl) dX3_tellingLamp_1 ⟨Nat.zero_le _, Nat.zero_le _⟩ ?_
  refine lv_istore_n (lv' := [(2, .int (f_X3_left en z)), (0, .ref aY), (1, .int (nI nl))]) hx hb dX3_tellingLamp_4 rfl hl (by decide) rfl (fun ls hl => ?_)
  refine lv_iconst (v := (-1)) hx hb dX3_tellingLamp_5 (by decide) ?_
  refine lv_istore_n (lv' := [(3, .int (-1)), (2, .int (f_X3_left en z)), (0, .ref aY), (1, .int (nI nl))]) hx hb dX3_tellingLamp_6 rfl hl (by decide) rfl (fun ls hl => ?_)
  refine lv_iload_n hx hb dX3_tellingLamp_7 rfl (lv_at hl 1 rfl) ?_
  refine lv_iconst (v := 1) hx hb dX3_tellingLamp_8 (by decide) ?_
  refine lv_iadd hx hb dX3_tellingLamp_9 ?_
  refine lv_istore (lv' := [(4, .int ((f_X3_left en z) + 1)), (3, .int (-1)), (2, .int (f_X3_left en z)), (0, .ref aY), (1, .int (nI nl))]) hx hb dX3_tellingLamp_10 hl (by decide) rfl (fun ls hl => ?_)
  refine lv_iconst (v := 0) hx hb dX3_tellingLamp_12 (by decide) ?_
  refine lv_istore (lv' := [(5, .int 0), (4, .int ((f_X3_left en z) + 1)), (3, .int (-1)), (2, .int (f_X3_left en z)), (0, .ref aY), (1, .int (nI nl))]) hx hb dX3_tellingLamp_13 hl (by decide) rfl (fun ls hl => ?_)
  have lp15 : ∀ (k15 : Nat) (i1 : Nat) (x15_v3 : Int32) (x15_v4 : Int32), i1 ≤ nl ∧ nl < i1 + k15 → ((f_X3_tellingLamp nl en z) = (f_X3_tellingLamp_15_r nl en z k15 i1 x15_v3 x15_v4)) → ∀ ls : Array Slot, lv_has ls 8 [(0, .ref aY), (1, .int (nI nl)), (2, .int (f_X3_left en z)), (3, .int x15_v3), (4, .int x15_v4), (5, .int (nI i1))] → W p l e rm_X3_tellingLamp s m args below meth c s.heap [] 0 0 Q (F0 m 15 ls []) := by
    intro k15
    induction k15 with
    | zero =>
      intro i1 x15_v3 x15_v4 hh15 h15_r ls hl
      exact absurd hh15 (by omega)
    | succ k15 ih15 =>
      intro i1 x15_v3 x15_v4 hh15 h15_r ls hl
      refine lv_iload hx hb dX3_tellingLamp_15 (lv_at hl 5 rfl) ?_
      refine lv_iload_n hx hb dX3_tellingLamp_17 rfl (lv_at hl 1 rfl) ?_
      refine lv_icmp_ge (tgt := 64) hx hb dX3_tellingLamp_18 (by decide) (fun c1 => ?_) (fun c1 => ?_)
      · have q1 : nl ≤ i1 := nle_d (a := nl) (b := i1) rfl rfl (by omega) (by omega) c1
        refine lv_iload_n hx hb dX3_tellingLamp_64 rfl (lv_at hl 3 rfl) ?_
        exact eRi hx hb hr hlk hQ dX3_tellingLamp_65 (Eq.symm (h15_r.trans (by simp only [f_X3_tellingLamp_15_r, if_pos c1])))
      · have q1 : i1 < nl := nle_e (a := nl) (b := i1) rfl rfl (by omega) (by omega) c1
        refine lv_iload_n hx hb dX3_tellingLamp_21 rfl (lv_at hl 2 rfl) ?_
        refine lv_if_le (tgt := 64) hx hb dX3_tellingLamp_22 (by decide) (fun c2 => ?_) (fun c2 => ?_)
        · refine lv_iload_n hx hb dX3_tellingLamp_64 rfl (lv_at hl 3 rfl) ?_
          exact eRi hx hb hr hlk hQ dX3_tellingLamp_65 (Eq.symm (h15_r.trans (by simp only [f_X3_tellingLamp_15_r, if_neg c1, if_pos c2])))
        · refine lv_aload_n hx hb dX3_tellingLamp_25 rfl (lv_at hl 0 rfl) ?_
          refine lv_iload hx hb dX3_tellingLamp_26 (lv_at hl 5 rfl) ?_
          refine rV ⟨hx, hb, hml, hown, hts⟩ (c_X3_endLit l D cI aY aYe en (nI i1) z hz) (cwV 1 hts gX3_tellingLamp_X3_endLit rfl rfl rfl hd_X3_endLit ⟨Nat.le_of_ble_eq_true rfl, Nat.le_of_ble_eq_true rfl⟩) hK (hP.sub [0, 1] rfl) 0 rfl rfl rfl rfl hl.1 (rest := []) (st' := [.int (f_X3_endLit en (nI i1) z)]) rfl rfl (Nat.le_of_ble_eq_true rfl) dX3_tellingLamp_28 ⟨Nat.zero_le _, Nat.zero_le _⟩ ?_
          refine lv_istore (lv' := [(6, .int (f_X3_endLit en (nI i1) z)), (0, .ref aY), (1, .int (nI nl)), (2, .int (f_X3_left en z)), (3, .int x15_v3), (4, .int x15_v4), (5, .int (nI i1))]) hx hb dX3_tellingLamp_31 hl (by decide) rfl (fun ls hl => ?_)
          refine lv_iload hx hb dX3_tellingLamp_33 (lv_at hl 0 rfl) ?_
          refine lv_iload_n hx hb dX3_tellingLamp_35 rfl (lv_at hl 3 rfl) ?_
          refine lv_iload hx hb dX3_tellingLamp_36 (lv_at hl 0 rfl) ?_
          refine lv_isub hx hb dX3_tellingLamp_38 ?_
          refine va_mmax hx hb (hml.trans hl.1.symm) hown w1 w2 w3 w4 (Nat.le_of_ble_eq_true rfl) (Nat.le_of_ble_eq_true rfl) (Nat.zero_le _) (Nat.zero_le _) dX3_tellingLamp_39 ?_
          refine lv_istore (lv' := [(7, .int (if (f_X3_endLit en (nI i1) z) < ((f_X3_left en z) - (f_X3_endLit en (nI i1) z)) then ((f_X3_left en z) - (f_X3_endLit en (nI i1) z)) else (f_X3_endLit en (nI i1) z))), (6, .int (f_X3_endLit en (nI i1) z)), (0, .ref aY), (1, .int (nI nl)), (2, .int (f_X3_left en z)), (3, .int x15_v3), (4, .int x15_v4), (5, .int (nI i1))]) hx hb dX3_tellingLamp_42 hl (by decide) rfl (fun ls hl => ?_)
          refine lv_iload hx hb dX3_tellingLamp_44 (lv_at hl 0 rfl) ?_
          refine lv_iload hx hb dX3_tellingLamp_46 (lv_at hl 6 rfl) ?_
          refine lv_icmp_ge (tgt := 58) hx hb dX3_tellingLamp_48 (by decide) (fun c3 => ?_) (fun c3 => ?_)
          · refine lv_iinc (v := nI (i1 + 1)) (lv' := [(5, .int (nI (i1 + 1))), (7, .int (if (f_X3_endLit en (nI i1) z) < ((f_X3_left en z) - (f_X3_endLit en (nI i1) z)) then ((f_X3_left en z) - (f_X3_endLit en (nI i1) z)) else (f_X3_endLit en (nI i1) z))), (6, .int (f_X3_endLit en (nI i1) z)), (0, .ref aY), (1, .int (nI nl)), (2, .int (f_X3_left en z)), (3, .int x15_v3), (4, .int x15_v4)]) hx hb dX3_tellingLamp_58 hl (k := 7) rfl (nI_add i1 1) (by decide) rfl (fun ls hl => ?_)
            refine lv_goto (tgt := 15) hx hb dX3_tellingLamp_61 (by decide) ?_
            exact ih15 (i1 + 1) x15_v3 x15_v4 (by omega) (h15_r.trans (by simp only [f_X3_tellingLamp_15_r, if_neg c1, if_neg c2, if_pos c3])) ls (lv_sub hl [3, 4, 5, 6, 7, 0] rfl)
          · refine lv_iload hx hb dX3_tellingLamp_51 (lv_at hl 0 rfl) ?_
            refine lv_istore (lv' := [(4, .int (if (f_X3_endLit en (nI i1) z) < ((f_X3_left en z) - (f_X3_endLit en (nI i1) z)) then ((f_X3_left en z) - (f_X3_endLit en (nI i1) z)) else (f_X3_endLit en (nI i1) z))), (7, .int (if (f_X3_endLit en (nI i1) z) < ((f_X3_left en z) - (f_X3_endLit en (nI i1) z)) then ((f_X3_left en z) - (f_X3_endLit en (nI i1) z)) else (f_X3_endLit en (nI i1) z))), (6, .int (f_X3_endLit en (nI i1) z)), (0, .ref aY), (1, .int (nI nl)), (2, .int (f_X3_left en z)), (3, .int x15_v3), (5, .int (nI i1))]) hx hb dX3_tellingLamp_53 hl (by decide) rfl (fun ls hl => ?_)
            refine lv_iload hx hb dX3_tellingLamp_55 (lv_at hl 7 rfl) ?_
            refine lv_istore_n (lv' := [(3, .int (nI i1)), (4, .int (if (f_X3_endLit en (nI i1) z) < ((f_X3_left en z) - (f_X3_endLit en (nI i1) z)) then ((f_X3_left en z) - (f_X3_endLit en (nI i1) z)) else (f_X3_endLit en (nI i1) z))), (7, .int (if (f_X3_endLit en (nI i1) z) < ((f_X3_left en z) - (f_X3_endLit en (nI i1) z)) then ((f_X3_left en z) - (f_X3_endLit en (nI i1) z)) else (f_X3_endLit en (nI i1) z))), (6, .int (f_X3_endLit en (nI i1) z)), (0, .ref aY), (1, .int (nI nl)), (2, .int (f_X3_left en z)), (5, .int (nI i1))]) hx hb dX3_tellingLamp_57 rfl hl (by decide) rfl (fun ls hl => ?_)
            refine lv_iinc (v := nI (i1 + 1)) (lv' := [(5, .int (nI (i1 + 1))), (3, .int (nI i1)), (4, .int (if (f_X3_endLit en (nI i1) z) < ((f_X3_left en z) - (f_X3_endLit en (nI i1) z)) then ((f_X3_left en z) - (f_X3_endLit en (nI i1) z)) else (f_X3_endLit en (nI i1) z))), (7, .int (if (f_X3_endLit en (nI i1) z) < ((f_X3_left en z) - (f_X3_endLit en (nI i1) z)) then ((f_X3_left en z) - (f_X3_endLit en (nI i1) z)) else (f_X3_endLit en (nI i1) z))), (6, .int (f_X3_endLit en (nI i1) z)), (0, .ref aY), (1, .int (nI nl)), (2, .int (f_X3_left en z))]) hx hb dX3_tellingLamp_58 hl (k := 7) rfl (nI_add i1 1) (by decide) rfl (fun ls hl => ?_)
            refine lv_goto (tgt := 15) hx hb dX3_tellingLamp_61 (by decide) ?_
            exact ih15 (i1 + 1) (nI i1) (if (f_X3_endLit en (nI i1) z) < ((f_X3_left en z) - (f_X3_endLit en (nI i1) z)) then ((f_X3_left en z) - (f_X3_endLit en (nI i1) z)) else (f_X3_endLit en (nI i1) z)) (by omega) (h15_r.trans (by simp only [f_X3_tellingLamp_15_r, if_neg c1, if_neg c2, if_neg c3])) ls (lv_sub hl [5, 6, 7, 1, 2, 0] rfl)
  exact lp15 (nl + 1) 0 (-1) ((f_X3_left en z) + 1) (by omega) (by simp only [f_X3_tellingLamp]) ls (lv_sub hl [4, 5, 3, 2, 1, 0] rfl)

def rm_X3_further : Room := { frames := 2, cells := 0, slots := 0, locals := 46 }
def f_X3_further (nl : Nat) (ho : Nat → Int32) (sn : Nat → Int32) (tl : Nat → Int32) (td : Nat → Int32) (lit : Int32) (minute : Int32) (stirred : Int32) : Int32 := (if lit = (-1) then (-1) else (if (f_X0_bookAgrees tl td (f_X1_litOnes nl (f_X1_after nl ho sn lit stirred)) minute) = 0 then (-1) else (f_X1_after nl ho sn lit stirred)))
theorem hd_X3_further : yX3_further.cls ≠ "java/lang/invoke/MethodHandle" ∧ yX3_further.cls ≠ "java/lang/invoke/VarHandle" ∧ (parseMethodDescriptor yX3_further.desc).map (fun d => d.parameters.length) = some 5 := by decide +kernel
set_option maxHeartbeats 4000000 in
set_option maxRecDepth 100000 in
theorem c_X3_further (l : Launch) (D : va_G) (cI : ClassId) (aL aLk aLh aLs aE aEs aEw aEd aEl aEt : Nat) (nl : Nat) (ho : Nat → Int32) (sn : Nat → Int32) (li : Int32) (mi : Int32) (pe : Nat) (to : Int32) (tl : Nat → Int32) (td : Nat → Int32) (lit : Int32) (minute : Int32) (stirred : Int32) (hn : nl ≤ 6) : MetR l yX3_further wsX3_further rm_X3_further D cI [.ref aL, .ref aE, .int lit, .int stirred, .int minute] [(aL, .inr (1, [.ref aLk, .ref aLh, .ref aLs, .int (nI nl)])), (aLh, .inl (cI, 6, .inl ho)), (aLs, .inl (cI, 6, .inl sn)), (aE, .inr (0, [.int li, .int mi, .int (nI pe), .ref aEs, .ref aEw, .ref aEd, .int to, .ref aEl, .ref aEt])), (aEl, .inl (cI, 7, .inl tl)), (aEt, .inl (cI, 7, .inl td))] (some (.int (f_X3_further nl ho sn tl td lit minute stirred))) := by
  refine mR (cc := cX3_further) (maxL := 6) (ret := (some .int)) (by decide) rfl (Nat.le_of_ble_eq_true rfl) ?_
  intro p e s m args below meth c Q hx hb hr hml hown hts hlk hP hK hQ ls hl
  have hown : s.vm.findClass RX3 = some m.cls := hown
  have hl : lv_has ls 6 [(0, .ref aL), (1, .ref aE), (2, .int lit), (3, .int stirred), (4, .int minute)] := hl
  refine lv_iload_n hx hb dX3_further_0 rfl (lv_at hl 2 rfl) ?_
  refine lv_iconst (v := (-1)) hx hb dX3_further_1 (by decide) ?_
  refine lv_icmp_ne (tgt := 7) hx hb dX3_further_2 (by decide) (fun c1 => ?_) (fun c1 => ?_)
  · refine lv_aload_n hx hb dX3_further_7 rfl (lv_at hl 0 rfl) ?_
    refine lv_iload_n hx hb dX3_further_8 rfl (lv_at hl 2 rfl) ?_
    refine lv_iload_n hx hb dX3_further_9 rfl (lv_at hl 3 rfl) ?_
    refine rV ⟨hx, hb, hml, hown, hts⟩ (c_X1_after l D cI aL aLk aLh aLs nl ho sn lit stirred hn) (cwV 2 hts gX3_further_X1_after rfl rfl rfl hd_X1_after ⟨Nat.le_of_ble_eq_true rfl, Nat.le_of_ble_eq_true rfl⟩) hK (hP.sub [0, 1, 2] rfl) 0 rfl rfl rfl rfl hl.1 (rest := []) (st' := [.int (f_X1_after nl ho sn lit stirred)]) rfl rfl (Nat.le_of_ble_eq_true rfl) dX3_further_10 ⟨Nat.zero_le _, Nat.zero_le _⟩ ?_
    refine lv_istore (lv' := [(5, .int (f_X1_after nl ho sn lit stirred)), (0, .ref aL), (1, .ref aE), (2, .int lit), (3, .int stirred), (4, .int minute)]) hx hb dX3_further_13 hl (by decide) rfl (fun ls hl => ?_)
    refine lv_aload_n hx hb dX3_further_15 rfl (lv_at hl 2 rfl) ?_
    refine lv_iload hx hb dX3_further_16 (lv_at hl 5 rfl) ?_
    refine lv_aload_n hx hb dX3_further_18 rfl (lv_at hl 1 rfl) ?_
    refine lv_iload hx hb dX3_further_19 (lv_at hl 0 rfl) ?_
    refine rV ⟨hx, hb, hml, hown, hts⟩ (c_X1_litOnes l D cI aL aLk aLh aLs nl (f_X1_after nl ho sn lit stirred) hn) (cwV 1 hts gX3_further_X1_litOnes rfl rfl rfl hd_X1_litOnes ⟨Nat.le_of_ble_eq_true rfl, Nat.le_of_ble_eq_true rfl⟩) hK (hP.sub [0] rfl) 0 rfl rfl rfl rfl hl.1 (rest := [.int minute, .ref aE]) (st' := [.int (f_X1_litOnes nl (f_X1_after nl ho sn lit stirred)), .int minute, .ref aE]) rfl rfl (Nat.le_of_ble_eq_true rfl) dX3_further_21 ⟨Nat.zero_le _, Nat.zero_le _⟩ ?_
    refine rV ⟨hx, hb, hml, hown, hts⟩ (c_X0_bookAgrees l D cI aE aEs aEw aEd aEl aEt li mi pe to tl td (f_X1_litOnes nl (f_X1_after nl ho sn lit stirred)) minute) (cwV 2 hts gX3_further_X0_bookAgrees rfl rfl rfl hd_X0_bookAgrees ⟨Nat.le_of_ble_eq_true rfl, Nat.le_of_ble_eq_true rfl⟩) hK (hP.sub [3, 4, 5] rfl) 0 rfl rfl rfl rfl hl.1 (rest := []) (st' := [.int (f_X0_bookAgrees tl td (f_X1_litOnes nl (f_X1_after nl ho sn lit stirred)) minute)]) rfl rfl (Nat.le_of_ble_eq_true rfl) dX3_further_24 ⟨Nat.zero_le _, Nat.zero_le _⟩ ?_
    refine lv_if_eq (tgt := 35) hx hb dX3_further_27 (by decide) (fun c2 => ?_) (fun c2 => ?_)
    · refine lv_iconst (v := (-1)) hx hb dX3_further_35 (by decide) ?_
      exact eRi hx hb hr hlk hQ dX3_further_36 (Eq.symm (by simp only [f_X3_further, if_neg c1, if_pos c2]))
    · refine lv_iload hx hb dX3_further_30 (lv_at hl 0 rfl) ?_
      refine lv_goto (tgt := 36) hx hb dX3_further_32 (by decide) ?_
      exact eRi hx hb hr hlk hQ dX3_further_36 (Eq.symm (by simp only [f_X3_further, if_neg c1, if_neg c2]))
  · refine lv_iconst (v := (-1)) hx hb dX3_further_5 (by decide) ?_
    exact eRi hx hb hr hlk hQ dX3_further_6 (Eq.symm (by simp only [f_X3_further, if_pos c1]))

def rm_X3_follow : Room := { frames := 3, cells := 0, slots := 0, locals := 71 }
def f_X3_follow_55_Ye (nl : Nat) (ho : Nat → Int32) (sn : Nat → Int32) (tl : Nat → Int32) (td : Nat → Int32) (i1 : Nat) (sect : Int32) (z55_Ye : Nat → Int32) : Nat → (Nat → Int32)
  | 0 => z55_Ye
  | i2 + 1 => (upd (upd (f_X3_follow_55_Ye nl ho sn tl td i1 sect z55_Ye i2) ((2 ^ i1) + i2) (f_X3_further nl ho sn tl td ((f_X3_follow_55_Ye nl ho sn tl td i1 sect z55_Ye i2) i2) (nI (i1 + 1)) ((1 : Int32) <<< (sect &&& 31)))) i2 (f_X3_further nl ho sn tl td ((upd (f_X3_follow_55_Ye nl ho sn tl td i1 sect z55_Ye i2) ((2 ^ i1) + i2) (f_X3_further nl ho sn tl td ((f_X3_follow_55_Ye nl ho sn tl td i1 sect z55_Ye i2) i2) (nI (i1 + 1)) ((1 : Int32) <<< (sect &&& 31)))) i2) (nI (i1 + 1)) 0))
def f_X3_follow_38_Ye (nl : Nat) (ho : Nat → Int32) (sn : Nat → Int32) (tl : Nat → Int32) (td : Nat → Int32) (sect : Int32) (z38_Ye : Nat → Int32) : Nat → (Nat → Int32)
  | 0 => z38_Ye
  | i1 + 1 => (f_X3_follow_55_Ye nl ho sn tl td i1 sect ((f_X3_follow_38_Ye nl ho sn tl td sect z38_Ye i1)) (2 ^ i1))
def f_X3_follow_Ye (nl : Nat) (ho : Nat → Int32) (sn : Nat → Int32) (li : Int32) (tl : Nat → Int32) (td : Nat → Int32) (en : Nat → Int32) (mm : Nat) (sect : Int32) : Nat → Int32 := (if (f_X0_bookAgrees tl td (f_X1_litOnes nl li) 0) = 0 then (f_X3_follow_38_Ye nl ho sn tl td sect (upd en 0 (-1)) mm) else (f_X3_follow_38_Ye nl ho sn tl td sect (upd en 0 li) mm))
theorem hd_X3_follow : yX3_follow.cls = RX3 ∧ yX3_follow.cls ≠ "java/lang/invoke/MethodHandle" ∧ yX3_follow.cls ≠ "java/lang/invoke/VarHandle" ∧ (parseMethodDescriptor yX3_follow.desc).map (fun d => d.parameters.length) = some 4 := by decide +kernel
set_option maxHeartbeats 4000000 in
set_option maxRecDepth 100000 in
theorem c_X3_follow (l : Launch) (D : va_G) (cI : ClassId) (aL aLk aLh aLs aE aEs aEw aEd aEl aEt aY aYe : Nat) (nl : Nat) (ho : Nat → Int32) (sn : Nat → Int32) (li : Int32) (mi : Int32) (pe : Nat) (to : Int32) (tl : Nat → Int32) (td : Nat → Int32) (zq : Int32) (en : Nat → Int32) (mm : Nat) (sect : Int32) (hn : nl ≤ 6) (hmm : mm ≤ 6) : MetX l yX3_follow wsX3_follow rm_X3_follow D cI [.ref aY, .ref aL, .ref aE, .int sect, .int (nI mm)] [(aL, .inr (1, [.ref aLk, .ref aLh, .ref aLs, .int (nI nl)])), (aLh, .inl (cI, 6, .inl ho)), (aLs, .inl (cI, 6, .inl sn)), (aE, .inr (0, [.int li, .int mi, .int (nI pe), .ref aEs, .ref aEw, .ref aEd, .int to, .ref aEl, .ref aEt])), (aEl, .inl (cI, 7, .inl tl)), (aEt, .inl (cI, 7, .inl td)), (aY, .inr (3, [.ref aYe, .int zq])), (aYe, .inl (cI, 64, .inl en))] none [(aL, .inr (1, [.ref aLk, .ref aLh, .ref aLs, .int (nI nl)])), (aLh, .inl (cI, 6, .inl ho)), (aLs, .inl (cI, 6, .inl sn)), (aE, .inr (0, [.int li, .int mi, .int (nI pe), .ref aEs, .ref aEw, .ref aEd, .int to, .ref aEl, .ref aEt])), (aEl, .inl (cI, 7, .inl tl)), (aEt, .inl (cI, 7, .inl td)), (aY, .inr (3, [.ref aYe, .int (nI (2 ^ mm))])), (aYe, .inl (cI, 64, .inl (f_X3_follow_Ye nl ho sn li tl td en mm sect)))] := by
  refine mX (cc := cX3_follow) (maxL := 7) (ret := none) (by decide) rfl (Nat.le_of_ble_eq_true rfl) ?_
  intro p e s m args below meth c Q A hx hb hr hml hown hts hlk hP hK hD hA hS hQ ls hl
  have hown : s.vm.findClass RX3 = some m.cls := hown
  have hl : lv_has ls 7 [(0, .ref aY), (1, .ref aL), (2, .ref aE), (3, .int sect), (4, .int (nI mm))] := hl
  have w1 := hts (.fieldLink RX3 15 "DarkOffice$Ways" "size" "I") (List.mem_of_getElem? (i := 1) rfl)
  have uX3 : ∀ w ∈ wsX30, w ∈ wsX3_follow := fun _ h => List.mem_cons_of_mem _ (List.mem_append_left _ (List.mem_append_left _ (List.mem_append_right _ h)))
  have w2 := hts (.fieldLink RX3 9 "DarkOffice$Ways" "ends" "[I") (List.mem_of_getElem? (i := 2) rfl)
  have w3 := hts (.fieldLink RX3 19 "DarkOffice$Evening" "lit" "I") (List.mem_of_getElem? (i := 3) rfl)
  have uX0 : ∀ w ∈ wsX00, w ∈ wsX3_follow := fun _ h => List.mem_cons_of_mem _ (List.mem_append_left _ (List.mem_append_right _ h))
  refine lv_aload_n hx hb dX3_follow_0 rfl (lv_at hl 0 rfl) ?_
  refine lv_iconst (v := 1) hx hb dX3_follow_1 (by decide) ?_
  refine va_put (D := D) (ci := 3) (v := .int 1) (ty := .int) (C := RX3) (T := TX3) (N := 2) hx hb hts uX3 tyX3 tyX3_ok nmX3 hown hK hP hD hS 6 rfl rfl 1 (by decide) w1 (fun _ h9 => h9) rfl (by decide +kernel) rfl rfl (Nat.le_of_ble_eq_true rfl) dX3_follow_2 (fun H locs hP hD hS => ?_)
  have hP : va_P D vwCl [(aL, .inr (1, [.ref aLk, .ref aLh, .ref aLs, .int (nI nl)])), (aLh, .inl (cI, 6, .inl ho)), (aLs, .inl (cI, 6, .inl sn)), (aE, .inr (0, [.int li, .int mi, .int (nI pe), .ref aEs, .ref aEw, .ref aEd, .int to, .ref aEl, .ref aEt])), (aEl, .inl (cI, 7, .inl tl)), (aEt, .inl (cI, 7, .inl td)), (aY, .inr (3, [.ref aYe, .int 1])), (aYe, .inl (cI, 64, .inl en))] H := hP
  have hD : va_D A [(aL, .inr (1, [.ref aLk, .ref aLh, .ref aLs, .int (nI nl)])), (aLh, .inl (cI, 6, .inl ho)), (aLs, .inl (cI, 6, .inl sn)), (aE, .inr (0, [.int li, .int mi, .int (nI pe), .ref aEs, .ref aEw, .ref aEd, .int to, .ref aEl, .ref aEt])), (aEl, .inl (cI, 7, .inl tl)), (aEt, .inl (cI, 7, .inl td)), (aY, .inr (3, [.ref aYe, .int 1])), (aYe, .inl (cI, 64, .inl en))] := hD
  refine lv_aload_n hx hb dX3_follow_5 rfl (lv_at hl 0 rfl) ?_
  refine va_get (D := D) (ci := 3) (v := .ref aYe) (C := RX3) (T := TX3) (N := 2) hx hb hts uX3 hown hK hP 6 rfl rfl 0 (by decide) w2 (fun _ h9 => h9) rfl dX3_follow_6 ?_
  refine lv_iconst (v := 0) hx hb dX3_follow_9 (by decide) ?_
  refine lv_aload_n hx hb dX3_follow_10 rfl (lv_at hl 2 rfl) ?_
  refine lv_iconst (v := 0) hx hb dX3_follow_11 (by decide) ?_
  refine lv_aload_n hx hb dX3_follow_12 rfl (lv_at hl 1 rfl) ?_
  refine lv_aload_n hx hb dX3_follow_13 rfl (lv_at hl 2 rfl) ?_
  refine va_get (D := D) (ci := 0) (v := .int li) (C := RX0) (T := TX0) (N := 9) hx hb hts uX0 hown hK hP 3 rfl rfl 0 (by decide) w3 (fun _ h9 => h9) rfl dX3_follow_14 ?_
  refine rV ⟨hx, hb, hml, hown, hts⟩ (c_X1_litOnes l D cI aL aLk aLh aLs nl li hn) (cwV 1 hts gX3_follow_X1_litOnes rfl rfl rfl hd_X1_litOnes ⟨Nat.le_of_ble_eq_true rfl, Nat.le_of_ble_eq_true rfl⟩) hK (hP.sub [0] rfl) 0 rfl rfl rfl rfl hl.1 (rest := [.int 0, .ref aE, .int 0, .ref aYe]) (st' := [.int (f_X1_litOnes nl li), .int 0, .ref aE, .int 0, .ref aYe]) rfl rfl (Nat.le_of_ble_eq_true rfl) dX3_follow_17 ⟨Nat.zero_le _, Nat.zero_le _⟩ ?_
  refine rV ⟨hx, hb, hml, hown, hts⟩ (c_X0_bookAgrees l D cI aE aEs aEw aEd aEl aEt li mi pe to tl td (f_X1_litOnes nl li) 0) (cwV 2 hts gX3_follow_X0_bookAgrees rfl rfl rfl hd_X0_bookAgrees ⟨Nat.le_of_ble_eq_true rfl, Nat.le_of_ble_eq_true rfl⟩) hK (hP.sub [3, 4, 5] rfl) 0 rfl rfl rfl rfl hl.1 (rest := [.int 0, .ref aYe]) (st' := [.int (f_X0_bookAgrees tl td (f_X1_litOnes nl li) 0), .int 0, .ref aYe]) rfl rfl (Nat.le_of_ble_eq_true rfl) dX3_follow_20 ⟨Nat.zero_le _, Nat.zero_le _⟩ ?_
  refine lv_if_eq (tgt := 33) hx hb dX3_follow_23 (by decide) (fun c1 => ?_) (fun c1 => ?_)
  · refine lv_iconst (v := (-1)) hx hb dX3_follow_33 (by decide) ?_
    refine xast hx hb hK hP hD hS 7 rfl 0 rfl (by omega) (by decide) dX3_follow_34 (fun H locs hP hD hS => ?_)
    have hP : va_P D vwCl [(aL, .inr (1, [.ref aLk, .ref aLh, .ref aLs, .int (nI nl)])), (aLh, .inl (cI, 6, .inl ho)), (aLs, .inl (cI, 6, .inl sn)), (aE, .inr (0, [.int li, .int mi, .int (nI pe), .ref aEs, .ref aEw, .ref aEd, .int to, .ref aEl, .ref aEt])), (aEl, .inl (cI, 7, .inl tl)), (aEt, .inl (cI, 7, .inl td)), (aY, .inr (3, [.ref aYe, .int 1])), (aYe, .inl (cI, 64, .inl (upd en 0 (-1))))] H := hP
    have hD : va_D A [(aL, .inr (1, [.ref aLk, .ref aLh, .ref aLs, .int (nI nl)])), (aLh, .inl (cI, 6, .inl ho)), (aLs, .inl (cI, 6, .inl sn)), (aE, .inr (0, [.int li, .int mi, .int (nI pe), .ref aEs, .ref aEw, .ref aEd, .int to, .ref aEl, .ref aEt])), (aEl, .inl (cI, 7, .inl tl)), (aEt, .inl (cI, 7, .inl td)), (aY, .inr (3, [.ref aYe, .int 1])), (aYe, .inl (cI, 64, .inl (upd en 0 (-1))))] := hD
    refine lv_iconst (v := 1) hx hb dX3_follow_35 (by decide) ?_
    refine lv_istore (lv' := [(5, .int 1), (0, .ref aY), (1, .ref aL), (2, .ref aE), (3, .int sect), (4, .int (nI mm))]) hx hb dX3_follow_36 hl (by decide) rfl (fun ls hl => ?_)
    have lp38 : ∀ (k38 i1 : Nat), i1 + k38 = mm → ∀ (H : Heap) (locs : List Loc), va_P D vwCl [(aL, .inr (1, [.ref aLk, .ref aLh, .ref aLs, .int (nI nl)])), (aLh, .inl (cI, 6, .inl ho)), (aLs, .inl (cI, 6, .inl sn)), (aE, .inr (0, [.int li, .int mi, .int (nI pe), .ref aEs, .ref aEw, .ref aEd, .int to, .ref aEl, .ref aEt])), (aEl, .inl (cI, 7, .inl tl)), (aEt, .inl (cI, 7, .inl td)), (aY, .inr (3, [.ref aYe, .int (nI (2 ^ i1))])), (aYe, .inl (cI, 64, .inl ((f_X3_follow_38_Ye nl ho sn tl td sect (upd en 0 (-1)) i1))))] H → va_D A [(aL, .inr (1, [.ref aLk, .ref aLh, .ref aLs, .int (nI nl)])), (aLh, .inl (cI, 6, .inl ho)), (aLs, .inl (cI, 6, .inl sn)), (aE, .inr (0, [.int li, .int mi, .int (nI pe), .ref aEs, .ref aEw, .ref aEd, .int to, .ref aEl, .ref aEt])), (aEl, .inl (cI, 7, .inl tl)), (aEt, .inl (cI, 7, .inl td)), (aY, .inr (3, [.ref aYe, .int (nI (2 ^ i1))])), (aYe, .inl (cI, 64, .inl ((f_X3_follow_38_Ye nl ho sn tl td sect (upd en 0 (-1)) i1))))] → va_S A s.heap H locs → ∀ ls : Array Slot, lv_has ls 7 [(0, .ref aY), (1, .ref aL), (2, .ref aE), (3, .int sect), (4, .int (nI mm)), (5, .int (nI (i1 + 1)))] → W p l e rm_X3_follow s m args below meth c H locs 0 0 Q (F0 m 38 ls []) := by
      intro k38
      induction k38 with
      | zero =>
        intro i1 hk38 H locs hP hD hS ls hl
        have hN38 : mm = i1 := by omega
        subst hN38
        refine lv_iload hx hb dX3_follow_38 (lv_at hl 5 rfl) ?_
        refine lv_iload hx hb dX3_follow_40 (lv_at hl 4 rfl) ?_
        refine lv_icmp_gt (tgt := 137) hx hb dX3_follow_42 (by decide) (fun _ => ?_) (fun c => absurd (nlt_t (a := mm) (b := mm + 1) rfl rfl (by omega) (by omega) (by omega)) c)
        have e_Ye : (f_X3_follow_Ye nl ho sn li tl td en mm sect) = (f_X3_follow_38_Ye nl ho sn tl td sect (upd en 0 (-1)) mm) := (by simp only [f_X3_follow_Ye, if_pos c1])
        exact eXv hx hb hr hlk hQ (by rw [e_Ye]; exact hP) (by rw [e_Ye]; exact hD) hS dX3_follow_137
      | succ k38 ih38 =>
        intro i1 hk38 H locs hP hD hS ls hl
        refine lv_iload hx hb dX3_follow_38 (lv_at hl 5 rfl) ?_
        refine lv_iload hx hb dX3_follow_40 (lv_at hl 4 rfl) ?_
        refine lv_icmp_gt (tgt := 137) hx hb dX3_follow_42 (by decide) (fun c => absurd c (nlt_f (a := mm) (b := i1 + 1) rfl rfl (by omega) (by omega) (by omega))) (fun _ => ?_)
        refine lv_iload hx hb dX3_follow_45 (lv_at hl 5 rfl) ?_
        refine lv_bipush (v := 6) hx hb dX3_follow_47 (by decide) ?_
        refine lv_icmp_gt (tgt := 137) hx hb dX3_follow_49 (by decide) (fun c => absurd c (nlt_f (a := 6) (b := i1 + 1) rfl rfl (by omega) (by omega) (by omega))) (fun _ => ?_)
        have hz2 : 2 ^ i1 ≤ 32 := Nat.le_trans (Nat.pow_le_pow_right (by decide) (show i1 ≤ 5 by omega)) (by decide)
        refine lv_iconst (v := 0) hx hb dX3_follow_52 (by decide) ?_
        refine lv_istore (lv' := [(6, .int 0), (0, .ref aY), (1, .ref aL), (2, .ref aE), (3, .int sect), (4, .int (nI mm)), (5, .int (nI (i1 + 1)))]) hx hb dX3_follow_53 hl (by decide) rfl (fun ls hl => ?_)
        have lp55 : ∀ (k55 i2 : Nat), i2 + k55 = 2 ^ i1 → ∀ (H : Heap) (locs : List Loc), va_P D vwCl [(aL, .inr (1, [.ref aLk, .ref aLh, .ref aLs, .int (nI nl)])), (aLh, .inl (cI, 6, .inl ho)), (aLs, .inl (cI, 6, .inl sn)), (aE, .inr (0, [.int li, .int mi, .int (nI pe), .ref aEs, .ref aEw, .ref aEd, .int to, .ref aEl, .ref aEt])), (aEl, .inl (cI, 7, .inl tl)), (aEt, .inl (cI, 7, .inl td)), (aY, .inr (3, [.ref aYe, .int (nI (2 ^ i1))])), (aYe, .inl (cI, 64, .inl ((f_X3_follow_55_Ye nl ho sn tl td i1 sect ((f_X3_follow_38_Ye nl ho sn tl td sect (upd en 0 (-1)) i1)) i2))))] H → va_D A [(aL, .inr (1, [.ref aLk, .ref aLh, .ref aLs, .int (nI nl)])), (aLh, .inl (cI, 6, .inl ho)), (aLs, .inl (cI, 6, .inl sn)), (aE, .inr (0, [.int li, .int mi, .int (nI pe), .ref aEs, .ref aEw, .ref aEd, .int to, .ref aEl, .ref aEt])), (aEl, .inl (cI, 7, .inl tl)), (aEt, .inl (cI, 7, .inl td)), (aY, .inr (3, [.ref aYe, .int (nI (2 ^ i1))])), (aYe, .inl (cI, 64, .inl ((f_X3_follow_55_Ye nl ho sn tl td i1 sect ((f_X3_follow_38_Ye nl ho sn tl td sect (upd en 0 (-1)) i1)) i2))))] → va_S A s.heap H locs → ∀ ls : Array Slot, lv_has ls 7 [(0, .ref aY), (1, .ref aL), (2, .ref aE), (3, .int sect), (4, .int (nI mm)), (5, .int (nI (i1 + 1))), (6, .int (nI i2))] → W p l e rm_X3_follow s m args below meth c H locs 0 0 Q (F0 m 55 ls []) := by
          intro k55
          induction k55 with
          | zero =>
            intro i2 hk55 H locs hP hD hS ls hl
            have hN55 : 2 ^ i1 = i2 := by omega
            subst hN55
            refine lv_iload hx hb dX3_follow_55 (lv_at hl 6 rfl) ?_
            refine lv_aload_n hx hb dX3_follow_57 rfl (lv_at hl 0 rfl) ?_
            refine va_get (D := D) (ci := 3) (v := .int (nI (2 ^ i1))) (C := RX3) (T := TX3) (N := 2) hx hb hts uX3 hown hK hP 6 rfl rfl 1 (by decide) w1 (fun _ h9 => h9) rfl dX3_follow_58 ?_
            refine lv_icmp_ge (tgt := 121) hx hb dX3_follow_61 (by decide) (fun _ => ?_) (fun c => absurd (nle_t (a := 2 ^ i1) (b := (2 ^ i1)) rfl rfl (by omega) (by omega) (by omega)) c)
            refine lv_aload_n hx hb dX3_follow_121 rfl (lv_at hl 0 rfl) ?_
            refine lv_dup hx hb dX3_follow_122 rfl ?_
            refine va_get (D := D) (ci := 3) (v := .int (nI (2 ^ i1))) (C := RX3) (T := TX3) (N := 2) hx hb hts uX3 hown hK hP 6 rfl rfl 1 (by decide) w1 (fun _ h9 => h9) rfl dX3_follow_123 ?_
            refine lv_iconst (v := 2) hx hb dX3_follow_126 (by decide) ?_
            refine lv_imul hx hb dX3_follow_127 ?_
            refine va_put (D := D) (ci := 3) (v := .int (nI (2 ^ i1) * 2)) (ty := .int) (C := RX3) (T := TX3) (N := 2) hx hb hts uX3 tyX3 tyX3_ok nmX3 hown hK hP hD hS 6 rfl rfl 1 (by decide) w1 (fun _ h9 => h9) rfl (by decide +kernel) rfl rfl (Nat.le_of_ble_eq_true rfl) dX3_follow_128 (fun H locs hP hD hS => ?_)
            have hP : va_P D vwCl [(aL, .inr (1, [.ref aLk, .ref aLh, .ref aLs, .int (nI nl)])), (aLh, .inl (cI, 6, .inl ho)), (aLs, .inl (cI, 6, .inl sn)), (aE, .inr (0, [.int li, .int mi, .int (nI pe), .ref aEs, .ref aEw, .ref aEd, .int to, .ref aEl, .ref aEt])), (aEl, .inl (cI, 7, .inl tl)), (aEt, .inl (cI, 7, .inl td)), (aY, .inr (3, [.ref aYe, .int (nI (2 ^ i1) * 2)])), (aYe, .inl (cI, 64, .inl ((f_X3_follow_55_Ye nl ho sn tl td i1 sect ((f_X3_follow_38_Ye nl ho sn tl td sect (upd en 0 (-1)) i1)) (2 ^ i1)))))] H := hP
            have hD : va_D A [(aL, .inr (1, [.ref aLk, .ref aLh, .ref aLs, .int (nI nl)])), (aLh, .inl (cI, 6, .inl ho)), (aLs, .inl (cI, 6, .inl sn)), (aE, .inr (0, [.int li, .int mi, .int (nI pe), .ref aEs, .ref aEw, .ref aEd, .int to, .ref aEl, .ref aEt])), (aEl, .inl (cI, 7, .inl tl)), (aEt, .inl (cI, 7, .inl td)), (aY, .inr (3, [.ref aYe, .int (nI (2 ^ i1) * 2)])), (aYe, .inl (cI, 64, .inl ((f_X3_follow_55_Ye nl ho sn tl td i1 sect ((f_X3_follow_38_Ye nl ho sn tl td sect (upd en 0 (-1)) i1)) (2 ^ i1)))))] := hD
            refine lv_iinc (v := nI ((i1 + 1) + 1)) (lv' := [(5, .int (nI ((i1 + 1) + 1))), (0, .ref aY), (1, .ref aL), (2, .ref aE), (3, .int sect), (4, .int (nI mm)), (6, .int (nI ((2 ^ i1))))]) hx hb dX3_follow_131 hl (k := 5) rfl (nI_add (i1 + 1) 1) (by decide) rfl (fun ls hl => ?_)
            refine lv_goto (tgt := 38) hx hb dX3_follow_134 (by decide) ?_
            have e_Ye : (f_X3_follow_38_Ye nl ho sn tl td sect (upd en 0 (-1)) (i1 + 1)) = (f_X3_follow_55_Ye nl ho sn tl td i1 sect ((f_X3_follow_38_Ye nl ho sn tl td sect (upd en 0 (-1)) i1)) (2 ^ i1)) := (by simp only [f_X3_follow_38_Ye])
            have i_Y_1 : nI (2 ^ (i1 + 1)) = (nI (2 ^ i1) * 2) := (Eq.symm (ix_mul (x := 2 ^ i1) (y := 2) rfl rfl))
            exact ih38 (i1 + 1) (by omega) _ _ (by rw [e_Ye, i_Y_1]; exact hP) (by rw [e_Ye, i_Y_1]; exact hD) hS ls (lv_sub hl [1, 2, 3, 4, 5, 0] rfl)
          | succ k55 ih55 =>
            intro i2 hk55 H locs hP hD hS ls hl
            refine lv_iload hx hb dX3_follow_55 (lv_at hl 6 rfl) ?_
            refine lv_aload_n hx hb dX3_follow_57 rfl (lv_at hl 0 rfl) ?_
            refine va_get (D := D) (ci := 3) (v := .int (nI (2 ^ i1))) (C := RX3) (T := TX3) (N := 2) hx hb hts uX3 hown hK hP 6 rfl rfl 1 (by decide) w1 (fun _ h9 => h9) rfl dX3_follow_58 ?_
            refine lv_icmp_ge (tgt := 121) hx hb dX3_follow_61 (by decide) (fun c => absurd c (nle_f (a := 2 ^ i1) (b := i2) rfl rfl (by omega) (by omega) (by omega))) (fun _ => ?_)
            refine lv_aload_n hx hb dX3_follow_64 rfl (lv_at hl 0 rfl) ?_
            refine va_get (D := D) (ci := 3) (v := .ref aYe) (C := RX3) (T := TX3) (N := 2) hx hb hts uX3 hown hK hP 6 rfl rfl 0 (by decide) w2 (fun _ h9 => h9) rfl dX3_follow_65 ?_
            refine lv_aload_n hx hb dX3_follow_68 rfl (lv_at hl 0 rfl) ?_
            refine va_get (D := D) (ci := 3) (v := .int (nI (2 ^ i1))) (C := RX3) (T := TX3) (N := 2) hx hb hts uX3 hown hK hP 6 rfl rfl 1 (by decide) w1 (fun _ h9 => h9) rfl dX3_follow_69 ?_
            refine lv_iload hx hb dX3_follow_72 (lv_at hl 6 rfl) ?_
            refine lv_iadd hx hb dX3_follow_74 ?_
            refine lv_aload_n hx hb dX3_follow_75 rfl (lv_at hl 1 rfl) ?_
            refine lv_aload_n hx hb dX3_follow_76 rfl (lv_at hl 2 rfl) ?_
            refine lv_aload_n hx hb dX3_follow_77 rfl (lv_at hl 0 rfl) ?_
            refine va_get (D := D) (ci := 3) (v := .ref aYe) (C := RX3) (T := TX3) (N := 2) hx hb hts uX3 hown hK hP 6 rfl rfl 0 (by decide) w2 (fun _ h9 => h9) rfl dX3_follow_78 ?_
            refine lv_iload hx hb dX3_follow_81 (lv_at hl 6 rfl) ?_
            refine xald hx hb hK hP 7 rfl i2 rfl (by omega) (by decide) dX3_follow_83 ?_
            refine lv_iconst (v := 1) hx hb dX3_follow_84 (by decide) ?_
            refine lv_iload_n hx hb dX3_follow_85 rfl (lv_at hl 3 rfl) ?_
            refine lv_ishl hx hb dX3_follow_86 ?_
            refine lv_iload hx hb dX3_follow_87 (lv_at hl 5 rfl) ?_
            refine rS ⟨hx, hb, hml, hown, hts⟩ (c_X3_further l D cI aL aLk aLh aLs aE aEs aEw aEd aEl aEt nl ho sn li mi pe to tl td ((f_X3_follow_55_Ye nl ho sn tl td i1 sect ((f_X3_follow_38_Ye nl ho sn tl td sect (upd en 0 (-1)) i1)) i2) i2) (nI (i1 + 1)) ((1 : Int32) <<< (sect &&& 31)) hn) (va_cwS 5 hts gX3_follow_X3_further rfl rfl rfl hd_X3_further ⟨Nat.le_of_ble_eq_true rfl, Nat.le_of_ble_eq_true rfl⟩) hK (hP.sub [0, 1, 2, 3, 4, 5] rfl) rfl hl.1 (rest := [.int (nI (2 ^ i1) + nI i2), .ref aYe]) (st' := [.int (f_X3_further nl ho sn tl td ((f_X3_follow_55_Ye nl ho sn tl td i1 sect ((f_X3_follow_38_Ye nl ho sn tl td sect (upd en 0 (-1)) i1)) i2) i2) (nI (i1 + 1)) ((1 : Int32) <<< (sect &&& 31))), .int (nI (2 ^ i1) + nI i2), .ref aYe]) rfl rfl (Nat.le_of_ble_eq_true rfl) dX3_follow_89 ⟨Nat.zero_le _, Nat.zero_le _⟩ ?_
            refine xast hx hb hK hP hD hS 7 rfl ((2 ^ i1) + i2) (ix_add rfl rfl) (by omega) (by decide) dX3_follow_92 (fun H locs hP hD hS => ?_)
            have hP : va_P D vwCl [(aL, .inr (1, [.ref aLk, .ref aLh, .ref aLs, .int (nI nl)])), (aLh, .inl (cI, 6, .inl ho)), (aLs, .inl (cI, 6, .inl sn)), (aE, .inr (0, [.int li, .int mi, .int (nI pe), .ref aEs, .ref aEw, .ref aEd, .int to, .ref aEl, .ref aEt])), (aEl, .inl (cI, 7, .inl tl)), (aEt, .inl (cI, 7, .inl td)), (aY, .inr (3, [.ref aYe, .int (nI (2 ^ i1))])), (aYe, .inl (cI, 64, .inl (upd (f_X3_follow_55_Ye nl ho sn tl td i1 sect ((f_X3_follow_38_Ye nl ho sn tl td sect (upd en 0 (-1)) i1)) i2) ((2 ^ i1) + i2) (f_X3_further nl ho sn tl td ((f_X3_follow_55_Ye nl ho sn tl td i1 sect ((f_X3_follow_38_Ye nl ho sn tl td sect (upd en 0 (-1)) i1)) i2) i2) (nI (i1 + 1)) ((1 : Int32) <<< (sect &&& 31))))))] H := hP
            have hD : va_D A [(aL, .inr (1, [.ref aLk, .ref aLh, .ref aLs, .int (nI nl)])), (aLh, .inl (cI, 6, .inl ho)), (aLs, .inl (cI, 6, .inl sn)), (aE, .inr (0, [.int li, .int mi, .int (nI pe), .ref aEs, .ref aEw, .ref aEd, .int to, .ref aEl, .ref aEt])), (aEl, .inl (cI, 7, .inl tl)), (aEt, .inl (cI, 7, .inl td)), (aY, .inr (3, [.ref aYe, .int (nI (2 ^ i1))])), (aYe, .inl (cI, 64, .inl (upd (f_X3_follow_55_Ye nl ho sn tl td i1 sect ((f_X3_follow_38_Ye nl ho sn tl td sect (upd en 0 (-1)) i1)) i2) ((2 ^ i1) + i2) (f_X3_further nl ho sn tl td ((f_X3_follow_55_Ye nl ho sn tl td i1 sect ((f_X3_follow_38_Ye nl ho sn tl td sect (upd en 0 (-1)) i1)) i2) i2) (nI (i1 + 1)) ((1 : Int32) <<< (sect &&& 31))))))] := hD
            refine lv_aload_n hx hb dX3_follow_93 rfl (lv_at hl 0 rfl) ?_
            refine va_get (D := D) (ci := 3) (v := .ref aYe) (C := RX3) (T := TX3) (N := 2) hx hb hts uX3 hown hK hP 6 rfl rfl 0 (by decide) w2 (fun _ h9 => h9) rfl dX3_follow_94 ?_
            refine lv_iload hx hb dX3_follow_97 (lv_at hl 6 rfl) ?_
            refine lv_aload_n hx hb dX3_follow_99 rfl (lv_at hl 1 rfl) ?_
            refine lv_aload_n hx hb dX3_follow_100 rfl (lv_at hl 2 rfl) ?_
            refine lv_aload_n hx hb dX3_follow_101 rfl (lv_at hl 0 rfl) ?_
            refine va_get (D := D) (ci := 3) (v := .ref aYe) (C := RX3) (T := TX3) (N := 2) hx hb hts uX3 hown hK hP 6 rfl rfl 0 (by decide) w2 (fun _ h9 => h9) rfl dX3_follow_102 ?_
            refine lv_iload hx hb dX3_follow_105 (lv_at hl 6 rfl) ?_
            refine xald hx hb hK hP 7 rfl i2 rfl (by omega) (by decide) dX3_follow_107 ?_
            refine lv_iconst (v := 0) hx hb dX3_follow_108 (by decide) ?_
            refine lv_iload hx hb dX3_follow_109 (lv_at hl 5 rfl) ?_
            refine rS ⟨hx, hb, hml, hown, hts⟩ (c_X3_further l D cI aL aLk aLh aLs aE aEs aEw aEd aEl aEt nl ho sn li mi pe to tl td ((upd (f_X3_follow_55_Ye nl ho sn tl td i1 sect ((f_X3_follow_38_Ye nl ho sn tl td sect (upd en 0 (-1)) i1)) i2) ((2 ^ i1) + i2) (f_X3_further nl ho sn tl td ((f_X3_follow_55_Ye nl ho sn tl td i1 sect ((f_X3_follow_38_Ye nl ho sn tl td sect (upd en 0 (-1)) i1)) i2) i2) (nI (i1 + 1)) ((1 : Int32) <<< (sect &&& 31)))) i2) (nI (i1 + 1)) 0 hn) (va_cwS 5 hts gX3_follow_X3_further rfl rfl rfl hd_X3_further ⟨Nat.le_of_ble_eq_true rfl, Nat.le_of_ble_eq_true rfl⟩) hK (hP.sub [0, 1, 2, 3, 4, 5] rfl) rfl hl.1 (rest := [.int (nI i2), .ref aYe]) (st' := [.int (f_X3_further nl ho sn tl td ((upd (f_X3_follow_55_Ye nl ho sn tl td i1 sect ((f_X3_follow_38_Ye nl ho sn tl td sect (upd en 0 (-1)) i1)) i2) ((2 ^ i1) + i2) (f_X3_further nl ho sn tl td ((f_X3_follow_55_Ye nl ho sn tl td i1 sect ((f_X3_follow_38_Ye nl ho sn tl td sect (upd en 0 (-1)) i1)) i2) i2) (nI (i1 + 1)) ((1 : Int32) <<< (sect &&& 31)))) i2) (nI (i1 + 1)) 0), .int (nI i2), .ref aYe]) rfl rfl (Nat.le_of_ble_eq_true rfl) dX3_follow_111 ⟨Nat.zero_le _, Nat.zero_le _⟩ ?_
            refine xast hx hb hK hP hD hS 7 rfl i2 rfl (by omega) (by decide) dX3_follow_114 (fun H locs hP hD hS => ?_)
            have hP : va_P D vwCl [(aL, .inr (1, [.ref aLk, .ref aLh, .ref aLs, .int (nI nl)])), (aLh, .inl (cI, 6, .inl ho)), (aLs, .inl (cI, 6, .inl sn)), (aE, .inr (0, [.int li, .int mi, .int (nI pe), .ref aEs, .ref aEw, .ref aEd, .int to, .ref aEl, .ref aEt])), (aEl, .inl (cI, 7, .inl tl)), (aEt, .inl (cI, 7, .inl td)), (aY, .inr (3, [.ref aYe, .int (nI (2 ^ i1))])), (aYe, .inl (cI, 64, .inl (upd (upd (f_X3_follow_55_Ye nl ho sn tl td i1 sect ((f_X3_follow_38_Ye nl ho sn tl td sect (upd en 0 (-1)) i1)) i2) ((2 ^ i1) + i2) (f_X3_further nl ho sn tl td ((f_X3_follow_55_Ye nl ho sn tl td i1 sect ((f_X3_follow_38_Ye nl ho sn tl td sect (upd en 0 (-1)) i1)) i2) i2) (nI (i1 + 1)) ((1 : Int32) <<< (sect &&& 31)))) i2 (f_X3_further nl ho sn tl td ((upd (f_X3_follow_55_Ye nl ho sn tl td i1 sect ((f_X3_follow_38_Ye nl ho sn tl td sect (upd en 0 (-1)) i1)) i2) ((2 ^ i1) + i2) (f_X3_further nl ho sn tl td ((f_X3_follow_55_Ye nl ho sn tl td i1 sect ((f_X3_follow_38_Ye nl ho sn tl td sect (upd en 0 (-1)) i1)) i2) i2) (nI (i1 + 1)) ((1 : Int32) <<< (sect &&& 31)))) i2) (nI (i1 + 1)) 0))))] H := hP
            have hD : va_D A [(aL, .inr (1, [.ref aLk, .ref aLh, .ref aLs, .int (nI nl)])), (aLh, .inl (cI, 6, .inl ho)), (aLs, .inl (cI, 6, .inl sn)), (aE, .inr (0, [.int li, .int mi, .int (nI pe), .ref aEs, .ref aEw, .ref aEd, .int to, .ref aEl, .ref aEt])), (aEl, .inl (cI, 7, .inl tl)), (aEt, .inl (cI, 7, .inl td)), (aY, .inr (3, [.ref aYe, .int (nI (2 ^ i1))])), (aYe, .inl (cI, 64, .inl (upd (upd (f_X3_follow_55_Ye nl ho sn tl td i1 sect ((f_X3_follow_38_Ye nl ho sn tl td sect (upd en 0 (-1)) i1)) i2) ((2 ^ i1) + i2) (f_X3_further nl ho sn tl td ((f_X3_follow_55_Ye nl ho sn tl td i1 sect ((f_X3_follow_38_Ye nl ho sn tl td sect (upd en 0 (-1)) i1)) i2) i2) (nI (i1 + 1)) ((1 : Int32) <<< (sect &&& 31)))) i2 (f_X3_further nl ho sn tl td ((upd (f_X3_follow_55_Ye nl ho sn tl td i1 sect ((f_X3_follow_38_Ye nl ho sn tl td sect (upd en 0 (-1)) i1)) i2) ((2 ^ i1) + i2) (f_X3_further nl ho sn tl td ((f_X3_follow_55_Ye nl ho sn tl td i1 sect ((f_X3_follow_38_Ye nl ho sn tl td sect (upd en 0 (-1)) i1)) i2) i2) (nI (i1 + 1)) ((1 : Int32) <<< (sect &&& 31)))) i2) (nI (i1 + 1)) 0))))] := hD
            refine lv_iinc (v := nI (i2 + 1)) (lv' := [(6, .int (nI (i2 + 1))), (0, .ref aY), (1, .ref aL), (2, .ref aE), (3, .int sect), (4, .int (nI mm)), (5, .int (nI (i1 + 1)))]) hx hb dX3_follow_115 hl (k := 6) rfl (nI_add i2 1) (by decide) rfl (fun ls hl => ?_)
            refine lv_goto (tgt := 55) hx hb dX3_follow_118 (by decide) ?_
            have e_Ye : (f_X3_follow_55_Ye nl ho sn tl td i1 sect ((f_X3_follow_38_Ye nl ho sn tl td sect (upd en 0 (-1)) i1)) (i2 + 1)) = (upd (upd (f_X3_follow_55_Ye nl ho sn tl td i1 sect ((f_X3_follow_38_Ye nl ho sn tl td sect (upd en 0 (-1)) i1)) i2) ((2 ^ i1) + i2) (f_X3_further nl ho sn tl td ((f_X3_follow_55_Ye nl ho sn tl td i1 sect ((f_X3_follow_38_Ye nl ho sn tl td sect (upd en 0 (-1)) i1)) i2) i2) (nI (i1 + 1)) ((1 : Int32) <<< (sect &&& 31)))) i2 (f_X3_further nl ho sn tl td ((upd (f_X3_follow_55_Ye nl ho sn tl td i1 sect ((f_X3_follow_38_Ye nl ho sn tl td sect (upd en 0 (-1)) i1)) i2) ((2 ^ i1) + i2) (f_X3_further nl ho sn tl td ((f_X3_follow_55_Ye nl ho sn tl td i1 sect ((f_X3_follow_38_Ye nl ho sn tl td sect (upd en 0 (-1)) i1)) i2) i2) (nI (i1 + 1)) ((1 : Int32) <<< (sect &&& 31)))) i2) (nI (i1 + 1)) 0)) := (by simp only [f_X3_follow_55_Ye])
            exact ih55 (i2 + 1) (by omega) _ _ (by rw [e_Ye]; exact hP) (by rw [e_Ye]; exact hD) hS ls (lv_sub hl [1, 2, 3, 4, 5, 6, 0] rfl)
        exact lp55 (2 ^ i1) 0 (by omega) _ _ hP hD hS ls (lv_sub hl [1, 2, 3, 4, 5, 6, 0] rfl)
    exact lp38 mm 0 (by omega) _ _ hP hD hS ls (lv_sub hl [1, 2, 3, 4, 5, 0] rfl)
  · refine lv_aload_n hx hb dX3_follow_26 rfl (lv_at hl 2 rfl) ?_
    refine va_get (D := D) (ci := 0) (v := .int li) (C := RX0) (T := TX0) (N := 9) hx hb hts uX0 hown hK hP 3 rfl rfl 0 (by decide) w3 (fun _ h9 => h9) rfl dX3_follow_27 ?_
    refine lv_goto (tgt := 34) hx hb dX3_follow_30 (by decide) ?_
    refine xast hx hb hK hP hD hS 7 rfl 0 rfl (by omega) (by decide) dX3_follow_34 (fun H locs hP hD hS => ?_)
    have hP : va_P D vwCl [(aL, .inr (1, [.ref aLk, .ref aLh, .ref aLs, .int (nI nl)])), (aLh, .inl (cI, 6, .inl ho)), (aLs, .inl (cI, 6, .inl sn)), (aE, .inr (0, [.int li, .int mi, .int (nI pe), .ref aEs, .ref aEw, .ref aEd, .int to, .ref aEl, .ref aEt])), (aEl, .inl (cI, 7, .inl tl)), (aEt, .inl (cI, 7, .inl td)), (aY, .inr (3, [.ref aYe, .int 1])), (aYe, .inl (cI, 64, .inl (upd en 0 li)))] H := hP
    have hD : va_D A [(aL, .inr (1, [.ref aLk, .ref aLh, .ref aLs, .int (nI nl)])), (aLh, .inl (cI, 6, .inl ho)), (aLs, .inl (cI, 6, .inl sn)), (aE, .inr (0, [.int li, .int mi, .int (nI pe), .ref aEs, .ref aEw, .ref aEd, .int to, .ref aEl, .ref aEt])), (aEl, .inl (cI, 7, .inl tl)), (aEt, .inl (cI, 7, .inl td)), (aY, .inr (3, [.ref aYe, .int 1])), (aYe, .inl (cI, 64, .inl (upd en 0 li)))] := hD
    refine lv_iconst (v := 1) hx hb dX3_follow_35 (by decide) ?_
    refine lv_istore (lv' := [(5, .int 1), (0, .ref aY), (1, .ref aL), (2, .ref aE), (3, .int sect), (4, .int (nI mm))]) hx hb dX3_follow_36 hl (by decide) rfl (fun ls hl => ?_)
    have lp38 : ∀ (k38 i1 : Nat), i1 + k38 = mm → ∀ (H : Heap) (locs : List Loc), va_P D vwCl [(aL, .inr (1, [.ref aLk, .ref aLh, .ref aLs, .int (nI nl)])), (aLh, .inl (cI, 6, .inl ho)), (aLs, .inl (cI, 6, .inl sn)), (aE, .inr (0, [.int li, .int mi, .int (nI pe), .ref aEs, .ref aEw, .ref aEd, .int to, .ref aEl, .ref aEt])), (aEl, .inl (cI, 7, .inl tl)), (aEt, .inl (cI, 7, .inl td)), (aY, .inr (3, [.ref aYe, .int (nI (2 ^ i1))])), (aYe, .inl (cI, 64, .inl ((f_X3_follow_38_Ye nl ho sn tl td sect (upd en 0 li) i1))))] H → va_D A [(aL, .inr (1, [.ref aLk, .ref aLh, .ref aLs, .int (nI nl)])), (aLh, .inl (cI, 6, .inl ho)), (aLs, .inl (cI, 6, .inl sn)), (aE, .inr (0, [.int li, .int mi, .int (nI pe), .ref aEs, .ref aEw, .ref aEd, .int to, .ref aEl, .ref aEt])), (aEl, .inl (cI, 7, .inl tl)), (aEt, .inl (cI, 7, .inl td)), (aY, .inr (3, [.ref aYe, .int (nI (2 ^ i1))])), (aYe, .inl (cI, 64, .inl ((f_X3_follow_38_Ye nl ho sn tl td sect (upd en 0 li) i1))))] → va_S A s.heap H locs → ∀ ls : Array Slot, lv_has ls 7 [(0, .ref aY), (1, .ref aL), (2, .ref aE), (3, .int sect), (4, .int (nI mm)), (5, .int (nI (i1 + 1)))] → W p l e rm_X3_follow s m args below meth c H locs 0 0 Q (F0 m 38 ls []) := by
      intro k38
      induction k38 with
      | zero =>
        intro i1 hk38 H locs hP hD hS ls hl
        have hN38 : mm = i1 := by omega
        subst hN38
        refine lv_iload hx hb dX3_follow_38 (lv_at hl 5 rfl) ?_
        refine lv_iload hx hb dX3_follow_40 (lv_at hl 4 rfl) ?_
        refine lv_icmp_gt (tgt := 137) hx hb dX3_follow_42 (by decide) (fun _ => ?_) (fun c => absurd (nlt_t (a := mm) (b := mm + 1) rfl rfl (by omega) (by omega) (by omega)) c)
        have e_Ye : (f_X3_follow_Ye nl ho sn li tl td en mm sect) = (f_X3_follow_38_Ye nl ho sn tl td sect (upd en 0 li) mm) := (by simp only [f_X3_follow_Ye, if_neg c1])
        exact eXv hx hb hr hlk hQ (by rw [e_Ye]; exact hP) (by rw [e_Ye]; exact hD) hS dX3_follow_137
      | succ k38 ih38 =>
        intro i1 hk38 H locs hP hD hS ls hl
        refine lv_iload hx hb dX3_follow_38 (lv_at hl 5 rfl) ?_
        refine lv_iload hx hb dX3_follow_40 (lv_at hl 4 rfl) ?_
        refine lv_icmp_gt (tgt := 137) hx hb dX3_follow_42 (by decide) (fun c => absurd c (nlt_f (a := mm) (b := i1 + 1) rfl rfl (by omega) (by omega) (by omega))) (fun _ => ?_)
        refine lv_iload hx hb dX3_follow_45 (lv_at hl 5 rfl) ?_
        refine lv_bipush (v := 6) hx hb dX3_follow_47 (by decide) ?_
        refine lv_icmp_gt (tgt := 137) hx hb dX3_follow_49 (by decide) (fun c => absurd c (nlt_f (a := 6) (b := i1 + 1) rfl rfl (by omega) (by omega) (by omega))) (fun _ => ?_)
        have hz2 : 2 ^ i1 ≤ 32 := Nat.le_trans (Nat.pow_le_pow_right (by decide) (show i1 ≤ 5 by omega)) (by decide)
        refine lv_iconst (v := 0) hx hb dX3_follow_52 (by decide) ?_
        refine lv_istore (lv' := [(6, .int 0), (0, .ref aY), (1, .ref aL), (2, .ref aE), (3, .int sect), (4, .int (nI mm)), (5, .int (nI (i1 + 1)))]) hx hb dX3_follow_53 hl (by decide) rfl (fun ls hl => ?_)
        have lp55 : ∀ (k55 i2 : Nat), i2 + k55 = 2 ^ i1 → ∀ (H : Heap) (locs : List Loc), va_P D vwCl [(aL, .inr (1, [.ref aLk, .ref aLh, .ref aLs, .int (nI nl)])), (aLh, .inl (cI, 6, .inl ho)), (aLs, .inl (cI, 6, .inl sn)), (aE, .inr (0, [.int li, .int mi, .int (nI pe), .ref aEs, .ref aEw, .ref aEd, .int to, .ref aEl, .ref aEt])), (aEl, .inl (cI, 7, .inl tl)), (aEt, .inl (cI, 7, .inl td)), (aY, .inr (3, [.ref aYe, .int (nI (2 ^ i1))])), (aYe, .inl (cI, 64, .inl ((f_X3_follow_55_Ye nl ho sn tl td i1 sect ((f_X3_follow_38_Ye nl ho sn tl td sect (upd en 0 li) i1)) i2))))] H → va_D A [(aL, .inr (1, [.ref aLk, .ref aLh, .ref aLs, .int (nI nl)])), (aLh, .inl (cI, 6, .inl ho)), (aLs, .inl (cI, 6, .inl sn)), (aE, .inr (0, [.int li, .int mi, .int (nI pe), .ref aEs, .ref aEw, .ref aEd, .int to, .ref aEl, .ref aEt])), (aEl, .inl (cI, 7, .inl tl)), (aEt, .inl (cI, 7, .inl td)), (aY, .inr (3, [.ref aYe, .int (nI (2 ^ i1))])), (aYe, .inl (cI, 64, .inl ((f_X3_follow_55_Ye nl ho sn tl td i1 sect ((f_X3_follow_38_Ye nl ho sn tl td sect (upd en 0 li) i1)) i2))))] → va_S A s.heap H locs → ∀ ls : Array Slot, lv_has ls 7 [(0, .ref aY), (1, .ref aL), (2, .ref aE), (3, .int sect), (4, .int (nI mm)), (5, .int (nI (i1 + 1))), (6, .int (nI i2))] → W p l e rm_X3_follow s m args below meth c H locs 0 0 Q (F0 m 55 ls []) := by
          intro k55
          induction k55 with
          | zero =>
            intro i2 hk55 H locs hP hD hS ls hl
            have hN55 : 2 ^ i1 = i2 := by omega
            subst hN55
            refine lv_iload hx hb dX3_follow_55 (lv_at hl 6 rfl) ?_
            refine lv_aload_n hx hb dX3_follow_57 rfl (lv_at hl 0 rfl) ?_
            refine va_get (D := D) (ci := 3) (v := .int (nI (2 ^ i1))) (C := RX3) (T := TX3) (N := 2) hx hb hts uX3 hown hK hP 6 rfl rfl 1 (by decide) w1 (fun _ h9 => h9) rfl dX3_follow_58 ?_
            refine lv_icmp_ge (tgt := 121) hx hb dX3_follow_61 (by decide) (fun _ => ?_) (fun c => absurd (nle_t (a := 2 ^ i1) (b := (2 ^ i1)) rfl rfl (by omega) (by omega) (by omega)) c)
            refine lv_aload_n hx hb dX3_follow_121 rfl (lv_at hl 0 rfl) ?_
            refine lv_dup hx hb dX3_follow_122 rfl ?_
            refine va_get (D := D) (ci := 3) (v := .int (nI (2 ^ i1))) (C := RX3) (T := TX3) (N := 2) hx hb hts uX3 hown hK hP 6 rfl rfl 1 (by decide) w1 (fun _ h9 => h9) rfl dX3_follow_123 ?_
            refine lv_iconst (v := 2) hx hb dX3_follow_126 (by decide) ?_
            refine lv_imul hx hb dX3_follow_127 ?_
            refine va_put (D := D) (ci := 3) (v := .int (nI (2 ^ i1) * 2)) (ty := .int) (C := RX3) (T := TX3) (N := 2) hx hb hts uX3 tyX3 tyX3_ok nmX3 hown hK hP hD hS 6 rfl rfl 1 (by decide) w1 (fun _ h9 => h9) rfl (by decide +kernel) rfl rfl (Nat.le_of_ble_eq_true rfl) dX3_follow_128 (fun H locs hP hD hS => ?_)
            have hP : va_P D vwCl [(aL, .inr (1, [.ref aLk, .ref aLh, .ref aLs, .int (nI nl)])), (aLh, .inl (cI, 6, .inl ho)), (aLs, .inl (cI, 6, .inl sn)), (aE, .inr (0, [.int li, .int mi, .int (nI pe), .ref aEs, .ref aEw, .ref aEd, .int to, .ref aEl, .ref aEt])), (aEl, .inl (cI, 7, .inl tl)), (aEt, .inl (cI, 7, .inl td)), (aY, .inr (3, [.ref aYe, .int (nI (2 ^ i1) * 2)])), (aYe, .inl (cI, 64, .inl ((f_X3_follow_55_Ye nl ho sn tl td i1 sect ((f_X3_follow_38_Ye nl ho sn tl td sect (upd en 0 li) i1)) (2 ^ i1)))))] H := hP
            have hD : va_D A [(aL, .inr (1, [.ref aLk, .ref aLh, .ref aLs, .int (nI nl)])), (aLh, .inl (cI, 6, .inl ho)), (aLs, .inl (cI, 6, .inl sn)), (aE, .inr (0, [.int li, .int mi, .int (nI pe), .ref aEs, .ref aEw, .ref aEd, .int to, .ref aEl, .ref aEt])), (aEl, .inl (cI, 7, .inl tl)), (aEt, .inl (cI, 7, .inl td)), (aY, .inr (3, [.ref aYe, .int (nI (2 ^ i1) * 2)])), (aYe, .inl (cI, 64, .inl ((f_X3_follow_55_Ye nl ho sn tl td i1 sect ((f_X3_follow_38_Ye nl ho sn tl td sect (upd en 0 li) i1)) (2 ^ i1)))))] := hD
            refine lv_iinc (v := nI ((i1 + 1) + 1)) (lv' := [(5, .int (nI ((i1 + 1) + 1))), (0, .ref aY), (1, .ref aL), (2, .ref aE), (3, .int sect), (4, .int (nI mm)), (6, .int (nI ((2 ^ i1))))]) hx hb dX3_follow_131 hl (k := 5) rfl (nI_add (i1 + 1) 1) (by decide) rfl (fun ls hl => ?_)
            refine lv_goto (tgt := 38) hx hb dX3_follow_134 (by decide) ?_
            have e_Ye : (f_X3_follow_38_Ye nl ho sn tl td sect (upd en 0 li) (i1 + 1)) = (f_X3_follow_55_Ye nl ho sn tl td i1 sect ((f_X3_follow_38_Ye nl ho sn tl td sect (upd en 0 li) i1)) (2 ^ i1)) := (by simp only [f_X3_follow_38_Ye])
            have i_Y_1 : nI (2 ^ (i1 + 1)) = (nI (2 ^ i1) * 2) := (Eq.symm (ix_mul (x := 2 ^ i1) (y := 2) rfl rfl))
            exact ih38 (i1 + 1) (by omega) _ _ (by rw [e_Ye, i_Y_1]; exact hP) (by rw [e_Ye, i_Y_1]; exact hD) hS ls (lv_sub hl [1, 2, 3, 4, 5, 0] rfl)
          | succ k55 ih55 =>
            intro i2 hk55 H locs hP hD hS ls hl
            refine lv_iload hx hb dX3_follow_55 (lv_at hl 6 rfl) ?_
            refine lv_aload_n hx hb dX3_follow_57 rfl (lv_at hl 0 rfl) ?_
            refine va_get (D := D) (ci := 3) (v := .int (nI (2 ^ i1))) (C := RX3) (T := TX3) (N := 2) hx hb hts uX3 hown hK hP 6 rfl rfl 1 (by decide) w1 (fun _ h9 => h9) rfl dX3_follow_58 ?_
            refine lv_icmp_ge (tgt := 121) hx hb dX3_follow_61 (by decide) (fun c => absurd c (nle_f (a := 2 ^ i1) (b := i2) rfl rfl (by omega) (by omega) (by omega))) (fun _ => ?_)
            refine lv_aload_n hx hb dX3_follow_64 rfl (lv_at hl 0 rfl) ?_
            refine va_get (D := D) (ci := 3) (v := .ref aYe) (C := RX3) (T := TX3) (N := 2) hx hb hts uX3 hown hK hP 6 rfl rfl 0 (by decide) w2 (fun _ h9 => h9) rfl dX3_follow_65 ?_
            refine lv_aload_n hx hb dX3_follow_68 rfl (lv_at hl 0 rfl) ?_
            refine va_get (D := D) (ci := 3) (v := .int (nI (2 ^ i1))) (C := RX3) (T := TX3) (N := 2) hx hb hts uX3 hown hK hP 6 rfl rfl 1 (by decide) w1 (fun _ h9 => h9) rfl dX3_follow_69 ?_
            refine lv_iload hx hb dX3_follow_72 (lv_at hl 6 rfl) ?_
            refine lv_iadd hx hb dX3_follow_74 ?_
            refine lv_aload_n hx hb dX3_follow_75 rfl (lv_at hl 1 rfl) ?_
            refine lv_aload_n hx hb dX3_follow_76 rfl (lv_at hl 2 rfl) ?_
            refine lv_aload_n hx hb dX3_follow_77 rfl (lv_at hl 0 rfl) ?_
            refine va_get (D := D) (ci := 3) (v := .ref aYe) (C := RX3) (T := TX3) (N := 2) hx hb hts uX3 hown hK hP 6 rfl rfl 0 (by decide) w2 (fun _ h9 => h9) rfl dX3_follow_78 ?_
            refine lv_iload hx hb dX3_follow_81 (lv_at hl 6 rfl) ?_
            refine xald hx hb hK hP 7 rfl i2 rfl (by omega) (by decide) dX3_follow_83 ?_
            refine lv_iconst (v := 1) hx hb dX3_follow_84 (by decide) ?_
            refine lv_iload_n hx hb dX3_follow_85 rfl (lv_at hl 3 rfl) ?_
            refine lv_ishl hx hb dX3_follow_86 ?_
            refine lv_iload hx hb dX3_follow_87 (lv_at hl 5 rfl) ?_
            refine rS ⟨hx, hb, hml, hown, hts⟩ (c_X3_further l D cI aL aLk aLh aLs aE aEs aEw aEd aEl aEt nl ho sn li mi pe to tl td ((f_X3_follow_55_Ye nl ho sn tl td i1 sect ((f_X3_follow_38_Ye nl ho sn tl td sect (upd en 0 li) i1)) i2) i2) (nI (i1 + 1)) ((1 : Int32) <<< (sect &&& 31)) hn) (va_cwS 5 hts gX3_follow_X3_further rfl rfl rfl hd_X3_further ⟨Nat.le_of_ble_eq_true rfl, Nat.le_of_ble_eq_true rfl⟩) hK (hP.sub [0, 1, 2, 3, 4, 5] rfl) rfl hl.1 (rest := [.int (nI (2 ^ i1) + nI i2), .ref aYe]) (st' := [.int (f_X3_further nl ho sn tl td ((f_X3_follow_55_Ye nl ho sn tl td i1 sect ((f_X3_follow_38_Ye nl ho sn tl td sect (upd en 0 li) i1)) i2) i2) (nI (i1 + 1)) ((1 : Int32) <<< (sect &&& 31))), .int (nI (2 ^ i1) + nI i2), .ref aYe]) rfl rfl (Nat.le_of_ble_eq_true rfl) dX3_follow_89 ⟨Nat.zero_le _, Nat.zero_le _⟩ ?_
            refine xast hx hb hK hP hD hS 7 rfl ((2 ^ i1) + i2) (ix_add rfl rfl) (by omega) (by decide) dX3_follow_92 (fun H locs hP hD hS => ?_)
            have hP : va_P D vwCl [(aL, .inr (1, [.ref aLk, .ref aLh, .ref aLs, .int (nI nl)])), (aLh, .inl (cI, 6, .inl ho)), (aLs, .inl (cI, 6, .inl sn)), (aE, .inr (0, [.int li, .int mi, .int (nI pe), .ref aEs, .ref aEw, .ref aEd, .int to, .ref aEl, .ref aEt])), (aEl, .inl (cI, 7, .inl tl)), (aEt, .inl (cI, 7, .inl td)), (aY, .inr (3, [.ref aYe, .int (nI (2 ^ i1))])), (aYe, .inl (cI, 64, .inl (upd (f_X3_follow_55_Ye nl ho sn tl td i1 sect ((f_X3_follow_38_Ye nl ho sn tl td sect (upd en 0 li) i1)) i2) ((2 ^ i1) + i2) (f_X3_further nl ho sn tl td ((f_X3_follow_55_Ye nl ho sn tl td i1 sect ((f_X3_follow_38_Ye nl ho sn tl td sect (upd en 0 li) i1)) i2) i2) (nI (i1 + 1)) ((1 : Int32) <<< (sect &&& 31))))))] H := hP
            have hD : va_D A [(aL, .inr (1, [.ref aLk, .ref aLh, .ref aLs, .int (nI nl)])), (aLh, .inl (cI, 6, .inl ho)), (aLs, .inl (cI, 6, .inl sn)), (aE, .inr (0, [.int li, .int mi, .int (nI pe), .ref aEs, .ref aEw, .ref aEd, .int to, .ref aEl, .ref aEt])), (aEl, .inl (cI, 7, .inl tl)), (aEt, .inl (cI, 7, .inl td)), (aY, .inr (3, [.ref aYe, .int (nI (2 ^ i1))])), (aYe, .inl (cI, 64, .inl (upd (f_X3_follow_55_Ye nl ho sn tl td i1 sect ((f_X3_follow_38_Ye nl ho sn tl td sect (upd en 0 li) i1)) i2) ((2 ^ i1) + i2) (f_X3_further nl ho sn tl td ((f_X3_follow_55_Ye nl ho sn tl td i1 sect ((f_X3_follow_38_Ye nl ho sn tl td sect (upd en 0 li) i1)) i2) i2) (nI (i1 + 1)) ((1 : Int32) <<< (sect &&& 31))))))] := hD
            refine lv_aload_n hx hb dX3_follow_93 rfl (lv_at hl 0 rfl) ?_
            refine va_get (D := D) (ci := 3) (v := .ref aYe) (C := RX3) (T := TX3) (N := 2) hx hb hts uX3 hown hK hP 6 rfl rfl 0 (by decide) w2 (fun _ h9 => h9) rfl dX3_follow_94 ?_
            refine lv_iload hx hb dX3_follow_97 (lv_at hl 6 rfl) ?_
            refine lv_aload_n hx hb dX3_follow_99 rfl (lv_at hl 1 rfl) ?_
            refine lv_aload_n hx hb dX3_follow_100 rfl (lv_at hl 2 rfl) ?_
            refine lv_aload_n hx hb dX3_follow_101 rfl (lv_at hl 0 rfl) ?_
            refine va_get (D := D) (ci := 3) (v := .ref aYe) (C := RX3) (T := TX3) (N := 2) hx hb hts uX3 hown hK hP 6 rfl rfl 0 (by decide) w2 (fun _ h9 => h9) rfl dX3_follow_102 ?_
            refine lv_iload hx hb dX3_follow_105 (lv_at hl 6 rfl) ?_
            refine xald hx hb hK hP 7 rfl i2 rfl (by omega) (by decide) dX3_follow_107 ?_
            refine lv_iconst (v := 0) hx hb dX3_follow_108 (by decide) ?_
            refine lv_iload hx hb dX3_follow_109 (lv_at hl 5 rfl) ?_
            refine rS ⟨hx, hb, hml, hown, hts⟩ (c_X3_further l D cI aL aLk aLh aLs aE aEs aEw aEd aEl aEt nl ho sn li mi pe to tl td ((upd (f_X3_follow_55_Ye nl ho sn tl td i1 sect ((f_X3_follow_38_Ye nl ho sn tl td sect (upd en 0 li) i1)) i2) ((2 ^ i1) + i2) (f_X3_further nl ho sn tl td ((f_X3_follow_55_Ye nl ho sn tl td i1 sect ((f_X3_follow_38_Ye nl ho sn tl td sect (upd en 0 li) i1)) i2) i2) (nI (i1 + 1)) ((1 : Int32) <<< (sect &&& 31)))) i2) (nI (i1 + 1)) 0 hn) (va_cwS 5 hts gX3_follow_X3_further rfl rfl rfl hd_X3_further ⟨Nat.le_of_ble_eq_true rfl, Nat.le_of_ble_eq_true rfl⟩) hK (hP.sub [0, 1, 2, 3, 4, 5] rfl) rfl hl.1 (rest := [.int (nI i2), .ref aYe]) (st' := [.int (f_X3_further nl ho sn tl td ((upd (f_X3_follow_55_Ye nl ho sn tl td i1 sect ((f_X3_follow_38_Ye nl ho sn tl td sect (upd en 0 li) i1)) i2) ((2 ^ i1) + i2) (f_X3_further nl ho sn tl td ((f_X3_follow_55_Ye nl ho sn tl td i1 sect ((f_X3_follow_38_Ye nl ho sn tl td sect (upd en 0 li) i1)) i2) i2) (nI (i1 + 1)) ((1 : Int32) <<< (sect &&& 31)))) i2) (nI (i1 + 1)) 0), .int (nI i2), .ref aYe]) rfl rfl (Nat.le_of_ble_eq_true rfl) dX3_follow_111 ⟨Nat.zero_le _, Nat.zero_le _⟩ ?_
            refine xast hx hb hK hP hD hS 7 rfl i2 rfl (by omega) (by decide) dX3_follow_114 (fun H locs hP hD hS => ?_)
            have hP : va_P D vwCl [(aL, .inr (1, [.ref aLk, .ref aLh, .ref aLs, .int (nI nl)])), (aLh, .inl (cI, 6, .inl ho)), (aLs, .inl (cI, 6, .inl sn)), (aE, .inr (0, [.int li, .int mi, .int (nI pe), .ref aEs, .ref aEw, .ref aEd, .int to, .ref aEl, .ref aEt])), (aEl, .inl (cI, 7, .inl tl)), (aEt, .inl (cI, 7, .inl td)), (aY, .inr (3, [.ref aYe, .int (nI (2 ^ i1))])), (aYe, .inl (cI, 64, .inl (upd (upd (f_X3_follow_55_Ye nl ho sn tl td i1 sect ((f_X3_follow_38_Ye nl ho sn tl td sect (upd en 0 li) i1)) i2) ((2 ^ i1) + i2) (f_X3_further nl ho sn tl td ((f_X3_follow_55_Ye nl ho sn tl td i1 sect ((f_X3_follow_38_Ye nl ho sn tl td sect (upd en 0 li) i1)) i2) i2) (nI (i1 + 1)) ((1 : Int32) <<< (sect &&& 31)))) i2 (f_X3_further nl ho sn tl td ((upd (f_X3_follow_55_Ye nl ho sn tl td i1 sect ((f_X3_follow_38_Ye nl ho sn tl td sect (upd en 0 li) i1)) i2) ((2 ^ i1) + i2) (f_X3_further nl ho sn tl td ((f_X3_follow_55_Ye nl ho sn tl td i1 sect ((f_X3_follow_38_Ye nl ho sn tl td sect (upd en 0 li) i1)) i2) i2) (nI (i1 + 1)) ((1 : Int32) <<< (sect &&& 31)))) i2) (nI (i1 + 1)) 0))))] H := hP
            have hD : va_D A [(aL, .inr (1, [.ref aLk, .ref aLh, .ref aLs, .int (nI nl)])), (aLh, .inl (cI, 6, .inl ho)), (aLs, .inl (cI, 6, .inl sn)), (aE, .inr (0, [.int li, .int mi, .int (nI pe), .ref aEs, .ref aEw, .ref aEd, .int to, .ref aEl, .ref aEt])), (aEl, .inl (cI, 7, .inl tl)), (aEt, .inl (cI, 7, .inl td)), (aY, .inr (3, [.ref aYe, .int (nI (2 ^ i1))])), (aYe, .inl (cI, 64, .inl (upd (upd (f_X3_follow_55_Ye nl ho sn tl td i1 sect ((f_X3_follow_38_Ye nl ho sn tl td sect (upd en 0 li) i1)) i2) ((2 ^ i1) + i2) (f_X3_further nl ho sn tl td ((f_X3_follow_55_Ye nl ho sn tl td i1 sect ((f_X3_follow_38_Ye nl ho sn tl td sect (upd en 0 li) i1)) i2) i2) (nI (i1 + 1)) ((1 : Int32) <<< (sect &&& 31)))) i2 (f_X3_further nl ho sn tl td ((upd (f_X3_follow_55_Ye nl ho sn tl td i1 sect ((f_X3_follow_38_Ye nl ho sn tl td sect (upd en 0 li) i1)) i2) ((2 ^ i1) + i2) (f_X3_further nl ho sn tl td ((f_X3_follow_55_Ye nl ho sn tl td i1 sect ((f_X3_follow_38_Ye nl ho sn tl td sect (upd en 0 li) i1)) i2) i2) (nI (i1 + 1)) ((1 : Int32) <<< (sect &&& 31)))) i2) (nI (i1 + 1)) 0))))] := hD
            refine lv_iinc (v := nI (i2 + 1)) (lv' := [(6, .int (nI (i2 + 1))), (0, .ref aY), (1, .ref aL), (2, .ref aE), (3, .int sect), (4, .int (nI mm)), (5, .int (nI (i1 + 1)))]) hx hb dX3_follow_115 hl (k := 6) rfl (nI_add i2 1) (by decide) rfl (fun ls hl => ?_)
            refine lv_goto (tgt := 55) hx hb dX3_follow_118 (by decide) ?_
            have e_Ye : (f_X3_follow_55_Ye nl ho sn tl td i1 sect ((f_X3_follow_38_Ye nl ho sn tl td sect (upd en 0 li) i1)) (i2 + 1)) = (upd (upd (f_X3_follow_55_Ye nl ho sn tl td i1 sect ((f_X3_follow_38_Ye nl ho sn tl td sect (upd en 0 li) i1)) i2) ((2 ^ i1) + i2) (f_X3_further nl ho sn tl td ((f_X3_follow_55_Ye nl ho sn tl td i1 sect ((f_X3_follow_38_Ye nl ho sn tl td sect (upd en 0 li) i1)) i2) i2) (nI (i1 + 1)) ((1 : Int32) <<< (sect &&& 31)))) i2 (f_X3_further nl ho sn tl td ((upd (f_X3_follow_55_Ye nl ho sn tl td i1 sect ((f_X3_follow_38_Ye nl ho sn tl td sect (upd en 0 li) i1)) i2) ((2 ^ i1) + i2) (f_X3_further nl ho sn tl td ((f_X3_follow_55_Ye nl ho sn tl td i1 sect ((f_X3_follow_38_Ye nl ho sn tl td sect (upd en 0 li) i1)) i2) i2) (nI (i1 + 1)) ((1 : Int32) <<< (sect &&& 31)))) i2) (nI (i1 + 1)) 0)) := (by simp only [f_X3_follow_55_Ye])
            exact ih55 (i2 + 1) (by omega) _ _ (by rw [e_Ye]; exact hP) (by rw [e_Ye]; exact hD) hS ls (lv_sub hl [1, 2, 3, 4, 5, 6, 0] rfl)
        exact lp55 (2 ^ i1) 0 (by omega) _ _ hP hD hS ls (lv_sub hl [1, 2, 3, 4, 5, 6, 0] rfl)
    exact lp38 mm 0 (by omega) _ _ hP hD hS ls (lv_sub hl [1, 2, 3, 4, 5, 0] rfl)
