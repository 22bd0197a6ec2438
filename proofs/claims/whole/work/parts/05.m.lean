theorem vin_row {x : Int32} (h : vp_in x 6) : vp_in (3 * x + 2) 18 := by
  obtain ⟨j, hj, rfl⟩ := vp_in_of h (by decide)
  rw [show (3 * nI j + 2 : Int32) = nI (3 * j + 2) from ix_add (ix_mul rfl rfl) rfl]
  exact vp_in_nI (by omega) (by decide)

def rm_X5_in : Room := { frames := 0, cells := 0, slots := 0, locals := 0 }
def f_X5_in (va : Int64) (vb : Int64) (vc : Int64) : Int32 := (if (lg_cmp va vb) < 0 then 0 else (if 0 < (lg_cmp va vc) then 0 else 1))
theorem hd_X5_in : yX5_in.cls ≠ "java/lang/invoke/MethodHandle" ∧ yX5_in.cls ≠ "java/lang/invoke/VarHandle" ∧ (parseMethodDescriptor yX5_in.desc).map (fun d => d.parameters.length) = some 3 := by decide +kernel
set_option maxHeartbeats 4000000 in
set_option maxRecDepth 100000 in
theorem c_X5_in (l : Launch) (D : va_G) (cI : ClassId) (va : Int64) (vb : Int64) (vc : Int64) : MetR l yX5_in wsX5_in rm_X5_in D cI [.long va, .long vb, .long vc] [] (some (.int (f_X5_in va vb vc))) := by
  refine mR (cc := cX5_in) (maxL := 6) (ret := (some .boolean)) (by decide) rfl (Nat.le_of_ble_eq_true rfl) ?_
  intro p e s m args below meth c Q hx hb hr hml hown hts hlk hP hK hQ ls hl
  have hown : s.vm.findClass RX5 = some m.cls := hown
  have hl : lv_has ls 6 [(0, .long va), (2, .long vb), (4, .long vc)] := hl
  refine lv_lload_n hx hb dX5_in_0 rfl (lv_at hl 0 rfl) ?_
  refine lv_lload_n hx hb dX5_in_1 rfl (lv_at hl 1 rfl) ?_
  refine W.lcmp hx hb dX5_in_2 ?_
  refine lv_if_lt (tgt := 17) hx hb dX5_in_3 (by decide) (fun c1 => ?_) (fun c1 => ?_)
  · refine lv_iconst (v := 0) hx hb dX5_in_17 (by decide) ?_
    exact eRz hx hb hr hlk hQ dX5_in_18 rfl (Eq.symm (by simp only [f_X5_in, if_pos c1]))
  · refine lv_lload_n hx hb dX5_in_6 rfl (lv_at hl 0 rfl) ?_
    refine lv_lload hx hb dX5_in_7 (lv_at hl 2 rfl) ?_
    refine W.lcmp hx hb dX5_in_9 ?_
    refine lv_if_gt (tgt := 17) hx hb dX5_in_10 (by decide) (fun c2 => ?_) (fun c2 => ?_)
    · refine lv_iconst (v := 0) hx hb dX5_in_17 (by decide) ?_
      exact eRz hx hb hr hlk hQ dX5_in_18 rfl (Eq.symm (by simp only [f_X5_in, if_neg c1, if_pos c2]))
    · refine lv_iconst (v := 1) hx hb dX5_in_13 (by decide) ?_
      refine lv_goto (tgt := 18) hx hb dX5_in_14 (by decide) ?_
      exact eRz hx hb hr hlk hQ dX5_in_18 rfl (Eq.symm (by simp only [f_X5_in, if_neg c1, if_neg c2]))

theorem in_lcmp (x y : Int64) : (lg_cmp x y < 0 ↔ x < y) ∧ (0 < lg_cmp x y ↔ y < x) := by
  unfold lg_cmp
  by_cases h1 : y < x
  · rw [if_pos h1]
    exact ⟨⟨fun h => absurd h (by decide), fun h => absurd h (Int64.lt_asymm h1)⟩, ⟨fun _ => h1, fun _ => by decide⟩⟩
  · rw [if_neg h1]
    by_cases h2 : x = y
    · rw [if_pos h2]
      exact ⟨⟨fun h => absurd h (by decide), fun h => absurd (h2 ▸ h) (Int64.lt_irrefl)⟩, ⟨fun h => absurd h (by decide), fun h => absurd h h1⟩⟩
    · rw [if_neg h2]
      refine ⟨⟨fun _ => ?_, fun _ => by decide⟩, ⟨fun h => absurd h (by decide), fun h => absurd h h1⟩⟩
      exact Int64.lt_of_le_of_ne (Int64.not_lt.mp h1) h2
theorem in_spec {v lo hi : Int64} : (¬ f_X5_in v lo hi = 0) ↔ (¬ v < lo ∧ ¬ hi < v) := by
  unfold f_X5_in
  by_cases h1 : lg_cmp v lo < 0
  · rw [if_pos h1]; exact ⟨fun h => absurd rfl h, fun h => absurd ((in_lcmp v lo).1.mp h1) h.1⟩
  · rw [if_neg h1]
    by_cases h2 : 0 < lg_cmp v hi
    · rw [if_pos h2]; exact ⟨fun h => absurd rfl h, fun h => absurd ((in_lcmp v hi).2.mp h2) h.2⟩
    · rw [if_neg h2]; exact ⟨fun _ => ⟨fun h => h1 ((in_lcmp v lo).1.mpr h), fun h => h2 ((in_lcmp v hi).2.mpr h)⟩, fun _ => by decide⟩
theorem wide_lt (a b : Int32) : a.toInt64 < b.toInt64 ↔ a < b := by
  rw [Int64.lt_iff_toInt_lt, Int32.lt_iff_toInt_lt, Int32.toInt_toInt64, Int32.toInt_toInt64]
theorem in_i {v lo hi : Int32} : (¬ f_X5_in v.toInt64 lo.toInt64 hi.toInt64 = 0) ↔ (¬ v < lo ∧ ¬ hi < v) := by
  rw [in_spec, wide_lt, wide_lt]
/-- between two Nats -/
theorem in_nat {v : Int32} {lo hi : Int64} {a b : Nat} (hl : lo = (nI a).toInt64) (hh : hi = (nI b).toInt64) (ha : a < 2 ^ 31) (hb : b < 2 ^ 31) (h : ¬ f_X5_in v.toInt64 lo hi = 0) : v = nI v.toNatClampNeg ∧ a ≤ v.toNatClampNeg ∧ v.toNatClampNeg ≤ b := by
  subst hl; subst hh
  obtain ⟨h1, h2⟩ := in_i.mp h
  have e := nI_self (B := nI a) (by rw [nI_toInt ha]; omega) h1
  have hb2 := nI_bd (B := nI b) rfl hb e h2
  refine ⟨e, ?_, hb2⟩
  rw [e] at h1
  exact nlt_e rfl rfl (by omega) ha h1

def rm_X5_copy : Room := { frames := 0, cells := 0, slots := 0, locals := 0 }
def f_X5_copy_2_G (fr : Nat → Int32) (gr : Nat → Int32) : Nat → (Nat → Int32)
  | 0 => gr
  | i1 + 1 => (upd (f_X5_copy_2_G fr gr i1) i1 (fr i1))
def f_X5_copy_G (fr : Nat → Int32) (gr : Nat → Int32) (fl : Nat) : Nat → Int32 := (f_X5_copy_2_G fr gr fl)
theorem hd_X5_copy : yX5_copy.cls ≠ "java/lang/invoke/MethodHandle" ∧ yX5_copy.cls ≠ "java/lang/invoke/VarHandle" ∧ (parseMethodDescriptor yX5_copy.desc).map (fun d => d.parameters.length) = some 2 := by decide +kernel
set_option maxHeartbeats 4000000 in
set_option maxRecDepth 100000 in
theorem c_X5_copy (l : Launch) (D : va_G) (cI : ClassId) (aF aG : Nat) (fr : Nat → Int32) (gr : Nat → Int32) (fl : Nat) (gl : Nat) (hfg : fl ≤ gl) (hgl : gl ≤ 24) : MetX l yX5_copy wsX5_copy rm_X5_copy D cI [.ref aF, .ref aG] [(aF, .inl (cI, fl, .inl fr)), (aG, .inl (cI, gl, .inl gr))] none [(aF, .inl (cI, fl, .inl fr)), (aG, .inl (cI, gl, .inl (f_X5_copy_G fr gr fl)))] := by
  refine mX (cc := cX5_copy) (maxL := 3) (ret := none) (by decide) rfl (Nat.le_of_ble_eq_true rfl) ?_
  intro p e s m args below meth c Q A hx hb hr hml hown hts hlk hP hK hD hA hS hQ ls hl
  have hown : s.vm.findClass RX5 = some m.cls := hown
  have hl : lv_has ls 3 [(0, .ref aF), (1, .ref aG)] := hl
  refine lv_iconst (v := 0) hx hb dX5_copy_0 (by decide) ?_
  refine lv_istore_n (lv' := [(2, .int 0), (0, .ref aF), (1, .ref aG)]) hx hb dX5_copy_1 rfl hl (by decide) rfl (fun ls hl => ?_)
  have lp2 : ∀ (k2 i1 : Nat), i1 + k2 = fl → ∀ (H : Heap) (locs : List Loc), va_P D vwCl [(aF, .inl (cI, fl, .inl fr)), (aG, .inl (cI, gl, .inl ((f_X5_copy_2_G fr gr i1))))] H → va_D A [(aF, .inl (cI, fl, .inl fr)), (aG, .inl (cI, gl, .inl ((f_X5_copy_2_G fr gr i1))))] → va_S A s.heap H locs → ∀ ls : Array Slot, lv_has ls 3 [(0, .ref aF), (1, .ref aG), (2, .int (nI i1))] → W p l e rm_X5_copy s m args below meth c H locs 0 0 Q (F0 m 2 ls []) := by
    intro k2
    induction k2 with
    | zero =>
      intro i1 hk2 H locs hP hD hS ls hl
      have hN2 : fl = i1 := by omega
      subst hN2
      refine lv_iload_n hx hb dX5_copy_2 rfl (lv_at hl 2 rfl) ?_
      refine lv_aload_n hx hb dX5_copy_3 rfl (lv_at hl 0 rfl) ?_
      refine va_alen (v := nI fl) hx hb hK hP 0 0 rfl rfl rfl dX5_copy_4 ?_
      refine lv_icmp_ge (tgt := 20) hx hb dX5_copy_5 (by decide) (fun _ => ?_) (fun c => absurd (nle_t (a := fl) (b := fl) rfl rfl (by omega) (by omega) (by omega)) c)
      have e_G : (f_X5_copy_G fr gr fl) = (f_X5_copy_2_G fr gr fl) := (by simp only [f_X5_copy_G])
      exact eXv hx hb hr hlk hQ (by rw [e_G]; exact hP) (by rw [e_G]; exact hD) hS dX5_copy_20
    | succ k2 ih2 =>
      intro i1 hk2 H locs hP hD hS ls hl
      refine lv_iload_n hx hb dX5_copy_2 rfl (lv_at hl 2 rfl) ?_
      refine lv_aload_n hx hb dX5_copy_3 rfl (lv_at hl 0 rfl) ?_
      refine va_alen (v := nI fl) hx hb hK hP 0 0 rfl rfl rfl dX5_copy_4 ?_
      refine lv_icmp_ge (tgt := 20) hx hb dX5_copy_5 (by decide) (fun c => absurd c (nle_f (a := fl) (b := i1) rfl rfl (by omega) (by omega) (by omega))) (fun _ => ?_)
      refine lv_aload_n hx hb dX5_copy_8 rfl (lv_at hl 1 rfl) ?_
      refine lv_iload_n hx hb dX5_copy_9 rfl (lv_at hl 2 rfl) ?_
      refine lv_aload_n hx hb dX5_copy_10 rfl (lv_at hl 0 rfl) ?_
      refine lv_iload_n hx hb dX5_copy_11 rfl (lv_at hl 2 rfl) ?_
      refine xald hx hb hK hP 0 rfl i1 rfl (by omega) (by omega) dX5_copy_12 ?_
      refine xast hx hb hK hP hD hS 1 rfl i1 rfl (by omega) (by omega) dX5_copy_13 (fun H locs hP hD hS => ?_)
      have hP : va_P D vwCl [(aF, .inl (cI, fl, .inl fr)), (aG, .inl (cI, gl, .inl (upd (f_X5_copy_2_G fr gr i1) i1 (fr i1))))] H := hP
      have hD : va_D A [(aF, .inl (cI, fl, .inl fr)), (aG, .inl (cI, gl, .inl (upd (f_X5_copy_2_G fr gr i1) i1 (fr i1))))] := hD
      refine lv_iinc (v := nI (i1 + 1)) (lv' := [(2, .int (nI (i1 + 1))), (0, .ref aF), (1, .ref aG)]) hx hb dX5_copy_14 hl (k := 2) rfl (nI_add i1 1) (by decide) rfl (fun ls hl => ?_)
      refine lv_goto (tgt := 2) hx hb dX5_copy_17 (by decide) ?_
      have e_G : (f_X5_copy_2_G fr gr (i1 + 1)) = (upd (f_X5_copy_2_G fr gr i1) i1 (fr i1)) := (by simp only [f_X5_copy_2_G])
      exact ih2 (i1 + 1) (by omega) _ _ (by rw [e_G]; exact hP) (by rw [e_G]; exact hD) hS ls (lv_sub hl [1, 2, 0] rfl)
  exact lp2 fl 0 (by omega) _ _ hP hD hS ls (lv_sub hl [1, 2, 0] rfl)

def rm_X5_ones : Room := { frames := 0, cells := 0, slots := 0, locals := 0 }
def f_X5_ones_4_v1 (set : Int32) : Nat → Int32
  | 0 => 0
  | i1 + 1 => ((f_X5_ones_4_v1 set i1) + ((set >>> (nI i1 &&& 31)) &&& 1))
def f_X5_ones (set : Int32) : Int32 := (f_X5_ones_4_v1 set 8)
theorem hd_X5_ones : yX5_ones.cls ≠ "java/lang/invoke/MethodHandle" ∧ yX5_ones.cls ≠ "java/lang/invoke/VarHandle" ∧ (parseMethodDescriptor yX5_ones.desc).map (fun d => d.parameters.length) = some 1 := by decide +kernel
set_option maxHeartbeats 4000000 in
set_option maxRecDepth 100000 in
theorem c_X5_ones (l : Launch) (D : va_G) (cI : ClassId) (set : Int32) : MetR l yX5_ones wsX5_ones rm_X5_ones D cI [.int set] [] (some (.int (f_X5_ones set))) := by
  refine mR (cc := cX5_ones) (maxL := 3) (ret := (some .int)) (by decide) rfl (Nat.le_of_ble_eq_true rfl) ?_
  intro p e s m args below meth c Q hx hb hr hml hown hts hlk hP hK hQ ls hl
  have hown : s.vm.findClass RX5 = some m.cls := hown
  have hl : lv_has ls 3 [(0, .int set)] := hl
  refine lv_iconst (v := 0) hx hb dX5_ones_0 (by decide) ?_
  refine lv_istore_n (lv' := [(1, .int 0), (0, .int set)]) hx hb dX5_ones_1 rfl hl (by decide) rfl (fun ls hl => ?_)
  refine lv_iconst (v := 0) hx hb dX5_ones_2 (by decide) ?_
  refine lv_istore_n (lv' := [(2, .int 0), (1, .int 0), (0, .int set)]) hx hb dX5_ones_3 rfl hl (by decide) rfl (fun ls hl => ?_)
  have lp4 : ∀ (k4 i1 : Nat), i1 + k4 = 8 → ∀ ls : Array Slot, lv_has ls 3 [(0, .int set), (1, .int ((f_X5_ones_4_v1 set i1))), (2, .int (nI i1))] → W p l e rm_X5_ones s m args below meth c s.heap [] 0 0 Q (F0 m 4 ls []) := by
    intro k4
    induction k4 with
    | zero =>
      intro i1 hk4 ls hl
      have hN4 : 8 = i1 := by omega
      subst hN4
      refine lv_iload_n hx hb dX5_ones_4 rfl (lv_at hl 2 rfl) ?_
      refine lv_bipush (v := 8) hx hb dX5_ones_5 (by decide) ?_
      refine lv_icmp_ge (tgt := 24) hx hb dX5_ones_7 (by decide) (fun _ => ?_) (fun c => absurd (nle_t (a := 8) (b := 8) rfl rfl (by omega) (by omega) (by omega)) c)
      refine lv_iload_n hx hb dX5_ones_24 rfl (lv_at hl 1 rfl) ?_
      exact eRi hx hb hr hlk hQ dX5_ones_25 (Eq.symm (by simp only [f_X5_ones]))
    | succ k4 ih4 =>
      intro i1 hk4 ls hl
      refine lv_iload_n hx hb dX5_ones_4 rfl (lv_at hl 2 rfl) ?_
      refine lv_bipush (v := 8) hx hb dX5_ones_5 (by decide) ?_
      refine lv_icmp_ge (tgt := 24) hx hb dX5_ones_7 (by decide) (fun c => absurd c (nle_f (a := 8) (b := i1) rfl rfl (by omega) (by omega) (by omega))) (fun _ => ?_)
      refine lv_iload_n hx hb dX5_ones_10 rfl (lv_at hl 1 rfl) ?_
      refine lv_iload_n hx hb dX5_ones_11 rfl (lv_at hl 0 rfl) ?_
      refine lv_iload_n hx hb dX5_ones_12 rfl (lv_at hl 2 rfl) ?_
      refine lv_ishr hx hb dX5_ones_13 ?_
      refine lv_iconst (v := 1) hx hb dX5_ones_14 (by decide) ?_
      refine lv_iand hx hb dX5_ones_15 ?_
      refine lv_iadd hx hb dX5_ones_16 ?_
      refine lv_istore_n (lv' := [(1, .int ((f_X5_ones_4_v1 set i1) + ((set >>> (nI i1 &&& 31)) &&& 1))), (0, .int set), (2, .int (nI i1))]) hx hb dX5_ones_17 rfl hl (by decide) rfl (fun ls hl => ?_)
      refine lv_iinc (v := nI (i1 + 1)) (lv' := [(2, .int (nI (i1 + 1))), (1, .int ((f_X5_ones_4_v1 set i1) + ((set >>> (nI i1 &&& 31)) &&& 1))), (0, .int set)]) hx hb dX5_ones_18 hl (k := 2) rfl (nI_add i1 1) (by decide) rfl (fun ls hl => ?_)
      refine lv_goto (tgt := 4) hx hb dX5_ones_21 (by decide) ?_
      have e_v1 : (f_X5_ones_4_v1 set (i1 + 1)) = ((f_X5_ones_4_v1 set i1) + ((set >>> (nI i1 &&& 31)) &&& 1)) := (by simp only [f_X5_ones_4_v1])
      exact ih4 (i1 + 1) (by omega) ls (by rw [e_v1]; exact lv_sub hl [2, 1, 0] rfl)
  exact lp4 8 0 (by omega) ls (lv_sub hl [2, 1, 0] rfl)

def rm_X5_letter : Room := { frames := 1, cells := 0, slots := 0, locals := 25 }
def f_X5_letter (pl : Nat) (code : Int32) : Int32 := (if (f_X5_in (code.toInt64) 1 126) = 0 then (-102) else (if nI pl = 20 then (-104) else (nI pl + 1)))
def f_X5_letter_M_1 (pl : Nat) (code : Int32) : Int32 := (if (f_X5_in (code.toInt64) 1 126) = 0 then nI pl else (if nI pl = 20 then nI pl else (nI pl + 1)))
def f_X5_letter_Mp (pl : Nat) (co : Nat → Int32) (code : Int32) : Nat → Int32 := (if (f_X5_in (code.toInt64) 1 126) = 0 then co else (if nI pl = 20 then co else (upd co pl code)))
theorem hd_X5_letter : yX5_letter.cls = RX5 ∧ yX5_letter.cls ≠ "java/lang/invoke/MethodHandle" ∧ yX5_letter.cls ≠ "java/lang/invoke/VarHandle" ∧ (parseMethodDescriptor yX5_letter.desc).map (fun d => d.parameters.length) = some 1 := by decide +kernel
set_option maxHeartbeats 4000000 in
set_option maxRecDepth 100000 in
theorem c_X5_letter (l : Launch) (D : va_G) (cI : ClassId) (aM aMp aMr aMs aMl aMg aMb aMo aMkr aMks aMkb : Nat) (ofr : Int32) (rd : Int32) (pl : Nat) (co : Nat → Int32) (nl : Nat) (mi : Int32) (pe : Nat) (kmi : Int32) (kpe : Int32) (bc : Int32) (bk : Nat) (sd : Int32) (ko : Int32) (kbk : Int32) (ha : Int64) (code : Int32) (hpl : pl ≤ 20) : MetX l yX5_letter wsX5_letter rm_X5_letter D cI [.ref aM, .int code] [(aM, .inr (5, [.ref aMp, .int (nI pl), .int (nI nl), .int mi, .int ofr, .ref aMr, .int (nI pe), .ref aMs, .ref aMl, .int bc, .int rd, .ref aMg, .ref aMb, .int (nI bk), .ref aMo, .int sd, .int ko, .int kpe, .int kmi, .int kbk, .ref aMkr, .ref aMks, .ref aMkb, .long ha])), (aMp, .inl (cI, 20, .inl co))] (some (.int (f_X5_letter pl code))) [(aM, .inr (5, [.ref aMp, .int (f_X5_letter_M_1 pl code), .int (nI nl), .int mi, .int ofr, .ref aMr, .int (nI pe), .ref aMs, .ref aMl, .int bc, .int rd, .ref aMg, .ref aMb, .int (nI bk), .ref aMo, .int sd, .int ko, .int kpe, .int kmi, .int kbk, .ref aMkr, .ref aMks, .ref aMkb, .long ha])), (aMp, .inl (cI, 20, .inl (f_X5_letter_Mp pl co code)))] := by
  refine mX (cc := cX5_letter) (maxL := 2) (ret := (some .int)) (by decide) rfl (Nat.le_of_ble_eq_true rfl) ?_
  intro p e s m args below meth c Q A hx hb hr hml hown hts hlk hP hK hD hA hS hQ ls hl
  have hown : s.vm.findClass RX5 = some m.cls := hown
  have hl : lv_has ls 2 [(0, .ref aM), (1, .int code)] := hl
  have w1 := hts (.constantLong RX5 44 (126)) (List.mem_of_getElem? (i := 1) rfl)
  have w2 := hts (.fieldLink RX5 50 "DarkOfficeModel" "pageMany" "I") (List.mem_of_getElem? (i := 2) rfl)
  have uX5 : ∀ w ∈ wsX50, w ∈ wsX5_letter := fun _ h => List.mem_cons_of_mem _ (List.mem_append_right _ h)
  have w3 := hts (.fieldLink RX5 7 "DarkOfficeModel" "page" "[I") (List.mem_of_getElem? (i := 3) rfl)
  refine lv_iload_n hx hb dX5_letter_0 rfl (lv_at hl 1 rfl) ?_
  refine lv_i2l (v := code.toInt64) hx hb dX5_letter_1 rfl ?_
  refine lv_lconst (v := 1) hx hb dX5_letter_2 (by decide) ?_
  refine lv_ldc2 (v := 126) hx hb hown w1 dX5_letter_3 ?_
  refine rS ⟨hx, hb, hml, hown, hts⟩ (c_X5_in l D cI (code.toInt64) 1 126) (va_cwS 3 hts gX5_letter_X5_in rfl rfl rfl hd_X5_in ⟨Nat.le_of_ble_eq_true rfl, Nat.le_of_ble_eq_true rfl⟩) hK (hP.sub [] rfl) rfl hl.1 (rest := []) (st' := [.int (f_X5_in (code.toInt64) 1 126)]) rfl rfl (Nat.le_of_ble_eq_true rfl) dX5_letter_6 ⟨Nat.zero_le _, Nat.zero_le _⟩ ?_
  refine lv_if_ne (tgt := 15) hx hb dX5_letter_9 (by decide) (fun c1 => ?_) (fun c1 => ?_)
  · refine lv_aload_n hx hb dX5_letter_15 rfl (lv_at hl 0 rfl) ?_
    refine va_get (D := D) (ci := 5) (v := .int (nI pl)) (C := RX5) (T := TX5) (N := 24) hx hb hts uX5 hown hK hP 0 rfl rfl 1 (by decide) w2 (fun _ h9 => h9) rfl dX5_letter_16 ?_
    refine lv_bipush (v := 20) hx hb dX5_letter_19 (by decide) ?_
    refine lv_icmp_ne (tgt := 27) hx hb dX5_letter_21 (by decide) (fun c2 => ?_) (fun c2 => ?_)
    · have q2 : ¬ pl = 20 := neq_e (a := pl) (b := 20) rfl rfl (by omega) (by omega) c2
      refine lv_aload_n hx hb dX5_letter_27 rfl (lv_at hl 0 rfl) ?_
      refine va_get (D := D) (ci := 5) (v := .ref aMp) (C := RX5) (T := TX5) (N := 24) hx hb hts uX5 hown hK hP 0 rfl rfl 0 (by decide) w3 (fun _ h9 => h9) rfl dX5_letter_28 ?_
      refine lv_aload_n hx hb dX5_letter_31 rfl (lv_at hl 0 rfl) ?_
      refine va_get (D := D) (ci := 5) (v := .int (nI pl)) (C := RX5) (T := TX5) (N := 24) hx hb hts uX5 hown hK hP 0 rfl rfl 1 (by decide) w2 (fun _ h9 => h9) rfl dX5_letter_32 ?_
      refine lv_iload_n hx hb dX5_letter_35 rfl (lv_at hl 1 rfl) ?_
      refine xast hx hb hK hP hD hS 1 rfl pl rfl (by omega) (by decide) dX5_letter_36 (fun H locs hP hD hS => ?_)
      have hP : va_P D vwCl [(aM, .inr (5, [.ref aMp, .int (nI pl), .int (nI nl), .int mi, .int ofr, .ref aMr, .int (nI pe), .ref aMs, .ref aMl, .int bc, .int rd, .ref aMg, .ref aMb, .int (nI bk), .ref aMo, .int sd, .int ko, .int kpe, .int kmi, .int kbk, .ref aMkr, .ref aMks, .ref aMkb, .long ha])), (aMp, .inl (cI, 20, .inl (upd co pl code)))] H := hP
      have hD : va_D A [(aM, .inr (5, [.ref aMp, .int (nI pl), .int (nI nl), .int mi, .int ofr, .ref aMr, .int (nI pe), .ref aMs, .ref aMl, .int bc, .int rd, .ref aMg, .ref aMb, .int (nI bk), .ref aMo, .int sd, .int ko, .int kpe, .int kmi, .int kbk, .ref aMkr, .ref aMks, .ref aMkb, .long ha])), (aMp, .inl (cI, 20, .inl (upd co pl code)))] := hD
      refine lv_aload_n hx hb dX5_letter_37 rfl (lv_at hl 0 rfl) ?_
      refine lv_dup hx hb dX5_letter_38 rfl ?_
      refine va_get (D := D) (ci := 5) (v := .int (nI pl)) (C := RX5) (T := TX5) (N := 24) hx hb hts uX5 hown hK hP 0 rfl rfl 1 (by decide) w2 (fun _ h9 => h9) rfl dX5_letter_39 ?_
      refine lv_iconst (v := 1) hx hb dX5_letter_42 (by decide) ?_
      refine lv_iadd hx hb dX5_letter_43 ?_
      refine va_put (D := D) (ci := 5) (v := .int (nI pl + 1)) (ty := .int) (C := RX5) (T := TX5) (N := 24) hx hb hts uX5 tyX5 tyX5_ok nmX5 hown hK hP hD hS 0 rfl rfl 1 (by decide) w2 (fun _ h9 => h9) rfl (by decide +kernel) rfl rfl (Nat.le_of_ble_eq_true rfl) dX5_letter_44 (fun H locs hP hD hS => ?_)
      have hP : va_P D vwCl [(aM, .inr (5, [.ref aMp, .int (nI pl + 1), .int (nI nl), .int mi, .int ofr, .ref aMr, .int (nI pe), .ref aMs, .ref aMl, .int bc, .int rd, .ref aMg, .ref aMb, .int (nI bk), .ref aMo, .int sd, .int ko, .int kpe, .int kmi, .int kbk, .ref aMkr, .ref aMks, .ref aMkb, .long ha])), (aMp, .inl (cI, 20, .inl (upd co pl code)))] H := hP
      have hD : va_D A [(aM, .inr (5, [.ref aMp, .int (nI pl + 1), .int (nI nl), .int mi, .int ofr, .ref aMr, .int (nI pe), .ref aMs, .ref aMl, .int bc, .int rd, .ref aMg, .ref aMb, .int (nI bk), .ref aMo, .int sd, .int ko, .int kpe, .int kmi, .int kbk, .ref aMkr, .ref aMks, .ref aMkb, .long ha])), (aMp, .inl (cI, 20, .inl (upd co pl code)))] := hD
      refine lv_aload_n hx hb dX5_letter_47 rfl (lv_at hl 0 rfl) ?_
      refine va_get (D := D) (ci := 5) (v := .int (nI pl + 1)) (C := RX5) (T := TX5) (N := 24) hx hb hts uX5 hown hK hP 0 rfl rfl 1 (by decide) w2 (fun _ h9 => h9) rfl dX5_letter_48 ?_
      have e_M_1 : (f_X5_letter_M_1 pl code) = (nI pl + 1) := (by simp only [f_X5_letter_M_1, if_neg c1, if_neg c2])
      have e_Mp : (f_X5_letter_Mp pl co code) = (upd co pl code) := (by simp only [f_X5_letter_Mp, if_neg c1, if_neg c2])
      exact eXi hx hb hr hlk hQ (by rw [e_M_1, e_Mp]; exact hP) (by rw [e_M_1, e_Mp]; exact hD) hS dX5_letter_51 (Eq.symm (by simp only [f_X5_letter, if_neg c1, if_neg c2]))
    · have q2 : pl = 20 := neq_d (a := pl) (b := 20) rfl rfl (by omega) (by omega) c2
      refine lv_bipush (v := (-104)) hx hb dX5_letter_24 (by decide) ?_
      have e_M_1 : (f_X5_letter_M_1 pl code) = nI pl := (by simp only [f_X5_letter_M_1, if_neg c1, if_pos c2])
      have e_Mp : (f_X5_letter_Mp pl co code) = co := (by simp only [f_X5_letter_Mp, if_neg c1, if_pos c2])
      exact eXi hx hb hr hlk hQ (by rw [e_M_1, e_Mp]; exact hP) (by rw [e_M_1, e_Mp]; exact hD) hS dX5_letter_26 (Eq.symm (by simp only [f_X5_letter, if_neg c1, if_pos c2]))
  · refine lv_bipush (v := (-102)) hx hb dX5_letter_12 (by decide) ?_
    have e_M_1 : (f_X5_letter_M_1 pl code) = nI pl := (by simp only [f_X5_letter_M_1, if_pos c1])
    have e_Mp : (f_X5_letter_Mp pl co code) = co := (by simp only [f_X5_letter_Mp, if_pos c1])
    exact eXi hx hb hr hlk hQ (by rw [e_M_1, e_Mp]; exact hP) (by rw [e_M_1, e_Mp]; exact hD) hS dX5_letter_14 (Eq.symm (by simp only [f_X5_letter, if_pos c1]))

def rm_X5_blank : Room := { frames := 0, cells := 0, slots := 0, locals := 0 }
def f_X5_blank (pl : Nat) : Int32 := nI pl
theorem hd_X5_blank : yX5_blank.cls = RX5 ∧ yX5_blank.cls ≠ "java/lang/invoke/MethodHandle" ∧ yX5_blank.cls ≠ "java/lang/invoke/VarHandle" ∧ (parseMethodDescriptor yX5_blank.desc).map (fun d => d.parameters.length) = some 0 := by decide +kernel
set_option maxHeartbeats 4000000 in
set_option maxRecDepth 100000 in
theorem c_X5_blank (l : Launch) (D : va_G) (cI : ClassId) (aM aMp aMr aMs aMl aMg aMb aMo aMkr aMks aMkb : Nat) (ofr : Int32) (rd : Int32) (pl : Nat) (nl : Nat) (mi : Int32) (pe : Nat) (kmi : Int32) (kpe : Int32) (bc : Int32) (bk : Nat) (sd : Int32) (ko : Int32) (kbk : Int32) (ha : Int64) : MetX l yX5_blank wsX5_blank rm_X5_blank D cI [.ref aM] [(aM, .inr (5, [.ref aMp, .int (nI pl), .int (nI nl), .int mi, .int ofr, .ref aMr, .int (nI pe), .ref aMs, .ref aMl, .int bc, .int rd, .ref aMg, .ref aMb, .int (nI bk), .ref aMo, .int sd, .int ko, .int kpe, .int kmi, .int kbk, .ref aMkr, .ref aMks, .ref aMkb, .long ha]))] (some (.int (f_X5_blank pl))) [(aM, .inr (5, [.ref aMp, .int 0, .int (nI nl), .int mi, .int ofr, .ref aMr, .int (nI pe), .ref aMs, .ref aMl, .int bc, .int rd, .ref aMg, .ref aMb, .int (nI bk), .ref aMo, .int sd, .int ko, .int kpe, .int kmi, .int kbk, .ref aMkr, .ref aMks, .ref aMkb, .long ha]))] := by
  refine mX (cc := cX5_blank) (maxL := 2) (ret := (some .int)) (by decide) rfl (Nat.le_of_ble_eq_true rfl) ?_
  intro p e s m args below meth c Q A hx hb hr hml hown hts hlk hP hK hD hA hS hQ ls hl
  have hown : s.vm.findClass RX5 = some m.cls := hown
  have hl : lv_has ls 2 [(0, .ref aM)] := hl
  have w1 := hts (.fieldLink RX5 50 "DarkOfficeModel" "pageMany" "I") (List.mem_of_getElem? (i := 1) rfl)
  have uX5 : ∀ w ∈ wsX50, w ∈ wsX5_blank := fun _ h => List.mem_cons_of_mem _ (List.mem_append_right _ h)
  refine lv_aload_n hx hb dX5_blank_0 rfl (lv_at hl 0 rfl) ?_
  refine va_get (D := D) (ci := 5) (v := .int (nI pl)) (C := RX5) (T := TX5) (N := 24) hx hb hts uX5 hown hK hP 0 rfl rfl 1 (by decide) w1 (fun _ h9 => h9) rfl dX5_blank_1 ?_
  refine lv_istore_n (lv' := [(1, .int (nI pl)), (0, .ref aM)]) hx hb dX5_blank_4 rfl hl (by decide) rfl (fun ls hl => ?_)
  refine lv_aload_n hx hb dX5_blank_5 rfl (lv_at hl 1 rfl) ?_
  refine lv_iconst (v := 0) hx hb dX5_blank_6 (by decide) ?_
  refine va_put (D := D) (ci := 5) (v := .int 0) (ty := .int) (C := RX5) (T := TX5) (N := 24) hx hb hts uX5 tyX5 tyX5_ok nmX5 hown hK hP hD hS 0 rfl rfl 1 (by decide) w1 (fun _ h9 => h9) rfl (by decide +kernel) rfl rfl (Nat.le_of_ble_eq_true rfl) dX5_blank_7 (fun H locs hP hD hS => ?_)
  have hP : va_P D vwCl [(aM, .inr (5, [.ref aMp, .int 0, .int (nI nl), .int mi, .int ofr, .ref aMr, .int (nI pe), .ref aMs, .ref aMl, .int bc, .int rd, .ref aMg, .ref aMb, .int (nI bk), .ref aMo, .int sd, .int ko, .int kpe, .int kmi, .int kbk, .ref aMkr, .ref aMks, .ref aMkb, .long ha]))] H := hP
  have hD : va_D A [(aM, .inr (5, [.ref aMp, .int 0, .int (nI nl), .int mi, .int ofr, .ref aMr, .int (nI pe), .ref aMs, .ref aMl, .int bc, .int rd, .ref aMg, .ref aMb, .int (nI bk), .ref aMo, .int sd, .int ko, .int kpe, .int kmi, .int kbk, .ref aMkr, .ref aMks, .ref aMkb, .long ha]))] := hD
  refine lv_iload_n hx hb dX5_blank_10 rfl (lv_at hl 0 rfl) ?_
  exact eXi hx hb hr hlk hQ hP hD hS dX5_blank_11 (Eq.symm (by simp only [f_X5_blank]))

def rm_X5_kindBy : Room := { frames := 0, cells := 0, slots := 0, locals := 0 }
def f_X5_kindBy (cc0 : Int32) : Int32 := (if cc0 = 108 then 0 else (if cc0 = 119 then 1 else (if cc0 = 116 then 2 else (if cc0 = 100 then 3 else (if cc0 = 104 then 4 else (-1))))))
theorem hd_X5_kindBy : yX5_kindBy.cls ≠ "java/lang/invoke/MethodHandle" ∧ yX5_kindBy.cls ≠ "java/lang/invoke/VarHandle" ∧ (parseMethodDescriptor yX5_kindBy.desc).map (fun d => d.parameters.length) = some 1 := by decide +kernel
set_option maxHeartbeats 4000000 in
set_option maxRecDepth 100000 in
theorem c_X5_kindBy (l : Launch) (D : va_G) (cI : ClassId) (cc0 : Int32) : MetR l yX5_kindBy wsX5_kindBy rm_X5_kindBy D cI [.int cc0] [] (some (.int (f_X5_kindBy cc0))) := by
  refine mR (cc := cX5_kindBy) (maxL := 1) (ret := (some .int)) (by decide) rfl (Nat.le_of_ble_eq_true rfl) ?_
  intro p e s m args below meth c Q hx hb hr hml hown hts hlk hP hK hQ ls hl
  have hown : s.vm.findClass RX5 = some m.cls := hown
  have hl : lv_has ls 1 [(0, .int cc0)] := hl
  refine lv_iload_n hx hb dX5_kindBy_0 rfl (lv_at hl 0 rfl) ?_
  refine lv_bipush (v := 108) hx hb dX5_kindBy_1 (by decide) ?_
  refine lv_icmp_ne (tgt := 10) hx hb dX5_kindBy_3 (by decide) (fun c1 => ?_) (fun c1 => ?_)
  · refine lv_iload_n hx hb dX5_kindBy_10 rfl (lv_at hl 0 rfl) ?_
    refine lv_bipush (v := 119) hx hb dX5_kindBy_11 (by decide) ?_
    refine lv_icmp_ne (tgt := 20) hx hb dX5_kindBy_13 (by decide) (fun c2 => ?_) (fun c2 => ?_)
    · refine lv_iload_n hx hb dX5_kindBy_20 rfl (lv_at hl 0 rfl) ?_
      refine lv_bipush (v := 116) hx hb dX5_kindBy_21 (by decide) ?_
      refine lv_icmp_ne (tgt := 30) hx hb dX5_kindBy_23 (by decide) (fun c3 => ?_) (fun c3 => ?_)
      · refine lv_iload_n hx hb dX5_kindBy_30 rfl (lv_at hl 0 rfl) ?_
        refine lv_bipush (v := 100) hx hb dX5_kindBy_31 (by decide) ?_
        refine lv_icmp_ne (tgt := 40) hx hb dX5_kindBy_33 (by decide) (fun c4 => ?_) (fun c4 => ?_)
        · refine lv_iload_n hx hb dX5_kindBy_40 rfl (lv_at hl 0 rfl) ?_
          refine lv_bipush (v := 104) hx hb dX5_kindBy_41 (by decide) ?_
          refine lv_icmp_ne (tgt := 50) hx hb dX5_kindBy_43 (by decide) (fun c5 => ?_) (fun c5 => ?_)
          · refine lv_iconst (v := (-1)) hx hb dX5_kindBy_50 (by decide) ?_
            exact eRi hx hb hr hlk hQ dX5_kindBy_51 (Eq.symm (by simp only [f_X5_kindBy, if_neg c1, if_neg c2, if_neg c3, if_neg c4, if_neg c5]))
          · refine lv_iconst (v := 4) hx hb dX5_kindBy_46 (by decide) ?_
            refine lv_goto (tgt := 51) hx hb dX5_kindBy_47 (by decide) ?_
            exact eRi hx hb hr hlk hQ dX5_kindBy_51 (Eq.symm (by simp only [f_X5_kindBy, if_neg c1, if_neg c2, if_neg c3, if_neg c4, if_pos c5]))
        · refine lv_iconst (v := 3) hx hb dX5_kindBy_36 (by decide) ?_
          refine lv_goto (tgt := 51) hx hb dX5_kindBy_37 (by decide) ?_
          exact eRi hx hb hr hlk hQ dX5_kindBy_51 (Eq.symm (by simp only [f_X5_kindBy, if_neg c1, if_neg c2, if_neg c3, if_pos c4]))
      · refine lv_iconst (v := 2) hx hb dX5_kindBy_26 (by decide) ?_
        refine lv_goto (tgt := 51) hx hb dX5_kindBy_27 (by decide) ?_
        exact eRi hx hb hr hlk hQ dX5_kindBy_51 (Eq.symm (by simp only [f_X5_kindBy, if_neg c1, if_neg c2, if_pos c3]))
    · refine lv_iconst (v := 1) hx hb dX5_kindBy_16 (by decide) ?_
      refine lv_goto (tgt := 51) hx hb dX5_kindBy_17 (by decide) ?_
      exact eRi hx hb hr hlk hQ dX5_kindBy_51 (Eq.symm (by simp only [f_X5_kindBy, if_neg c1, if_pos c2]))
  · refine lv_iconst (v := 0) hx hb dX5_kindBy_6 (by decide) ?_
    refine lv_goto (tgt := 51) hx hb dX5_kindBy_7 (by decide) ?_
    exact eRi hx hb hr hlk hQ dX5_kindBy_51 (Eq.symm (by simp only [f_X5_kindBy, if_pos c1]))

theorem nar01 {x : Int32} (h : x = 0 ∨ x = 1) : narrow .boolean (.int x) = .int x := by rcases h with h | h <;> subst h <;> rfl
theorem in01 (a b c : Int64) : f_X5_in a b c = 0 ∨ f_X5_in a b c = 1 := by
  unfold f_X5_in
  (repeat' split) <;> first | exact Or.inl rfl | exact Or.inr rfl

def rm_X5_isGood : Room := { frames := 1, cells := 0, slots := 0, locals := 25 }
def f_X5_isGood (cc0 : Int32) (pos : Int32) : Int32 := (if pos ≤ 16 then (if (pos - pos / 3 * 3) = 0 then (if (f_X5_kindBy cc0) = (-1) then 0 else 1) else (if (pos - pos / 3 * 3) = 1 then (f_X5_in ((cc0 - 48).toInt64) 1 9) else (if cc0 = 44 then 1 else 0))) else 0)
theorem hd_X5_isGood : yX5_isGood.cls ≠ "java/lang/invoke/MethodHandle" ∧ yX5_isGood.cls ≠ "java/lang/invoke/VarHandle" ∧ (parseMethodDescriptor yX5_isGood.desc).map (fun d => d.parameters.length) = some 2 := by decide +kernel
set_option maxHeartbeats 4000000 in
set_option maxRecDepth 100000 in
theorem c_X5_isGood (l : Launch) (D : va_G) (cI : ClassId) (cc0 : Int32) (pos : Int32) : MetR l yX5_isGood wsX5_isGood rm_X5_isGood D cI [.int pos, .int cc0] [] (some (.int (f_X5_isGood cc0 pos))) := by
  refine mR (cc := cX5_isGood) (maxL := 2) (ret := (some .boolean)) (by decide) rfl (Nat.le_of_ble_eq_true rfl) ?_
  intro p e s m args below meth c Q hx hb hr hml hown hts hlk hP hK hQ ls hl
  have hown : s.vm.findClass RX5 = some m.cls := hown
  have hl : lv_has ls 2 [(0, .int pos), (1, .int cc0)] := hl
  have w1 := hts (.constantLong RX5 57 (9)) (List.mem_of_getElem? (i := 1) rfl)
  refine lv_iload_n hx hb dX5_isGood_0 rfl (lv_at hl 0 rfl) ?_
  refine lv_bipush (v := 16) hx hb dX5_isGood_1 (by decide) ?_
  refine lv_icmp_le (tgt := 8) hx hb dX5_isGood_3 (by decide) (fun c1 => ?_) (fun c1 => ?_)
  · refine lv_iload_n hx hb dX5_isGood_8 rfl (lv_at hl 0 rfl) ?_
    refine lv_iconst (v := 3) hx hb dX5_isGood_9 (by decide) ?_
    refine lv_irem hx hb dX5_isGood_10 (by decide) ?_
    refine lv_if_ne (tgt := 30) hx hb dX5_isGood_11 (by decide) (fun c2 => ?_) (fun c2 => ?_)
    · refine lv_iload_n hx hb dX5_isGood_30 rfl (lv_at hl 0 rfl) ?_
      refine lv_iconst (v := 3) hx hb dX5_isGood_31 (by decide) ?_
      refine lv_irem hx hb dX5_isGood_32 (by decide) ?_
      refine lv_iconst (v := 1) hx hb dX5_isGood_33 (by decide) ?_
      refine lv_icmp_ne (tgt := 52) hx hb dX5_isGood_34 (by decide) (fun c3 => ?_) (fun c3 => ?_)
      · refine lv_iload_n hx hb dX5_isGood_52 rfl (lv_at hl 1 rfl) ?_
        refine lv_bipush (v := 44) hx hb dX5_isGood_53 (by decide) ?_
        refine lv_icmp_ne (tgt := 62) hx hb dX5_isGood_55 (by decide) (fun c4 => ?_) (fun c4 => ?_)
        · refine lv_iconst (v := 0) hx hb dX5_isGood_62 (by decide) ?_
          exact eRz hx hb hr hlk hQ dX5_isGood_63 rfl (Eq.symm (by simp only [f_X5_isGood, if_pos c1, if_neg c2, if_neg c3, if_neg c4]))
        · refine lv_iconst (v := 1) hx hb dX5_isGood_58 (by decide) ?_
          refine lv_goto (tgt := 63) hx hb dX5_isGood_59 (by decide) ?_
          exact eRz hx hb hr hlk hQ dX5_isGood_63 rfl (Eq.symm (by simp only [f_X5_isGood, if_pos c1, if_neg c2, if_neg c3, if_pos c4]))
      · refine lv_iload_n hx hb dX5_isGood_37 rfl (lv_at hl 1 rfl) ?_
        refine lv_bipush (v := 48) hx hb dX5_isGood_38 (by decide) ?_
        refine lv_isub hx hb dX5_isGood_40 ?_
        refine lv_i2l (v := (cc0 - 48).toInt64) hx hb dX5_isGood_41 rfl ?_
        refine lv_lconst (v := 1) hx hb dX5_isGood_42 (by decide) ?_
        refine lv_ldc2 (v := 9) hx hb hown w1 dX5_isGood_43 ?_
        refine rS ⟨hx, hb, hml, hown, hts⟩ (c_X5_in l D cI ((cc0 - 48).toInt64) 1 9) (va_cwS 3 hts gX5_isGood_X5_in rfl rfl rfl hd_X5_in ⟨Nat.le_of_ble_eq_true rfl, Nat.le_of_ble_eq_true rfl⟩) hK (hP.sub [] rfl) rfl hl.1 (rest := []) (st' := [.int (f_X5_in ((cc0 - 48).toInt64) 1 9)]) rfl rfl (Nat.le_of_ble_eq_true rfl) dX5_isGood_46 ⟨Nat.zero_le _, Nat.zero_le _⟩ ?_
        refine lv_goto (tgt := 63) hx hb dX5_isGood_49 (by decide) ?_
        exact eRz hx hb hr hlk hQ dX5_isGood_63 (nar01 (in01 _ _ _)) (Eq.symm (by simp only [f_X5_isGood, if_pos c1, if_neg c2, if_pos c3]))
    · refine lv_iload_n hx hb dX5_isGood_14 rfl (lv_at hl 1 rfl) ?_
      refine rS ⟨hx, hb, hml, hown, hts⟩ (c_X5_kindBy l D cI cc0) (va_cwS 1 hts gX5_isGood_X5_kindBy rfl rfl rfl hd_X5_kindBy ⟨Nat.le_of_ble_eq_true rfl, Nat.le_of_ble_eq_true rfl⟩) hK (hP.sub [] rfl) rfl hl.1 (rest := []) (st' := [.int (f_X5_kindBy cc0)]) rfl rfl (Nat.le_of_ble_eq_true rfl) dX5_isGood_15 ⟨Nat.zero_le _, Nat.zero_le _⟩ ?_
      refine lv_iconst (v := (-1)) hx hb dX5_isGood_18 (by decide) ?_
      refine lv_icmp_eq (tgt := 26) hx hb dX5_isGood_19 (by decide) (fun c5 => ?_) (fun c5 => ?_)
      · refine lv_iconst (v := 0) hx hb dX5_isGood_26 (by decide) ?_
        refine lv_goto (tgt := 63) hx hb dX5_isGood_27 (by decide) ?_
        exact eRz hx hb hr hlk hQ dX5_isGood_63 rfl (Eq.symm (by simp only [f_X5_isGood, if_pos c1, if_pos c2, if_pos c5]))
      · refine lv_iconst (v := 1) hx hb dX5_isGood_22 (by decide) ?_
        refine lv_goto (tgt := 63) hx hb dX5_isGood_23 (by decide) ?_
        exact eRz hx hb hr hlk hQ dX5_isGood_63 rfl (Eq.symm (by simp only [f_X5_isGood, if_pos c1, if_pos c2, if_neg c5]))
  · refine lv_iconst (v := 0) hx hb dX5_isGood_6 (by decide) ?_
    exact eRz hx hb hr hlk hQ dX5_isGood_7 rfl (Eq.symm (by simp only [f_X5_isGood, if_neg c1]))

def rm_X5_faultOf : Room := { frames := 2, cells := 0, slots := 0, locals := 46 }
def f_X5_faultOf_2_r (pl : Nat) (co : Nat → Int32) : Nat → Nat → Int32
  | 0, _ => 0
  | k2 + 1, i1 => (if nI pl ≤ nI i1 then nI i1 else (if (f_X5_isGood (co i1) (nI i1)) = 0 then nI i1 else (f_X5_faultOf_2_r pl co k2 (i1 + 1))))
def f_X5_faultOf (pl : Nat) (co : Nat → Int32) : Int32 := (f_X5_faultOf_2_r pl co (pl + 1) 0)
theorem hd_X5_faultOf : yX5_faultOf.cls = RX5 ∧ yX5_faultOf.cls ≠ "java/lang/invoke/MethodHandle" ∧ yX5_faultOf.cls ≠ "java/lang/invoke/VarHandle" ∧ (parseMethodDescriptor yX5_faultOf.desc).map (fun d => d.parameters.length) = some 0 := by decide +kernel
set_option maxHeartbeats 4000000 in
set_option maxRecDepth 100000 in
theorem c_X5_faultOf (l : Launch) (D : va_G) (cI : ClassId) (aM aMp aMr aMs aMl aMg aMb aMo aMkr aMks aMkb : Nat) (ofr : Int32) (rd : Int32) (pl : Nat) (co : Nat → Int32) (nl : Nat) (mi : Int32) (pe : Nat) (kmi : Int32) (kpe : Int32) (bc : Int32) (bk : Nat) (sd : Int32) (ko : Int32) (kbk : Int32) (ha : Int64) (hpl : pl ≤ 20) : MetR l yX5_faultOf wsX5_faultOf rm_X5_faultOf D cI [.ref aM] [(aM, .inr (5, [.ref aMp, .int (nI pl), .int (nI nl), .int mi, .int ofr, .ref aMr, .int (nI pe), .ref aMs, .ref aMl, .int bc, .int rd, .ref aMg, .ref aMb, .int (nI bk), .ref aMo, .int sd, .int ko, .int kpe, .int kmi, .int kbk, .ref aMkr, .ref aMks, .ref aMkb, .long ha])), (aMp, .inl (cI, 20, .inl co))] (some (.int (f_X5_faultOf pl co))) := by
  refine mR (cc := cX5_faultOf) (maxL := 2) (ret := (some .int)) (by decide) rfl (Nat.le_of_ble_eq_true rfl) ?_
  intro p e s m args below meth c Q hx hb hr hml hown hts hlk hP hK hQ ls hl
  have hown : s.vm.findClass RX5 = some m.cls := hown
  have hl : lv_has ls 2 [(0, .ref aM)] := hl
  have w1 := hts (.fieldLink RX5 50 "DarkOfficeModel" "pageMany" "I") (List.mem_of_getElem? (i := 1) rfl)
  have uX5 : ∀ w ∈ wsX50, w ∈ wsX5_faultOf := fun _ h => List.mem_cons_of_mem _ (List.mem_append_right _ h)
  have w2 := hts (.fieldLink RX5 7 "DarkOfficeModel" "page" "[I") (List.mem_of_getElem? (i := 2) rfl)
  refine lv_iconst (v := 0) hx hb dX5_faultOf_0 (by decide) ?_
  refine lv_istore_n (lv' := [(1, .int 0), (0, .ref aM)]) hx hb dX5_faultOf_1 rfl hl (by decide) rfl (fun ls hl => ?_)
  have lp2 : ∀ (k2 : Nat) (i1 : Nat), i1 ≤ pl ∧ pl < i1 + k2 → ((f_X5_faultOf pl co) = (f_X5_faultOf_2_r pl co k2 i1)) → ∀ ls : Array Slot, lv_has ls 2 [(0, .ref aM), (1, .int (nI i1))] → W p l e rm_X5_faultOf s m args below meth c s.heap [] 0 0 Q (F0 m 2 ls []) := by
    intro k2
    induction k2 with
    | zero =>
      intro i1 hh2 h2_r ls hl
      exact absurd hh2 (by omega)
    | succ k2 ih2 =>
      intro i1 hh2 h2_r ls hl
      refine lv_iload_n hx hb dX5_faultOf_2 rfl (lv_at hl 1 rfl) ?_
      refine lv_aload_n hx hb dX5_faultOf_3 rfl (lv_at hl 0 rfl) ?_
      refine va_get (D := D) (ci := 5) (v := .int (nI pl)) (C := RX5) (T := TX5) (N := 24) hx hb hts uX5 hown hK hP 0 rfl rfl 1 (by decide) w1 (fun _ h9 => h9) rfl dX5_faultOf_4 ?_
      refine lv_icmp_ge (tgt := 29) hx hb dX5_faultOf_7 (by decide) (fun c1 => ?_) (fun c1 => ?_)
      · have q1 : pl ≤ i1 := nle_d (a := pl) (b := i1) rfl rfl (by omega) (by omega) c1
        refine lv_iload_n hx hb dX5_faultOf_29 rfl (lv_at hl 1 rfl) ?_
        exact eRi hx hb hr hlk hQ dX5_faultOf_30 (Eq.symm (h2_r.trans (by simp only [f_X5_faultOf_2_r, if_pos c1])))
      · have q1 : i1 < pl := nle_e (a := pl) (b := i1) rfl rfl (by omega) (by omega) c1
        refine lv_iload_n hx hb dX5_faultOf_10 rfl (lv_at hl 1 rfl) ?_
        refine lv_aload_n hx hb dX5_faultOf_11 rfl (lv_at hl 0 rfl) ?_
        refine va_get (D := D) (ci := 5) (v := .ref aMp) (C := RX5) (T := TX5) (N := 24) hx hb hts uX5 hown hK hP 0 rfl rfl 0 (by decide) w2 (fun _ h9 => h9) rfl dX5_faultOf_12 ?_
        refine lv_iload_n hx hb dX5_faultOf_15 rfl (lv_at hl 1 rfl) ?_
        refine xald hx hb hK hP 1 rfl i1 rfl (by omega) (by decide) dX5_faultOf_16 ?_
        refine rS ⟨hx, hb, hml, hown, hts⟩ (c_X5_isGood l D cI (co i1) (nI i1)) (va_cwS 2 hts gX5_faultOf_X5_isGood rfl rfl rfl hd_X5_isGood ⟨Nat.le_of_ble_eq_true rfl, Nat.le_of_ble_eq_true rfl⟩) hK (hP.sub [] rfl) rfl hl.1 (rest := []) (st' := [.int (f_X5_isGood (co i1) (nI i1))]) rfl rfl (Nat.le_of_ble_eq_true rfl) dX5_faultOf_17 ⟨Nat.zero_le _, Nat.zero_le _⟩ ?_
        refine lv_if_eq (tgt := 29) hx hb dX5_faultOf_20 (by decide) (fun c2 => ?_) (fun c2 => ?_)
        · refine lv_iload_n hx hb dX5_faultOf_29 rfl (lv_at hl 1 rfl) ?_
          exact eRi hx hb hr hlk hQ dX5_faultOf_30 (Eq.symm (h2_r.trans (by simp only [f_X5_faultOf_2_r, if_neg c1, if_pos c2])))
        · refine lv_iinc (v := nI (i1 + 1)) (lv' := [(1, .int (nI (i1 + 1))), (0, .ref aM)]) hx hb dX5_faultOf_23 hl (k := 1) rfl (nI_add i1 1) (by decide) rfl (fun ls hl => ?_)
          refine lv_goto (tgt := 2) hx hb dX5_faultOf_26 (by decide) ?_
          exact ih2 (i1 + 1) (by omega) (h2_r.trans (by simp only [f_X5_faultOf_2_r, if_neg c1, if_neg c2])) ls (lv_sub hl [1, 0] rfl)
  exact lp2 (pl + 1) 0 (by omega) (by simp only [f_X5_faultOf]) ls (lv_sub hl [1, 0] rfl)

def rm_X5_fault : Room := { frames := 3, cells := 0, slots := 0, locals := 67 }
def f_X5_fault (pl : Nat) (co : Nat → Int32) : Int32 := (f_X5_faultOf pl co)
theorem hd_X5_fault : yX5_fault.cls = RX5 ∧ yX5_fault.cls ≠ "java/lang/invoke/MethodHandle" ∧ yX5_fault.cls ≠ "java/lang/invoke/VarHandle" ∧ (parseMethodDescriptor yX5_fault.desc).map (fun d => d.parameters.length) = some 0 := by decide +kernel
set_option maxHeartbeats 4000000 in
set_option maxRecDepth 100000 in
theorem c_X5_fault (l : Launch) (D : va_G) (cI : ClassId) (aM aMp aMr aMs aMl aMg aMb aMo aMkr aMks aMkb : Nat) (ofr : Int32) (rd : Int32) (pl : Nat) (co : Nat → Int32) (nl : Nat) (mi : Int32) (pe : Nat) (kmi : Int32) (kpe : Int32) (bc : Int32) (bk : Nat) (sd : Int32) (ko : Int32) (kbk : Int32) (ha : Int64) (hpl : pl ≤ 20) : MetR l yX5_fault wsX5_fault rm_X5_fault D cI [.ref aM] [(aM, .inr (5, [.ref aMp, .int (nI pl), .int (nI nl), .int mi, .int ofr, .ref aMr, .int (nI pe), .ref aMs, .ref aMl, .int bc, .int rd, .ref aMg, .ref aMb, .int (nI bk), .ref aMo, .int sd, .int ko, .int kpe, .int kmi, .int kbk, .ref aMkr, .ref aMks, .ref aMkb, .long ha])), (aMp, .inl (cI, 20, .inl co))] (some (.int (f_X5_fault pl co))) := by
  refine mR (cc := cX5_fault) (maxL := 1) (ret := (some .int)) (by decide) rfl (Nat.le_of_ble_eq_true rfl) ?_
  intro p e s m args below meth c Q hx hb hr hml hown hts hlk hP hK hQ ls hl
  have hown : s.vm.findClass RX5 = some m.cls := hown
  have hl : lv_has ls 1 [(0, .ref aM)] := hl
  refine lv_aload_n hx hb dX5_fault_0 rfl (lv_at hl 0 rfl) ?_
  refine rV ⟨hx, hb, hml, hown, hts⟩ (c_X5_faultOf l D cI aM aMp aMr aMs aMl aMg aMb aMo aMkr aMks aMkb ofr rd pl co nl mi pe kmi kpe bc bk sd ko kbk ha hpl) (cwV 0 hts gX5_fault_X5_faultOf rfl rfl rfl hd_X5_faultOf ⟨Nat.le_of_ble_eq_true rfl, Nat.le_of_ble_eq_true rfl⟩) hK (hP.sub [0, 1] rfl) 0 rfl rfl rfl rfl hl.1 (rest := []) (st' := [.int (f_X5_faultOf pl co)]) rfl rfl (Nat.le_of_ble_eq_true rfl) dX5_fault_1 ⟨Nat.zero_le _, Nat.zero_le _⟩ ?_
  exact eRi hx hb hr hlk hQ dX5_fault_4 (Eq.symm (by simp only [f_X5_fault]))

theorem good16 {c p : Int32} (h : ¬ f_X5_isGood c p = 0) : p ≤ 16 := by
  unfold f_X5_isGood at h
  by_cases q : p ≤ 16
  · exact q
  · rw [if_neg q] at h; exact absurd rfl h
theorem fault17r (pl : Nat) (co : Nat → Int32) (hpl : pl ≤ 20) : ∀ k i, i ≤ 17 → i ≤ pl → pl < i + k → ∃ j, f_X5_faultOf_2_r pl co k i = nI j ∧ j ≤ 17 ∧ j ≤ pl := by
  intro k
  induction k with
  | zero => intro i h1 h2 h3; omega
  | succ k ih =>
    intro i h1 h2 h3
    rw [f_X5_faultOf_2_r]
    split
    · exact ⟨i, rfl, h1, h2⟩
    · rename_i c1
      split
      · exact ⟨i, rfl, h1, h2⟩
      · rename_i c2
        have q1 := nle_e (A := nI pl) (B := nI i) rfl rfl (by omega) (by omega) c1
        have q2 := nle_d (A := nI i) (B := 16) (b := 16) rfl rfl (by omega) (by decide) (good16 c2)
        exact ih (i + 1) (by omega) (by omega) (by omega)
theorem fault17 {pl : Nat} {co : Nat → Int32} (hpl : pl ≤ 20) (h : nI pl ≤ f_X5_faultOf pl co) : pl ≤ 17 := by
  obtain ⟨j, e, h1, h2⟩ := fault17r pl co hpl (pl + 1) 0 (by omega) (by omega) (by omega)
  rw [f_X5_faultOf, e] at h
  have := nle_d (A := nI pl) (B := nI j) rfl rfl (by omega) (by omega) h
  omega

def rm_X5_lacks : Room := { frames := 0, cells := 0, slots := 0, locals := 0 }
def f_X5_lacks (nl : Nat) : Int32 := (if nI nl = 0 then 1 else 0)
theorem hd_X5_lacks : yX5_lacks.cls = RX5 ∧ yX5_lacks.cls ≠ "java/lang/invoke/MethodHandle" ∧ yX5_lacks.cls ≠ "java/lang/invoke/VarHandle" ∧ (parseMethodDescriptor yX5_lacks.desc).map (fun d => d.parameters.length) = some 0 := by decide +kernel
set_option maxHeartbeats 4000000 in
set_option maxRecDepth 100000 in
theorem c_X5_lacks (l : Launch) (D : va_G) (cI : ClassId) (aM aMp aMr aMs aMl aMg aMb aMo aMkr aMks aMkb : Nat) (ofr : Int32) (rd : Int32) (pl : Nat) (nl : Nat) (mi : Int32) (pe : Nat) (kmi : Int32) (kpe : Int32) (bc : Int32) (bk : Nat) (sd : Int32) (ko : Int32) (kbk : Int32) (ha : Int64) (hn : nl ≤ 6) : MetR l yX5_lacks wsX5_lacks rm_X5_lacks D cI [.ref aM] [(aM, .inr (5, [.ref aMp, .int (nI pl), .int (nI nl), .int mi, .int ofr, .ref aMr, .int (nI pe), .ref aMs, .ref aMl, .int bc, .int rd, .ref aMg, .ref aMb, .int (nI bk), .ref aMo, .int sd, .int ko, .int kpe, .int kmi, .int kbk, .ref aMkr, .ref aMks, .ref aMkb, .long ha]))] (some (.int (f_X5_lacks nl))) := by
  refine mR (cc := cX5_lacks) (maxL := 1) (ret := (some .boolean)) (by decide) rfl (Nat.le_of_ble_eq_true rfl) ?_
  intro p e s m args below meth c Q hx hb hr hml hown hts hlk hP hK hQ ls hl
  have hown : s.vm.findClass RX5 = some m.cls := hown
  have hl : lv_has ls 1 [(0, .ref aM)] := hl
  have w1 := hts (.fieldLink RX5 67 "DarkOfficeModel" "lamps" "I") (List.mem_of_getElem? (i := 1) rfl)
  have uX5 : ∀ w ∈ wsX50, w ∈ wsX5_lacks := fun _ h => List.mem_cons_of_mem _ (List.mem_append_right _ h)
  refine lv_aload_n hx hb dX5_lacks_0 rfl (lv_at hl 0 rfl) ?_
  refine va_get (D := D) (ci := 5) (v := .int (nI nl)) (C := RX5) (T := TX5) (N := 24) hx hb hts uX5 hown hK hP 0 rfl rfl 2 (by decide) w1 (fun _ h9 => h9) rfl dX5_lacks_1 ?_
  refine lv_if_ne (tgt := 11) hx hb dX5_lacks_4 (by decide) (fun c1 => ?_) (fun c1 => ?_)
  · have q1 : ¬ nl = 0 := neq_e (a := nl) (b := 0) rfl rfl (by omega) (by omega) c1
    refine lv_iconst (v := 0) hx hb dX5_lacks_11 (by decide) ?_
    exact eRz hx hb hr hlk hQ dX5_lacks_12 rfl (Eq.symm (by simp only [f_X5_lacks, if_neg c1]))
  · have q1 : nl = 0 := neq_d (a := nl) (b := 0) rfl rfl (by omega) (by omega) c1
    refine lv_iconst (v := 1) hx hb dX5_lacks_7 (by decide) ?_
    refine lv_goto (tgt := 12) hx hb dX5_lacks_8 (by decide) ?_
    exact eRz hx hb hr hlk hQ dX5_lacks_12 rfl (Eq.symm (by simp only [f_X5_lacks, if_pos c1]))

def rm_X5_isLamp : Room := { frames := 1, cells := 0, slots := 0, locals := 25 }
def f_X5_isLamp (nl : Nat) (number : Int32) : Int32 := (f_X5_in (number.toInt64) 0 ((nI nl - 1).toInt64))
theorem hd_X5_isLamp : yX5_isLamp.cls = RX5 ∧ yX5_isLamp.cls ≠ "java/lang/invoke/MethodHandle" ∧ yX5_isLamp.cls ≠ "java/lang/invoke/VarHandle" ∧ (parseMethodDescriptor yX5_isLamp.desc).map (fun d => d.parameters.length) = some 1 := by decide +kernel
set_option maxHeartbeats 4000000 in
set_option maxRecDepth 100000 in
theorem c_X5_isLamp (l : Launch) (D : va_G) (cI : ClassId) (aM aMp aMr aMs aMl aMg aMb aMo aMkr aMks aMkb : Nat) (ofr : Int32) (rd : Int32) (pl : Nat) (nl : Nat) (mi : Int32) (pe : Nat) (kmi : Int32) (kpe : Int32) (bc : Int32) (bk : Nat) (sd : Int32) (ko : Int32) (kbk : Int32) (ha : Int64) (number : Int32) : MetR l yX5_isLamp wsX5_isLamp rm_X5_isLamp D cI [.ref aM, .int number] [(aM, .inr (5, [.ref aMp, .int (nI pl), .int (nI nl), .int mi, .int ofr, .ref aMr, .int (nI pe), .ref aMs, .ref aMl, .int bc, .int rd, .ref aMg, .ref aMb, .int (nI bk), .ref aMo, .int sd, .int ko, .int kpe, .int kmi, .int kbk, .ref aMkr, .ref aMks, .ref aMkb, .long ha]))] (some (.int (f_X5_isLamp nl number))) := by
  refine mR (cc := cX5_isLamp) (maxL := 2) (ret := (some .boolean)) (by decide) rfl (Nat.le_of_ble_eq_true rfl) ?_
  intro p e s m args below meth c Q hx hb hr hml hown hts hlk hP hK hQ ls hl
  have hown : s.vm.findClass RX5 = some m.cls := hown
  have hl : lv_has ls 2 [(0, .ref aM), (1, .int number)] := hl
  have w1 := hts (.fieldLink RX5 67 "DarkOfficeModel" "lamps" "I") (List.mem_of_getElem? (i := 1) rfl)
  have uX5 : ∀ w ∈ wsX50, w ∈ wsX5_isLamp := fun _ h => List.mem_cons_of_mem _ (List.mem_append_right _ h)
  refine lv_iload_n hx hb dX5_isLamp_0 rfl (lv_at hl 1 rfl) ?_
  refine lv_i2l (v := number.toInt64) hx hb dX5_isLamp_1 rfl ?_
  refine lv_lconst (v := 0) hx hb dX5_isLamp_2 (by decide) ?_
  refine lv_aload_n hx hb dX5_isLamp_3 rfl (lv_at hl 0 rfl) ?_
  refine va_get (D := D) (ci := 5) (v := .int (nI nl)) (C := RX5) (T := TX5) (N := 24) hx hb hts uX5 hown hK hP 0 rfl rfl 2 (by decide) w1 (fun _ h9 => h9) rfl dX5_isLamp_4 ?_
  refine lv_iconst (v := 1) hx hb dX5_isLamp_7 (by decide) ?_
  refine lv_isub hx hb dX5_isLamp_8 ?_
  refine lv_i2l (v := (nI nl - 1).toInt64) hx hb dX5_isLamp_9 rfl ?_
  refine rS ⟨hx, hb, hml, hown, hts⟩ (c_X5_in l D cI (number.toInt64) 0 ((nI nl - 1).toInt64)) (va_cwS 3 hts gX5_isLamp_X5_in rfl rfl rfl hd_X5_in ⟨Nat.le_of_ble_eq_true rfl, Nat.le_of_ble_eq_true rfl⟩) hK (hP.sub [] rfl) rfl hl.1 (rest := []) (st' := [.int (f_X5_in (number.toInt64) 0 ((nI nl - 1).toInt64))]) rfl rfl (Nat.le_of_ble_eq_true rfl) dX5_isLamp_10 ⟨Nat.zero_le _, Nat.zero_le _⟩ ?_
  exact eRz hx hb hr hlk hQ dX5_isLamp_13 (nar01 (in01 _ _ _)) (Eq.symm (by simp only [f_X5_isLamp]))

def rm_X5_isPerson : Room := { frames := 1, cells := 0, slots := 0, locals := 25 }
def f_X5_isPerson (pe : Nat) (number : Int32) : Int32 := (f_X5_in (number.toInt64) 0 ((nI pe - 1).toInt64))
theorem hd_X5_isPerson : yX5_isPerson.cls = RX5 ∧ yX5_isPerson.cls ≠ "java/lang/invoke/MethodHandle" ∧ yX5_isPerson.cls ≠ "java/lang/invoke/VarHandle" ∧ (parseMethodDescriptor yX5_isPerson.desc).map (fun d => d.parameters.length) = some 1 := by decide +kernel
set_option maxHeartbeats 4000000 in
set_option maxRecDepth 100000 in
theorem c_X5_isPerson (l : Launch) (D : va_G) (cI : ClassId) (aM aMp aMr aMs aMl aMg aMb aMo aMkr aMks aMkb : Nat) (ofr : Int32) (rd : Int32) (pl : Nat) (nl : Nat) (mi : Int32) (pe : Nat) (kmi : Int32) (kpe : Int32) (bc : Int32) (bk : Nat) (sd : Int32) (ko : Int32) (kbk : Int32) (ha : Int64) (number : Int32) : MetR l yX5_isPerson wsX5_isPerson rm_X5_isPerson D cI [.ref aM, .int number] [(aM, .inr (5, [.ref aMp, .int (nI pl), .int (nI nl), .int mi, .int ofr, .ref aMr, .int (nI pe), .ref aMs, .ref aMl, .int bc, .int rd, .ref aMg, .ref aMb, .int (nI bk), .ref aMo, .int sd, .int ko, .int kpe, .int kmi, .int kbk, .ref aMkr, .ref aMks, .ref aMkb, .long ha]))] (some (.int (f_X5_isPerson pe number))) := by
  refine mR (cc := cX5_isPerson) (maxL := 2) (ret := (some .boolean)) (by decide) rfl (Nat.le_of_ble_eq_true rfl) ?_
  intro p e s m args below meth c Q hx hb hr hml hown hts hlk hP hK hQ ls hl
  have hown : s.vm.findClass RX5 = some m.cls := hown
  have hl : lv_has ls 2 [(0, .ref aM), (1, .int number)] := hl
  have w1 := hts (.fieldLink RX5 73 "DarkOfficeModel" "people" "I") (List.mem_of_getElem? (i := 1) rfl)
  have uX5 : ∀ w ∈ wsX50, w ∈ wsX5_isPerson := fun _ h => List.mem_cons_of_mem _ (List.mem_append_right _ h)
  refine lv_iload_n hx hb dX5_isPerson_0 rfl (lv_at hl 1 rfl) ?_
  refine lv_i2l (v := number.toInt64) hx hb dX5_isPerson_1 rfl ?_
  refine lv_lconst (v := 0) hx hb dX5_isPerson_2 (by decide) ?_
  refine lv_aload_n hx hb dX5_isPerson_3 rfl (lv_at hl 0 rfl) ?_
  refine va_get (D := D) (ci := 5) (v := .int (nI pe)) (C := RX5) (T := TX5) (N := 24) hx hb hts uX5 hown hK hP 0 rfl rfl 6 (by decide) w1 (fun _ h9 => h9) rfl dX5_isPerson_4 ?_
  refine lv_iconst (v := 1) hx hb dX5_isPerson_7 (by decide) ?_
  refine lv_isub hx hb dX5_isPerson_8 ?_
  refine lv_i2l (v := (nI pe - 1).toInt64) hx hb dX5_isPerson_9 rfl ?_
  refine rS ⟨hx, hb, hml, hown, hts⟩ (c_X5_in l D cI (number.toInt64) 0 ((nI pe - 1).toInt64)) (va_cwS 3 hts gX5_isPerson_X5_in rfl rfl rfl hd_X5_in ⟨Nat.le_of_ble_eq_true rfl, Nat.le_of_ble_eq_true rfl⟩) hK (hP.sub [] rfl) rfl hl.1 (rest := []) (st' := [.int (f_X5_in (number.toInt64) 0 ((nI pe - 1).toInt64))]) rfl rfl (Nat.le_of_ble_eq_true rfl) dX5_isPerson_10 ⟨Nat.zero_le _, Nat.zero_le _⟩ ?_
  exact eRz hx hb hr hlk hQ dX5_isPerson_13 (nar01 (in01 _ _ _)) (Eq.symm (by simp only [f_X5_isPerson]))

theorem lampM {nl : Nat} {x : Int32} (hn : nl ≤ 6) (h : ¬ f_X5_isLamp nl x = 0) : x = nI x.toNatClampNeg ∧ x.toNatClampNeg < nl := by
  unfold f_X5_isLamp at h
  rcases Nat.eq_zero_or_pos nl with h0 | h0
  · subst h0
    obtain ⟨h1, h2⟩ := (in_i (v := x) (lo := 0) (hi := nI 0 - 1)).mp h
    exfalso
    rw [Int32.lt_iff_toInt_lt] at h1 h2
    rw [show (nI 0 - 1 : Int32).toInt = -1 from by decide] at h2
    rw [show (0 : Int32).toInt = 0 from by decide] at h1
    omega
  · have e : (nI nl - 1 : Int32) = nI (nl - 1) := ix_sub (y := 1) (by omega) rfl rfl
    obtain ⟨h1, h2, h3⟩ := in_nat (a := 0) (b := nl - 1) rfl (by rw [e]) (by decide) (by omega) h
    exact ⟨h1, by omega⟩
theorem persM {pe : Nat} {x : Int32} (hn : pe ≤ 4) (h : ¬ f_X5_isPerson pe x = 0) : x = nI x.toNatClampNeg ∧ x.toNatClampNeg < pe := by
  unfold f_X5_isPerson at h
  rcases Nat.eq_zero_or_pos pe with h0 | h0
  · subst h0
    obtain ⟨h1, h2⟩ := (in_i (v := x) (lo := 0) (hi := nI 0 - 1)).mp h
    exfalso
    rw [Int32.lt_iff_toInt_lt] at h1 h2
    rw [show (nI 0 - 1 : Int32).toInt = -1 from by decide] at h2
    rw [show (0 : Int32).toInt = 0 from by decide] at h1
    omega
  · have e : (nI pe - 1 : Int32) = nI (pe - 1) := ix_sub (y := 1) (by omega) rfl rfl
    obtain ⟨h1, h2, h3⟩ := in_nat (a := 0) (b := pe - 1) rfl (by rw [e]) (by decide) (by omega) h
    exact ⟨h1, by omega⟩
theorem pg_div {pl : Nat} (h : pl ≤ 20) : (nI pl + 1) / 3 = nI ((pl + 1) / 3) := by
  rw [show (nI pl + 1 : Int32) = nI (pl + 1) from nI_1 pl]
  exact pk_div (d := 3) (by omega) (by decide) (by decide)

def rm_X5_office : Room := { frames := 3, cells := 0, slots := 0, locals := 67 }
def f_X5_office_46_Mr (co : Nat → Int32) (ro : Nat → Int32) : Nat → (Nat → Int32)
  | 0 => ro
  | i1 + 1 => (if (f_X5_kindBy (co (3 * i1))) = 3 then (upd (upd (upd (f_X5_office_46_Mr co ro i1) (3 * i1) (f_X5_kindBy (co (3 * i1)))) ((3 * i1) + 1) ((((co ((3 * i1) + 1)) - 48) + 1) / 2)) ((3 * i1) + 2) 0) else (upd (upd (upd (f_X5_office_46_Mr co ro i1) (3 * i1) (f_X5_kindBy (co (3 * i1)))) ((3 * i1) + 1) ((co ((3 * i1) + 1)) - 48)) ((3 * i1) + 2) 0))
def f_X5_office (pl : Nat) (co : Nat → Int32) : Int32 := (if nI pl < 5 then (-103) else (if (nI pl - nI pl / 3 * 3) = 2 then (if nI pl ≤ (f_X5_faultOf pl co) then nI ((pl + 1) / 3) else (-103)) else (-103)))
def f_X5_office_M_1 (pl : Nat) (co : Nat → Int32) : Int32 := (if nI pl < 5 then nI pl else (if (nI pl - nI pl / 3 * 3) = 2 then (if nI pl ≤ (f_X5_faultOf pl co) then 0 else nI pl) else nI pl))
def f_X5_office_M_13 (pl : Nat) (co : Nat → Int32) (bk : Nat) : Int32 := (if nI pl < 5 then nI bk else (if (nI pl - nI pl / 3 * 3) = 2 then (if nI pl ≤ (f_X5_faultOf pl co) then 0 else nI bk) else nI bk))
def f_X5_office_M_2 (pl : Nat) (co : Nat → Int32) (nl : Nat) : Int32 := (if nI pl < 5 then nI nl else (if (nI pl - nI pl / 3 * 3) = 2 then (if nI pl ≤ (f_X5_faultOf pl co) then nI ((pl + 1) / 3) else nI nl) else nI nl))
def f_X5_office_M_3 (pl : Nat) (co : Nat → Int32) (mi : Int32) : Int32 := (if nI pl < 5 then mi else (if (nI pl - nI pl / 3 * 3) = 2 then (if nI pl ≤ (f_X5_faultOf pl co) then 0 else mi) else mi))
def f_X5_office_M_4 (ofr : Int32) (pl : Nat) (co : Nat → Int32) : Int32 := (if nI pl < 5 then ofr else (if (nI pl - nI pl / 3 * 3) = 2 then (if nI pl ≤ (f_X5_faultOf pl co) then (ofr + 1) else ofr) else ofr))
def f_X5_office_M_6 (pl : Nat) (co : Nat → Int32) (pe : Nat) : Int32 := (if nI pl < 5 then nI pe else (if (nI pl - nI pl / 3 * 3) = 2 then (if nI pl ≤ (f_X5_faultOf pl co) then 0 else nI pe) else nI pe))
def f_X5_office_Mr (pl : Nat) (co : Nat → Int32) (ro : Nat → Int32) : Nat → Int32 := (if nI pl < 5 then ro else (if (nI pl - nI pl / 3 * 3) = 2 then (if nI pl ≤ (f_X5_faultOf pl co) then (f_X5_office_46_Mr co ro ((pl + 1) / 3)) else ro) else ro))
theorem hd_X5_office : yX5_office.cls = RX5 ∧ yX5_office.cls ≠ "java/lang/invoke/MethodHandle" ∧ yX5_office.cls ≠ "java/lang/invoke/VarHandle" ∧ (parseMethodDescriptor yX5_office.desc).map (fun d => d.parameters.length) = some 0 := by decide +kernel
set_option maxHeartbeats 4000000 in
set_option maxRecDepth 100000 in
theorem c_X5_office (l : Launch) (D : va_G) (cI : ClassId) (aM aMp aMr aMs aMl aMg aMb aMo aMkr aMks aMkb : Nat) (ofr : Int32) (rd : Int32) (pl : Nat) (co : Nat → Int32) (nl : Nat) (mi : Int32) (pe : Nat) (kmi : Int32) (kpe : Int32) (bc : Int32) (bk : Nat) (sd : Int32) (ko : Int32) (kbk : Int32) (ha : Int64) (ro : Nat → Int32) (hpl : pl ≤ 20) : MetX l yX5_office wsX5_office rm_X5_office D cI [.ref aM] [(aM, .inr (5, [.ref aMp, .int (nI pl), .int (nI nl), .int mi, .int ofr, .ref aMr, .int (nI pe), .ref aMs, .ref aMl, .int bc, .int rd, .ref aMg, .ref aMb, .int (nI bk), .ref aMo, .int sd, .int ko, .int kpe, .int kmi, .int kbk, .ref aMkr, .ref aMks, .ref aMkb, .long ha])), (aMp, .inl (cI, 20, .inl co)), (aMr, .inl (cI, 18, .inl ro))] (some (.int (f_X5_office pl co))) [(aM, .inr (5, [.ref aMp, .int (f_X5_office_M_1 pl co), .int (f_X5_office_M_2 pl co nl), .int (f_X5_office_M_3 pl co mi), .int (f_X5_office_M_4 ofr pl co), .ref aMr, .int (f_X5_office_M_6 pl co pe), .ref aMs, .ref aMl, .int bc, .int rd, .ref aMg, .ref aMb, .int (f_X5_office_M_13 pl co bk), .ref aMo, .int sd, .int ko, .int kpe, .int kmi, .int kbk, .ref aMkr, .ref aMks, .ref aMkb, .long ha])), (aMp, .inl (cI, 20, .inl co)), (aMr, .inl (cI, 18, .inl (f_X5_office_Mr pl co ro)))] := by
  refine mX (cc := cX5_office) (maxL := 4) (ret := (some .int)) (by decide) rfl (Nat.le_of_ble_eq_true rfl) ?_
  intro p e s m args below meth c Q A hx hb hr hml hown hts hlk hP hK hD hA hS hQ ls hl
  have hown : s.vm.findClass RX5 = some m.cls := hown
  have hl : lv_has ls 4 [(0, .ref aM)] := hl
  have w1 := hts (.fieldLink RX5 50 "DarkOfficeModel" "pageMany" "I") (List.mem_of_getElem? (i := 1) rfl)
  have uX5 : ∀ w ∈ wsX50, w ∈ wsX5_office := fun _ h => List.mem_cons_of_mem _ (List.mem_append_right _ h)
  have w2 := hts (.fieldLink RX5 67 "DarkOfficeModel" "lamps" "I") (List.mem_of_getElem? (i := 2) rfl)
  have w5 := hts (.fieldLink RX5 70 "DarkOfficeModel" "minutesNow" "I") (List.mem_of_getElem? (i := 5) rfl)
  have w6 := hts (.fieldLink RX5 73 "DarkOfficeModel" "people" "I") (List.mem_of_getElem? (i := 6) rfl)
  have w7 := hts (.fieldLink RX5 76 "DarkOfficeModel" "bookMany" "I") (List.mem_of_getElem? (i := 7) rfl)
  have w8 := hts (.fieldLink RX5 79 "DarkOfficeModel" "officesRead" "I") (List.mem_of_getElem? (i := 8) rfl)
  have w3 := hts (.fieldLink RX5 7 "DarkOfficeModel" "page" "[I") (List.mem_of_getElem? (i := 3) rfl)
  have w4 := hts (.fieldLink RX5 13 "DarkOfficeModel" "rows" "[I") (List.mem_of_getElem? (i := 4) rfl)
  refine lv_aload_n hx hb dX5_office_0 rfl (lv_at hl 0 rfl) ?_
  refine va_get (D := D) (ci := 5) (v := .int (nI pl)) (C := RX5) (T := TX5) (N := 24) hx hb hts uX5 hown hK hP 0 rfl rfl 1 (by decide) w1 (fun _ h9 => h9) rfl dX5_office_1 ?_
  refine lv_iconst (v := 5) hx hb dX5_office_4 (by decide) ?_
  refine lv_icmp_lt (tgt := 29) hx hb dX5_office_5 (by decide) (fun c1 => ?_) (fun c1 => ?_)
  · have q1 : pl < 5 := nlt_d (a := pl) (b := 5) rfl rfl (by omega) (by omega) c1
    refine lv_bipush (v := (-103)) hx hb dX5_office_29 (by decide) ?_
    have e_M_1 : (f_X5_office_M_1 pl co) = nI pl := (by simp only [f_X5_office_M_1, if_pos c1])
    have e_M_13 : (f_X5_office_M_13 pl co bk) = nI bk := (by simp only [f_X5_office_M_13, if_pos c1])
    have e_M_2 : (f_X5_office_M_2 pl co nl) = nI nl := (by simp only [f_X5_office_M_2, if_pos c1])
    have e_M_3 : (f_X5_office_M_3 pl co mi) = mi := (by simp only [f_X5_office_M_3, if_pos c1])
    have e_M_4 : (f_X5_office_M_4 ofr pl co) = ofr := (by simp only [f_X5_office_M_4, if_pos c1])
    have e_M_6 : (f_X5_office_M_6 pl co pe) = nI pe := (by simp only [f_X5_office_M_6, if_pos c1])
    have e_Mr : (f_X5_office_Mr pl co ro) = ro := (by simp only [f_X5_office_Mr, if_pos c1])
    exact eXi hx hb hr hlk hQ (by rw [e_M_1, e_M_13, e_M_2, e_M_3, e_M_4, e_M_6, e_Mr]; exact hP) (by rw [e_M_1, e_M_13, e_M_2, e_M_3, e_M_4, e_M_6, e_Mr]; exact hD) hS dX5_office_31 (Eq.symm (by simp only [f_X5_office, if_pos c1]))
  · have q1 : 5 ≤ pl := nlt_e (a := pl) (b := 5) rfl rfl (by omega) (by omega) c1
    refine lv_aload_n hx hb dX5_office_8 rfl (lv_at hl 0 rfl) ?_
    refine va_get (D := D) (ci := 5) (v := .int (nI pl)) (C := RX5) (T := TX5) (N := 24) hx hb hts uX5 hown hK hP 0 rfl rfl 1 (by decide) w1 (fun _ h9 => h9) rfl dX5_office_9 ?_
    refine lv_iconst (v := 3) hx hb dX5_office_12 (by decide) ?_
    refine lv_irem hx hb dX5_office_13 (by decide) ?_
    refine lv_iconst (v := 2) hx hb dX5_office_14 (by decide) ?_
    refine lv_icmp_ne (tgt := 29) hx hb dX5_office_15 (by decide) (fun c2 => ?_) (fun c2 => ?_)
    · refine lv_bipush (v := (-103)) hx hb dX5_office_29 (by decide) ?_
      have e_M_1 : (f_X5_office_M_1 pl co) = nI pl := (by simp only [f_X5_office_M_1, if_neg c1, if_neg c2])
      have e_M_13 : (f_X5_office_M_13 pl co bk) = nI bk := (by simp only [f_X5_office_M_13, if_neg c1, if_neg c2])
      have e_M_2 : (f_X5_office_M_2 pl co nl) = nI nl := (by simp only [f_X5_office_M_2, if_neg c1, if_neg c2])
      have e_M_3 : (f_X5_office_M_3 pl co mi) = mi := (by simp only [f_X5_office_M_3, if_neg c1, if_neg c2])
      have e_M_4 : (f_X5_office_M_4 ofr pl co) = ofr := (by simp only [f_X5_office_M_4, if_neg c1, if_neg c2])
      have e_M_6 : (f_X5_office_M_6 pl co pe) = nI pe := (by simp only [f_X5_office_M_6, if_neg c1, if_neg c2])
      have e_Mr : (f_X5_office_Mr pl co ro) = ro := (by simp only [f_X5_office_Mr, if_neg c1, if_neg c2])
      exact eXi hx hb hr hlk hQ (by rw [e_M_1, e_M_13, e_M_2, e_M_3, e_M_4, e_M_6, e_Mr]; exact hP) (by rw [e_M_1, e_M_13, e_M_2, e_M_3, e_M_4, e_M_6, e_Mr]; exact hD) hS dX5_office_31 (Eq.symm (by simp only [f_X5_office, if_neg c1, if_neg c2]))
    · refine lv_aload_n hx hb dX5_office_18 rfl (lv_at hl 0 rfl) ?_
      refine rV ⟨hx, hb, hml, hown, hts⟩ (c_X5_faultOf l D cI aM aMp aMr aMs aMl aMg aMb aMo aMkr aMks aMkb ofr rd pl co nl mi pe kmi kpe bc bk sd ko kbk ha hpl) (cwV 0 hts gX5_office_X5_faultOf rfl rfl rfl hd_X5_faultOf ⟨Nat.le_of_ble_eq_true rfl, Nat.le_of_ble_eq_true rfl⟩) hK (hP.sub [0, 1] rfl) 0 rfl rfl rfl rfl hl.1 (rest := []) (st' := [.int (f_X5_faultOf pl co)]) rfl rfl (Nat.le_of_ble_eq_true rfl) dX5_office_19 ⟨Nat.zero_le _, Nat.zero_le _⟩ ?_
      refine lv_aload_n hx hb dX5_office_22 rfl (lv_at hl 0 rfl) ?_
      refine va_get (D := D) (ci := 5) (v := .int (nI pl)) (C := RX5) (T := TX5) (N := 24) hx hb hts uX5 hown hK hP 0 rfl rfl 1 (by decide) w1 (fun _ h9 => h9) rfl dX5_office_23 ?_
      refine lv_icmp_ge (tgt := 32) hx hb dX5_office_26 (by decide) (fun c3 => ?_) (fun c3 => ?_)
      · have hp17 : pl ≤ 17 := fault17 hpl c3
        refine lv_aload_n hx hb dX5_office_32 rfl (lv_at hl 0 rfl) ?_
        refine lv_aload_n hx hb dX5_office_33 rfl (lv_at hl 0 rfl) ?_
        refine va_get (D := D) (ci := 5) (v := .int (nI pl)) (C := RX5) (T := TX5) (N := 24) hx hb hts uX5 hown hK hP 0 rfl rfl 1 (by decide) w1 (fun _ h9 => h9) rfl dX5_office_34 ?_
        refine lv_iconst (v := 1) hx hb dX5_office_37 (by decide) ?_
        refine lv_iadd hx hb dX5_office_38 ?_
        refine lv_iconst (v := 3) hx hb dX5_office_39 (by decide) ?_
        refine lv_idiv hx hb dX5_office_40 (by decide) ?_
        refine tpi (y := nI ((pl + 1) / 3)) (pg_div hpl) ?_
        refine va_put (D := D) (ci := 5) (v := .int (nI ((pl + 1) / 3))) (ty := .int) (C := RX5) (T := TX5) (N := 24) hx hb hts uX5 tyX5 tyX5_ok nmX5 hown hK hP hD hS 0 rfl rfl 2 (by decide) w2 (fun _ h9 => h9) rfl (by decide +kernel) rfl rfl (Nat.le_of_ble_eq_true rfl) dX5_office_41 (fun H locs hP hD hS => ?_)
        have hP : va_P D vwCl [(aM, .inr (5, [.ref aMp, .int (nI pl), .int (nI ((pl + 1) / 3)), .int mi, .int ofr, .ref aMr, .int (nI pe), .ref aMs, .ref aMl, .int bc, .int rd, .ref aMg, .ref aMb, .int (nI bk), .ref aMo, .int sd, .int ko, .int kpe, .int kmi, .int kbk, .ref aMkr, .ref aMks, .ref aMkb, .long ha])), (aMp, .inl (cI, 20, .inl co)), (aMr, .inl (cI, 18, .inl ro))] H := hP
        have hD : va_D A [(aM, .inr (5, [.ref aMp, .int (nI pl), .int (nI ((pl + 1) / 3)), .int mi, .int ofr, .ref aMr, .int (nI pe), .ref aMs, .ref aMl, .int bc, .int rd, .ref aMg, .ref aMb, .int (nI bk), .ref aMo, .int sd, .int ko, .int kpe, .int kmi, .int kbk, .ref aMkr, .ref aMks, .ref aMkb, .long ha])), (aMp, .inl (cI, 20, .inl co)), (aMr, .inl (cI, 18, .inl ro))] := hD
        refine lv_iconst (v := 0) hx hb dX5_office_44 (by decide) ?_
        refine lv_istore_n (lv' := [(1, .int 0), (0, .ref aM)]) hx hb dX5_office_45 rfl hl (by decide) rfl (fun ls hl => ?_)
        have lp46 : ∀ (k46 i1 : Nat), i1 + k46 = (pl + 1) / 3 → ∀ (H : Heap) (locs : List Loc), va_P D vwCl [(aM, .inr (5, [.ref aMp, .int (nI pl), .int (nI ((pl + 1) / 3)), .int mi, .int ofr, .ref aMr, .int (nI pe), .ref aMs, .ref aMl, .int bc, .int rd, .ref aMg, .ref aMb, .int (nI bk), .ref aMo, .int sd, .int ko, .int kpe, .int kmi, .int kbk, .ref aMkr, .ref aMks, .ref aMkb, .long ha])), (aMp, .inl (cI, 20, .inl co)), (aMr, .inl (cI, 18, .inl ((f_X5_office_46_Mr co ro i1))))] H → va_D A [(aM, .inr (5, [.ref aMp, .int (nI pl), .int (nI ((pl + 1) / 3)), .int mi, .int ofr, .ref aMr, .int (nI pe), .ref aMs, .ref aMl, .int bc, .int rd, .ref aMg, .ref aMb, .int (nI bk), .ref aMo, .int sd, .int ko, .int kpe, .int kmi, .int kbk, .ref aMkr, .ref aMks, .ref aMkb, .long ha])), (aMp, .inl (cI, 20, .inl co)), (aMr, .inl (cI, 18, .inl ((f_X5_office_46_Mr co ro i1))))] → va_S A s.heap H locs → ∀ ls : Array Slot, lv_has ls 4 [(0, .ref aM), (1, .int (nI i1))] → W p l e rm_X5_office s m args below meth c H locs 0 0 Q (F0 m 46 ls []) := by
          intro k46
          induction k46 with
          | zero =>
            intro i1 hk46 H locs hP hD hS ls hl
            have hN46 : (pl + 1) / 3 = i1 := by omega
            subst hN46
            refine lv_iload_n hx hb dX5_office_46 rfl (lv_at hl 1 rfl) ?_
            refine lv_aload_n hx hb dX5_office_47 rfl (lv_at hl 0 rfl) ?_
            refine va_get (D := D) (ci := 5) (v := .int (nI ((pl + 1) / 3))) (C := RX5) (T := TX5) (N := 24) hx hb hts uX5 hown hK hP 0 rfl rfl 2 (by decide) w2 (fun _ h9 => h9) rfl dX5_office_48 ?_
            refine lv_icmp_ge (tgt := 130) hx hb dX5_office_51 (by decide) (fun _ => ?_) (fun c => absurd (nle_t (a := (pl + 1) / 3) (b := ((pl + 1) / 3)) rfl rfl (by omega) (by omega) (by omega)) c)
            refine lv_aload_n hx hb dX5_office_130 rfl (lv_at hl 0 rfl) ?_
            refine lv_iconst (v := 0) hx hb dX5_office_131 (by decide) ?_
            refine va_put (D := D) (ci := 5) (v := .int 0) (ty := .int) (C := RX5) (T := TX5) (N := 24) hx hb hts uX5 tyX5 tyX5_ok nmX5 hown hK hP hD hS 0 rfl rfl 3 (by decide) w5 (fun _ h9 => h9) rfl (by decide +kernel) rfl rfl (Nat.le_of_ble_eq_true rfl) dX5_office_132 (fun H locs hP hD hS => ?_)
            have hP : va_P D vwCl [(aM, .inr (5, [.ref aMp, .int (nI pl), .int (nI ((pl + 1) / 3)), .int 0, .int ofr, .ref aMr, .int (nI pe), .ref aMs, .ref aMl, .int bc, .int rd, .ref aMg, .ref aMb, .int (nI bk), .ref aMo, .int sd, .int ko, .int kpe, .int kmi, .int kbk, .ref aMkr, .ref aMks, .ref aMkb, .long ha])), (aMp, .inl (cI, 20, .inl co)), (aMr, .inl (cI, 18, .inl ((f_X5_office_46_Mr co ro ((pl + 1) / 3)))))] H := hP
            have hD : va_D A [(aM, .inr (5, [.ref aMp, .int (nI pl), .int (nI ((pl + 1) / 3)), .int 0, .int ofr, .ref aMr, .int (nI pe), .ref aMs, .ref aMl, .int bc, .int rd, .ref aMg, .ref aMb, .int (nI bk), .ref aMo, .int sd, .int ko, .int kpe, .int kmi, .int kbk, .ref aMkr, .ref aMks, .ref aMkb, .long ha])), (aMp, .inl (cI, 20, .inl co)), (aMr, .inl (cI, 18, .inl ((f_X5_office_46_Mr co ro ((pl + 1) / 3)))))] := hD
            refine lv_aload_n hx hb dX5_office_135 rfl (lv_at hl 0 rfl) ?_
            refine lv_iconst (v := 0) hx hb dX5_office_136 (by decide) ?_
            refine va_put (D := D) (ci := 5) (v := .int 0) (ty := .int) (C := RX5) (T := TX5) (N := 24) hx hb hts uX5 tyX5 tyX5_ok nmX5 hown hK hP hD hS 0 rfl rfl 6 (by decide) w6 (fun _ h9 => h9) rfl (by decide +kernel) rfl rfl (Nat.le_of_ble_eq_true rfl) dX5_office_137 (fun H locs hP hD hS => ?_)
            have hP : va_P D vwCl [(aM, .inr (5, [.ref aMp, .int (nI pl), .int (nI ((pl + 1) / 3)), .int 0, .int ofr, .ref aMr, .int 0, .ref aMs, .ref aMl, .int bc, .int rd, .ref aMg, .ref aMb, .int (nI bk), .ref aMo, .int sd, .int ko, .int kpe, .int kmi, .int kbk, .ref aMkr, .ref aMks, .ref aMkb, .long ha])), (aMp, .inl (cI, 20, .inl co)), (aMr, .inl (cI, 18, .inl ((f_X5_office_46_Mr co ro ((pl + 1) / 3)))))] H := hP
            have hD : va_D A [(aM, .inr (5, [.ref aMp, .int (nI pl), .int (nI ((pl + 1) / 3)), .int 0, .int ofr, .ref aMr, .int 0, .ref aMs, .ref aMl, .int bc, .int rd, .ref aMg, .ref aMb, .int (nI bk), .ref aMo, .int sd, .int ko, .int kpe, .int kmi, .int kbk, .ref aMkr, .ref aMks, .ref aMkb, .long ha])), (aMp, .inl (cI, 20, .inl co)), (aMr, .inl (cI, 18, .inl ((f_X5_office_46_Mr co ro ((pl + 1) / 3)))))] := hD
            refine lv_aload_n hx hb dX5_office_140 rfl (lv_at hl 0 rfl) ?_
            refine lv_iconst (v := 0) hx hb dX5_office_141 (by decide) ?_
            refine va_put (D := D) (ci := 5) (v := .int 0) (ty := .int) (C := RX5) (T := TX5) (N := 24) hx hb hts uX5 tyX5 tyX5_ok nmX5 hown hK hP hD hS 0 rfl rfl 13 (by decide) w7 (fun _ h9 => h9) rfl (by decide +kernel) rfl rfl (Nat.le_of_ble_eq_true rfl) dX5_office_142 (fun H locs hP hD hS => ?_)
            have hP : va_P D vwCl [(aM, .inr (5, [.ref aMp, .int (nI pl), .int (nI ((pl + 1) / 3)), .int 0, .int ofr, .ref aMr, .int 0, .ref aMs, .ref aMl, .int bc, .int rd, .ref aMg, .ref aMb, .int 0, .ref aMo, .int sd, .int ko, .int kpe, .int kmi, .int kbk, .ref aMkr, .ref aMks, .ref aMkb, .long ha])), (aMp, .inl (cI, 20, .inl co)), (aMr, .inl (cI, 18, .inl ((f_X5_office_46_Mr co ro ((pl + 1) / 3)))))] H := hP
            have hD : va_D A [(aM, .inr (5, [.ref aMp, .int (nI pl), .int (nI ((pl + 1) / 3)), .int 0, .int ofr, .ref aMr, .int 0, .ref aMs, .ref aMl, .int bc, .int rd, .ref aMg, .ref aMb, .int 0, .ref aMo, .int sd, .int ko, .int kpe, .int kmi, .int kbk, .ref aMkr, .ref aMks, .ref aMkb, .long ha])), (aMp, .inl (cI, 20, .inl co)), (aMr, .inl (cI, 18, .inl ((f_X5_office_46_Mr co ro ((pl + 1) / 3)))))] := hD
            refine lv_aload_n hx hb dX5_office_145 rfl (lv_at hl 0 rfl) ?_
            refine lv_dup hx hb dX5_office_146 rfl ?_
            refine va_get (D := D) (ci := 5) (v := .int ofr) (C := RX5) (T := TX5) (N := 24) hx hb hts uX5 hown hK hP 0 rfl rfl 4 (by decide) w8 (fun _ h9 => h9) rfl dX5_office_147 ?_
            refine lv_iconst (v := 1) hx hb dX5_office_150 (by decide) ?_
            refine lv_iadd hx hb dX5_office_151 ?_
            refine va_put (D := D) (ci := 5) (v := .int (ofr + 1)) (ty := .int) (C := RX5) (T := TX5) (N := 24) hx hb hts uX5 tyX5 tyX5_ok nmX5 hown hK hP hD hS 0 rfl rfl 4 (by decide) w8 (fun _ h9 => h9) rfl (by decide +kernel) rfl rfl (Nat.le_of_ble_eq_true rfl) dX5_office_152 (fun H locs hP hD hS => ?_)
            have hP : va_P D vwCl [(aM, .inr (5, [.ref aMp, .int (nI pl), .int (nI ((pl + 1) / 3)), .int 0, .int (ofr + 1), .ref aMr, .int 0, .ref aMs, .ref aMl, .int bc, .int rd, .ref aMg, .ref aMb, .int 0, .ref aMo, .int sd, .int ko, .int kpe, .int kmi, .int kbk, .ref aMkr, .ref aMks, .ref aMkb, .long ha])), (aMp, .inl (cI, 20, .inl co)), (aMr, .inl (cI, 18, .inl ((f_X5_office_46_Mr co ro ((pl + 1) / 3)))))] H := hP
            have hD : va_D A [(aM, .inr (5, [.ref aMp, .int (nI pl), .int (nI ((pl + 1) / 3)), .int 0, .int (ofr + 1), .ref aMr, .int 0, .ref aMs, .ref aMl, .int bc, .int rd, .ref aMg, .ref aMb, .int 0, .ref aMo, .int sd, .int ko, .int kpe, .int kmi, .int kbk, .ref aMkr, .ref aMks, .ref aMkb, .long ha])), (aMp, .inl (cI, 20, .inl co)), (aMr, .inl (cI, 18, .inl ((f_X5_office_46_Mr co ro ((pl + 1) / 3)))))] := hD
            refine lv_aload_n hx hb dX5_office_155 rfl (lv_at hl 0 rfl) ?_
            refine lv_iconst (v := 0) hx hb dX5_office_156 (by decide) ?_
            refine va_put (D := D) (ci := 5) (v := .int 0) (ty := .int) (C := RX5) (T := TX5) (N := 24) hx hb hts uX5 tyX5 tyX5_ok nmX5 hown hK hP hD hS 0 rfl rfl 1 (by decide) w1 (fun _ h9 => h9) rfl (by decide +kernel) rfl rfl (Nat.le_of_ble_eq_true rfl) dX5_office_157 (fun H locs hP hD hS => ?_)
            have hP : va_P D vwCl [(aM, .inr (5, [.ref aMp, .int 0, .int (nI ((pl + 1) / 3)), .int 0, .int (ofr + 1), .ref aMr, .int 0, .ref aMs, .ref aMl, .int bc, .int rd, .ref aMg, .ref aMb, .int 0, .ref aMo, .int sd, .int ko, .int kpe, .int kmi, .int kbk, .ref aMkr, .ref aMks, .ref aMkb, .long ha])), (aMp, .inl (cI, 20, .inl co)), (aMr, .inl (cI, 18, .inl ((f_X5_office_46_Mr co ro ((pl + 1) / 3)))))] H := hP
            have hD : va_D A [(aM, .inr (5, [.ref aMp, .int 0, .int (nI ((pl + 1) / 3)), .int 0, .int (ofr + 1), .ref aMr, .int 0, .ref aMs, .ref aMl, .int bc, .int rd, .ref aMg, .ref aMb, .int 0, .ref aMo, .int sd, .int ko, .int kpe, .int kmi, .int kbk, .ref aMkr, .ref aMks, .ref aMkb, .long ha])), (aMp, .inl (cI, 20, .inl co)), (aMr, .inl (cI, 18, .inl ((f_X5_office_46_Mr co ro ((pl + 1) / 3)))))] := hD
            refine lv_aload_n hx hb dX5_office_160 rfl (lv_at hl 0 rfl) ?_
            refine va_get (D := D) (ci := 5) (v := .int (nI ((pl + 1) / 3))) (C := RX5) (T := TX5) (N := 24) hx hb hts uX5 hown hK hP 0 rfl rfl 2 (by decide) w2 (fun _ h9 => h9) rfl dX5_office_161 ?_
            have e_M_1 : (f_X5_office_M_1 pl co) = 0 := (by simp only [f_X5_office_M_1, if_neg c1, if_pos c2, if_pos c3])
            have e_M_13 : (f_X5_office_M_13 pl co bk) = 0 := (by simp only [f_X5_office_M_13, if_neg c1, if_pos c2, if_pos c3])
            have e_M_2 : (f_X5_office_M_2 pl co nl) = nI ((pl + 1) / 3) := (by simp only [f_X5_office_M_2, if_neg c1, if_pos c2, if_pos c3])
            have e_M_3 : (f_X5_office_M_3 pl co mi) = 0 := (by simp only [f_X5_office_M_3, if_neg c1, if_pos c2, if_pos c3])
            have e_M_4 : (f_X5_office_M_4 ofr pl co) = (ofr + 1) := (by simp only [f_X5_office_M_4, if_neg c1, if_pos c2, if_pos c3])
            have e_M_6 : (f_X5_office_M_6 pl co pe) = 0 := (by simp only [f_X5_office_M_6, if_neg c1, if_pos c2, if_pos c3])
            have e_Mr : (f_X5_office_Mr pl co ro) = (f_X5_office_46_Mr co ro ((pl + 1) / 3)) := (by simp only [f_X5_office_Mr, if_neg c1, if_pos c2, if_pos c3])
            exact eXi hx hb hr hlk hQ (by rw [e_M_1, e_M_13, e_M_2, e_M_3, e_M_4, e_M_6, e_Mr]; exact hP) (by rw [e_M_1, e_M_13, e_M_2, e_M_3, e_M_4, e_M_6, e_Mr]; exact hD) hS dX5_office_164 (Eq.symm (by simp only [f_X5_office, if_neg c1, if_pos c2, if_pos c3]))
          | succ k46 ih46 =>
            intro i1 hk46 H locs hP hD hS ls hl
            refine lv_iload_n hx hb dX5_office_46 rfl (lv_at hl 1 rfl) ?_
            refine lv_aload_n hx hb dX5_office_47 rfl (lv_at hl 0 rfl) ?_
            refine va_get (D := D) (ci := 5) (v := .int (nI ((pl + 1) / 3))) (C := RX5) (T := TX5) (N := 24) hx hb hts uX5 hown hK hP 0 rfl rfl 2 (by decide) w2 (fun _ h9 => h9) rfl dX5_office_48 ?_
            refine lv_icmp_ge (tgt := 130) hx hb dX5_office_51 (by decide) (fun c => absurd c (nle_f (a := (pl + 1) / 3) (b := i1) rfl rfl (by omega) (by omega) (by omega))) (fun _ => ?_)
            refine lv_aload_n hx hb dX5_office_54 rfl (lv_at hl 0 rfl) ?_
            refine va_get (D := D) (ci := 5) (v := .ref aMp) (C := RX5) (T := TX5) (N := 24) hx hb hts uX5 hown hK hP 0 rfl rfl 0 (by decide) w3 (fun _ h9 => h9) rfl dX5_office_55 ?_
            refine lv_iconst (v := 3) hx hb dX5_office_58 (by decide) ?_
            refine lv_iload_n hx hb dX5_office_59 rfl (lv_at hl 1 rfl) ?_
            refine lv_imul hx hb dX5_office_60 ?_
            refine xald hx hb hK hP 1 rfl (3 * i1) (ix_mul rfl rfl) (by omega) (by decide) dX5_office_61 ?_
            refine rS ⟨hx, hb, hml, hown, hts⟩ (c_X5_kindBy l D cI (co (3 * i1))) (va_cwS 1 hts gX5_office_X5_kindBy rfl rfl rfl hd_X5_kindBy ⟨Nat.le_of_ble_eq_true rfl, Nat.le_of_ble_eq_true rfl⟩) hK (hP.sub [] rfl) rfl hl.1 (rest := []) (st' := [.int (f_X5_kindBy (co (3 * i1)))]) rfl rfl (Nat.le_of_ble_eq_true rfl) dX5_office_62 ⟨Nat.zero_le _, Nat.zero_le _⟩ ?_
            refine lv_istore_n (lv' := [(2, .int (f_X5_kindBy (co (3 * i1)))), (0, .ref aM), (1, .int (nI i1))]) hx hb dX5_office_65 rfl hl (by decide) rfl (fun ls hl => ?_)
            refine lv_aload_n hx hb dX5_office_66 rfl (lv_at hl 1 rfl) ?_
            refine va_get (D := D) (ci := 5) (v := .ref aMp) (C := RX5) (T := TX5) (N := 24) hx hb hts uX5 hown hK hP 0 rfl rfl 0 (by decide) w3 (fun _ h9 => h9) rfl dX5_office_67 ?_
            refine lv_iconst (v := 3) hx hb dX5_office_70 (by decide) ?_
            refine lv_iload_n hx hb dX5_office_71 rfl (lv_at hl 2 rfl) ?_
            refine lv_imul hx hb dX5_office_72 ?_
            refine lv_iconst (v := 1) hx hb dX5_office_73 (by decide) ?_
            refine lv_iadd hx hb dX5_office_74 ?_
            refine xald hx hb hK hP 1 rfl ((3 * i1) + 1) (ix_add (ix_mul rfl rfl) rfl) (by omega) (by decide) dX5_office_75 ?_
            refine lv_bipush (v := 48) hx hb dX5_office_76 (by decide) ?_
            refine lv_isub hx hb dX5_office_78 ?_
            refine lv_istore_n (lv' := [(3, .int ((co ((3 * i1) + 1)) - 48)), (2, .int (f_X5_kindBy (co (3 * i1)))), (0, .ref aM), (1, .int (nI i1))]) hx hb dX5_office_79 rfl hl (by decide) rfl (fun ls hl => ?_)
            refine lv_aload_n hx hb dX5_office_80 rfl (lv_at hl 2 rfl) ?_
            refine va_get (D := D) (ci := 5) (v := .ref aMr) (C := RX5) (T := TX5) (N := 24) hx hb hts uX5 hown hK hP 0 rfl rfl 5 (by decide) w4 (fun _ h9 => h9) rfl dX5_office_81 ?_
            refine lv_iconst (v := 3) hx hb dX5_office_84 (by decide) ?_
            refine lv_iload_n hx hb dX5_office_85 rfl (lv_at hl 3 rfl) ?_
            refine lv_imul hx hb dX5_office_86 ?_
            refine lv_iload_n hx hb dX5_office_87 rfl (lv_at hl 1 rfl) ?_
            refine xast hx hb hK hP hD hS 2 rfl (3 * i1) (ix_mul rfl rfl) (by omega) (by decide) dX5_office_88 (fun H locs hP hD hS => ?_)
            have hP : va_P D vwCl [(aM, .inr (5, [.ref aMp, .int (nI pl), .int (nI ((pl + 1) / 3)), .int mi, .int ofr, .ref aMr, .int (nI pe), .ref aMs, .ref aMl, .int bc, .int rd, .ref aMg, .ref aMb, .int (nI bk), .ref aMo, .int sd, .int ko, .int kpe, .int kmi, .int kbk, .ref aMkr, .ref aMks, .ref aMkb, .long ha])), (aMp, .inl (cI, 20, .inl co)), (aMr, .inl (cI, 18, .inl (upd (f_X5_office_46_Mr co ro i1) (3 * i1) (f_X5_kindBy (co (3 * i1))))))] H := hP
            have hD : va_D A [(aM, .inr (5, [.ref aMp, .int (nI pl), .int (nI ((pl + 1) / 3)), .int mi, .int ofr, .ref aMr, .int (nI pe), .ref aMs, .ref aMl, .int bc, .int rd, .ref aMg, .ref aMb, .int (nI bk), .ref aMo, .int sd, .int ko, .int kpe, .int kmi, .int kbk, .ref aMkr, .ref aMks, .ref aMkb, .long ha])), (aMp, .inl (cI, 20, .inl co)), (aMr, .inl (cI, 18, .inl (upd (f_X5_office_46_Mr co ro i1) (3 * i1) (f_X5_kindBy (co (3 * i1))))))] := hD
            refine lv_aload_n hx hb dX5_office_89 rfl (lv_at hl 2 rfl) ?_
            refine va_get (D := D) (ci := 5) (v := .ref aMr) (C := RX5) (T := TX5) (N := 24) hx hb hts uX5 hown hK hP 0 rfl rfl 5 (by decide) w4 (fun _ h9 => h9) rfl dX5_office_90 ?_
            refine lv_iconst (v := 3) hx hb dX5_office_93 (by decide) ?_
            refine lv_iload_n hx hb dX5_office_94 rfl (lv_at hl 3 rfl) ?_
            refine lv_imul hx hb dX5_office_95 ?_
            refine lv_iconst (v := 1) hx hb dX5_office_96 (by decide) ?_
            refine lv_iadd hx hb dX5_office_97 ?_
            refine lv_iload_n hx hb dX5_office_98 rfl (lv_at hl 1 rfl) ?_
            refine lv_iconst (v := 3) hx hb dX5_office_99 (by decide) ?_
            refine lv_icmp_ne (tgt := 111) hx hb dX5_office_100 (by decide) (fun c4 => ?_) (fun c4 => ?_)
            · refine lv_iload_n hx hb dX5_office_111 rfl (lv_at hl 0 rfl) ?_
              refine xast hx hb hK hP hD hS 2 rfl ((3 * i1) + 1) (ix_add (ix_mul rfl rfl) rfl) (by omega) (by decide) dX5_office_112 (fun H locs hP hD hS => ?_)
              have hP : va_P D vwCl [(aM, .inr (5, [.ref aMp, .int (nI pl), .int (nI ((pl + 1) / 3)), .int mi, .int ofr, .ref aMr, .int (nI pe), .ref aMs, .ref aMl, .int bc, .int rd, .ref aMg, .ref aMb, .int (nI bk), .ref aMo, .int sd, .int ko, .int kpe, .int kmi, .int kbk, .ref aMkr, .ref aMks, .ref aMkb, .long ha])), (aMp, .inl (cI, 20, .inl co)), (aMr, .inl (cI, 18, .inl (upd (upd (f_X5_office_46_Mr co ro i1) (3 * i1) (f_X5_kindBy (co (3 * i1)))) ((3 * i1) + 1) ((co ((3 * i1) + 1)) - 48))))] H := hP
              have hD : va_D A [(aM, .inr (5, [.ref aMp, .int (nI pl), .int (nI ((pl + 1) / 3)), .int mi, .int ofr, .ref aMr, .int (nI pe), .ref aMs, .ref aMl, .int bc, .int rd, .ref aMg, .ref aMb, .int (nI bk), .ref aMo, .int sd, .int ko, .int kpe, .int kmi, .int kbk, .ref aMkr, .ref aMks, .ref aMkb, .long ha])), (aMp, .inl (cI, 20, .inl co)), (aMr, .inl (cI, 18, .inl (upd (upd (f_X5_office_46_Mr co ro i1) (3 * i1) (f_X5_kindBy (co (3 * i1)))) ((3 * i1) + 1) ((co ((3 * i1) + 1)) - 48))))] := hD
              refine lv_aload_n hx hb dX5_office_113 rfl (lv_at hl 2 rfl) ?_
              refine va_get (D := D) (ci := 5) (v := .ref aMr) (C := RX5) (T := TX5) (N := 24) hx hb hts uX5 hown hK hP 0 rfl rfl 5 (by decide) w4 (fun _ h9 => h9) rfl dX5_office_114 ?_
              refine lv_iconst (v := 3) hx hb dX5_office_117 (by decide) ?_
              refine lv_iload_n hx hb dX5_office_118 rfl (lv_at hl 3 rfl) ?_
              refine lv_imul hx hb dX5_office_119 ?_
              refine lv_iconst (v := 2) hx hb dX5_office_120 (by decide) ?_
              refine lv_iadd hx hb dX5_office_121 ?_
              refine lv_iconst (v := 0) hx hb dX5_office_122 (by decide) ?_
              refine xast hx hb hK hP hD hS 2 rfl ((3 * i1) + 2) (ix_add (ix_mul rfl rfl) rfl) (by omega) (by decide) dX5_office_123 (fun H locs hP hD hS => ?_)
              have hP : va_P D vwCl [(aM, .inr (5, [.ref aMp, .int (nI pl), .int (nI ((pl + 1) / 3)), .int mi, .int ofr, .ref aMr, .int (nI pe), .ref aMs, .ref aMl, .int bc, .int rd, .ref aMg, .ref aMb, .int (nI bk), .ref aMo, .int sd, .int ko, .int kpe, .int kmi, .int kbk, .ref aMkr, .ref aMks, .ref aMkb, .long ha])), (aMp, .inl (cI, 20, .inl co)), (aMr, .inl (cI, 18, .inl (upd (upd (upd (f_X5_office_46_Mr co ro i1) (3 * i1) (f_X5_kindBy (co (3 * i1)))) ((3 * i1) + 1) ((co ((3 * i1) + 1)) - 48)) ((3 * i1) + 2) 0)))] H := hP
              have hD : va_D A [(aM, .inr (5, [.ref aMp, .int (nI pl), .int (nI ((pl + 1) / 3)), .int mi, .int ofr, .ref aMr, .int (nI pe), .ref aMs, .ref aMl, .int bc, .int rd, .ref aMg, .ref aMb, .int (nI bk), .ref aMo, .int sd, .int ko, .int kpe, .int kmi, .int kbk, .ref aMkr, .ref aMks, .ref aMkb, .long ha])), (aMp, .inl (cI, 20, .inl co)), (aMr, .inl (cI, 18, .inl (upd (upd (upd (f_X5_office_46_Mr co ro i1) (3 * i1) (f_X5_kindBy (co (3 * i1)))) ((3 * i1) + 1) ((co ((3 * i1) + 1)) - 48)) ((3 * i1) + 2) 0)))] := hD
              refine lv_iinc (v := nI (i1 + 1)) (lv' := [(1, .int (nI (i1 + 1))), (3, .int ((co ((3 * i1) + 1)) - 48)), (2, .int (f_X5_kindBy (co (3 * i1)))), (0, .ref aM)]) hx hb dX5_office_124 hl (k := 3) rfl (nI_add i1 1) (by decide) rfl (fun ls hl => ?_)
              refine lv_goto (tgt := 46) hx hb dX5_office_127 (by decide) ?_
              have e_Mr : (f_X5_office_46_Mr co ro (i1 + 1)) = (upd (upd (upd (f_X5_office_46_Mr co ro i1) (3 * i1) (f_X5_kindBy (co (3 * i1)))) ((3 * i1) + 1) ((co ((3 * i1) + 1)) - 48)) ((3 * i1) + 2) 0) := (by simp only [f_X5_office_46_Mr, if_neg c4])
              exact ih46 (i1 + 1) (by omega) _ _ (by rw [e_Mr]; exact hP) (by rw [e_Mr]; exact hD) hS ls (lv_sub hl [3, 0] rfl)
            · refine lv_iload_n hx hb dX5_office_103 rfl (lv_at hl 0 rfl) ?_
              refine lv_iconst (v := 1) hx hb dX5_office_104 (by decide) ?_
              refine lv_iadd hx hb dX5_office_105 ?_
              refine lv_iconst (v := 2) hx hb dX5_office_106 (by decide) ?_
              refine lv_idiv hx hb dX5_office_107 (by decide) ?_
              refine lv_goto (tgt := 112) hx hb dX5_office_108 (by decide) ?_
              refine xast hx hb hK hP hD hS 2 rfl ((3 * i1) + 1) (ix_add (ix_mul rfl rfl) rfl) (by omega) (by decide) dX5_office_112 (fun H locs hP hD hS => ?_)
              have hP : va_P D vwCl [(aM, .inr (5, [.ref aMp, .int (nI pl), .int (nI ((pl + 1) / 3)), .int mi, .int ofr, .ref aMr, .int (nI pe), .ref aMs, .ref aMl, .int bc, .int rd, .ref aMg, .ref aMb, .int (nI bk), .ref aMo, .int sd, .int ko, .int kpe, .int kmi, .int kbk, .ref aMkr, .ref aMks, .ref aMkb, .long ha])), (aMp, .inl (cI, 20, .inl co)), (aMr, .inl (cI, 18, .inl (upd (upd (f_X5_office_46_Mr co ro i1) (3 * i1) (f_X5_kindBy (co (3 * i1)))) ((3 * i1) + 1) ((((co ((3 * i1) + 1)) - 48) + 1) / 2))))] H := hP
              have hD : va_D A [(aM, .inr (5, [.ref aMp, .int (nI pl), .int (nI ((pl + 1) / 3)), .int mi, .int ofr, .ref aMr, .int (nI pe), .ref aMs, .ref aMl, .int bc, .int rd, .ref aMg, .ref aMb, .int (nI bk), .ref aMo, .int sd, .int ko, .int kpe, .int kmi, .int kbk, .ref aMkr, .ref aMks, .ref aMkb, .long ha])), (aMp, .inl (cI, 20, .inl co)), (aMr, .inl (cI, 18, .inl (upd (upd (f_X5_office_46_Mr co ro i1) (3 * i1) (f_X5_kindBy (co (3 * i1)))) ((3 * i1) + 1) ((((co ((3 * i1) + 1)) - 48) + 1) / 2))))] := hD
              refine lv_aload_n hx hb dX5_office_113 rfl (lv_at hl 2 rfl) ?_
              refine va_get (D := D) (ci := 5) (v := .ref aMr) (C := RX5) (T := TX5) (N := 24) hx hb hts uX5 hown hK hP 0 rfl rfl 5 (by decide) w4 (fun _ h9 => h9) rfl dX5_office_114 ?_
              refine lv_iconst (v := 3) hx hb dX5_office_117 (by decide) ?_
              refine lv_iload_n hx hb dX5_office_118 rfl (lv_at hl 3 rfl) ?_
              refine lv_imul hx hb dX5_office_119 ?_
              refine lv_iconst (v := 2) hx hb dX5_office_120 (by decide) ?_
              refine lv_iadd hx hb dX5_office_121 ?_
              refine lv_iconst (v := 0) hx hb dX5_office_122 (by decide) ?_
              refine xast hx hb hK hP hD hS 2 rfl ((3 * i1) + 2) (ix_add (ix_mul rfl rfl) rfl) (by omega) (by decide) dX5_office_123 (fun H locs hP hD hS => ?_)
              have hP : va_P D vwCl [(aM, .inr (5, [.ref aMp, .int (nI pl), .int (nI ((pl + 1) / 3)), .int mi, .int ofr, .ref aMr, .int (nI pe), .ref aMs, .ref aMl, .int bc, .int rd, .ref aMg, .ref aMb, .int (nI bk), .ref aMo, .int sd, .int ko, .int kpe, .int kmi, .int kbk, .ref aMkr, .ref aMks, .ref aMkb, .long ha])), (aMp, .inl (cI, 20, .inl co)), (aMr, .inl (cI, 18, .inl (upd (upd (upd (f_X5_office_46_Mr co ro i1) (3 * i1) (f_X5_kindBy (co (3 * i1)))) ((3 * i1) + 1) ((((co ((3 * i1) + 1)) - 48) + 1) / 2)) ((3 * i1) + 2) 0)))] H := hP
              have hD : va_D A [(aM, .inr (5, [.ref aMp, .int (nI pl), .int (nI ((pl + 1) / 3)), .int mi, .int ofr, .ref aMr, .int (nI pe), .ref aMs, .ref aMl, .int bc, .int rd, .ref aMg, .ref aMb, .int (nI bk), .ref aMo, .int sd, .int ko, .int kpe, .int kmi, .int kbk, .ref aMkr, .ref aMks, .ref aMkb, .long ha])), (aMp, .inl (cI, 20, .inl co)), (aMr, .inl (cI, 18, .inl (upd (upd (upd (f_X5_office_46_Mr co ro i1) (3 * i1) (f_X5_kindBy (co (3 * i1)))) ((3 * i1) + 1) ((((co ((3 * i1) + 1)) - 48) + 1) / 2)) ((3 * i1) + 2) 0)))] := hD
              refine lv_iinc (v := nI (i1 + 1)) (lv' := [(1, .int (nI (i1 + 1))), (3, .int ((co ((3 * i1) + 1)) - 48)), (2, .int (f_X5_kindBy (co (3 * i1)))), (0, .ref aM)]) hx hb dX5_office_124 hl (k := 3) rfl (nI_add i1 1) (by decide) rfl (fun ls hl => ?_)
              refine lv_goto (tgt := 46) hx hb dX5_office_127 (by decide) ?_
              have e_Mr : (f_X5_office_46_Mr co ro (i1 + 1)) = (upd (upd (upd (f_X5_office_46_Mr co ro i1) (3 * i1) (f_X5_kindBy (co (3 * i1)))) ((3 * i1) + 1) ((((co ((3 * i1) + 1)) - 48) + 1) / 2)) ((3 * i1) + 2) 0) := (by simp only [f_X5_office_46_Mr, if_pos c4])
              exact ih46 (i1 + 1) (by omega) _ _ (by rw [e_Mr]; exact hP) (by rw [e_Mr]; exact hD) hS ls (lv_sub hl [3, 0] rfl)
        exact lp46 ((pl + 1) / 3) 0 (by omega) _ _ hP hD hS ls (lv_sub hl [1, 0] rfl)
      · refine lv_bipush (v := (-103)) hx hb dX5_office_29 (by decide) ?_
        have e_M_1 : (f_X5_office_M_1 pl co) = nI pl := (by simp only [f_X5_office_M_1, if_neg c1, if_pos c2, if_neg c3])
        have e_M_13 : (f_X5_office_M_13 pl co bk) = nI bk := (by simp only [f_X5_office_M_13, if_neg c1, if_pos c2, if_neg c3])
        have e_M_2 : (f_X5_office_M_2 pl co nl) = nI nl := (by simp only [f_X5_office_M_2, if_neg c1, if_pos c2, if_neg c3])
        have e_M_3 : (f_X5_office_M_3 pl co mi) = mi := (by simp only [f_X5_office_M_3, if_neg c1, if_pos c2, if_neg c3])
        have e_M_4 : (f_X5_office_M_4 ofr pl co) = ofr := (by simp only [f_X5_office_M_4, if_neg c1, if_pos c2, if_neg c3])
        have e_M_6 : (f_X5_office_M_6 pl co pe) = nI pe := (by simp only [f_X5_office_M_6, if_neg c1, if_pos c2, if_neg c3])
        have e_Mr : (f_X5_office_Mr pl co ro) = ro := (by simp only [f_X5_office_Mr, if_neg c1, if_pos c2, if_neg c3])
        exact eXi hx hb hr hlk hQ (by rw [e_M_1, e_M_13, e_M_2, e_M_3, e_M_4, e_M_6, e_Mr]; exact hP) (by rw [e_M_1, e_M_13, e_M_2, e_M_3, e_M_4, e_M_6, e_Mr]; exact hD) hS dX5_office_31 (Eq.symm (by simp only [f_X5_office, if_neg c1, if_pos c2, if_neg c3]))

def rm_X5_seesOf : Room := { frames := 0, cells := 0, slots := 0, locals := 0 }
def f_X5_seesOf (nl : Nat) (ro : Nat → Int32) (lj : Nat) : Int32 := (if (ro (3 * lj)) = 1 then (if (ro (3 * lj)) = 4 then (((1 : Int32) <<< (nI nl &&& 31)) - 1) else (((((1 : Int32) <<< (nI lj &&& 31)) ||| ((2 : Int32) <<< (nI lj &&& 31))) ||| (((1 : Int32) <<< (nI lj &&& 31)) >>> (1 &&& 31))) &&& (((1 : Int32) <<< (nI nl &&& 31)) - 1))) else (if (ro (3 * lj)) = 2 then (if (ro (3 * lj)) = 4 then (((1 : Int32) <<< (nI nl &&& 31)) - 1) else (((((1 : Int32) <<< (nI lj &&& 31)) ||| ((2 : Int32) <<< (nI lj &&& 31))) ||| 0) &&& (((1 : Int32) <<< (nI nl &&& 31)) - 1))) else (if (ro (3 * lj)) = 4 then (((1 : Int32) <<< (nI nl &&& 31)) - 1) else (((((1 : Int32) <<< (nI lj &&& 31)) ||| 0) ||| 0) &&& (((1 : Int32) <<< (nI nl &&& 31)) - 1)))))
theorem hd_X5_seesOf : yX5_seesOf.cls = RX5 ∧ yX5_seesOf.cls ≠ "java/lang/invoke/MethodHandle" ∧ yX5_seesOf.cls ≠ "java/lang/invoke/VarHandle" ∧ (parseMethodDescriptor yX5_seesOf.desc).map (fun d => d.parameters.length) = some 1 := by decide +kernel
set_option maxHeartbeats 4000000 in
set_option maxRecDepth 100000 in
theorem c_X5_seesOf (l : Launch) (D : va_G) (cI : ClassId) (aM aMp aMr aMs aMl aMg aMb aMo aMkr aMks aMkb : Nat) (ofr : Int32) (rd : Int32) (pl : Nat) (nl : Nat) (mi : Int32) (pe : Nat) (kmi : Int32) (kpe : Int32) (bc : Int32) (bk : Nat) (sd : Int32) (ko : Int32) (kbk : Int32) (ha : Int64) (ro : Nat → Int32) (lj : Nat) (hn : nl ≤ 6) (hlj : lj < nl) : MetR l yX5_seesOf wsX5_seesOf rm_X5_seesOf D cI [.ref aM, .int (nI lj)] [(aM, .inr (5, [.ref aMp, .int (nI pl), .int (nI nl), .int mi, .int ofr, .ref aMr, .int (nI pe), .ref aMs, .ref aMl, .int bc, .int rd, .ref aMg, .ref aMb, .int (nI bk), .ref aMo, .int sd, .int ko, .int kpe, .int kmi, .int kbk, .ref aMkr, .ref aMks, .ref aMkb, .long ha])), (aMr, .inl (cI, 18, .inl ro))] (some (.int (f_X5_seesOf nl ro lj))) := by
  refine mR (cc := cX5_seesOf) (maxL := 5) (ret := (some .int)) (by decide) rfl (Nat.le_of_ble_eq_true rfl) ?_
  intro p e s m args below meth c Q hx hb hr hml hown hts hlk hP hK hQ ls hl
  have hown : s.vm.findClass RX5 = some m.cls := hown
  have hl : lv_has ls 5 [(0, .ref aM), (1, .int (nI lj))] := hl
  have w1 := hts (.fieldLink RX5 67 "DarkOfficeModel" "lamps" "I") (List.mem_of_getElem? (i := 1) rfl)
  have uX5 : ∀ w ∈ wsX50, w ∈ wsX5_seesOf := fun _ h => List.mem_cons_of_mem _ (List.mem_append_right _ h)
  have w2 := hts (.fieldLink RX5 13 "DarkOfficeModel" "rows" "[I") (List.mem_of_getElem? (i := 2) rfl)
  refine lv_iconst (v := 1) hx hb dX5_seesOf_0 (by decide) ?_
  refine lv_aload_n hx hb dX5_seesOf_1 rfl (lv_at hl 0 rfl) ?_
  refine va_get (D := D) (ci := 5) (v := .int (nI nl)) (C := RX5) (T := TX5) (N := 24) hx hb hts uX5 hown hK hP 0 rfl rfl 2 (by decide) w1 (fun _ h9 => h9) rfl dX5_seesOf_2 ?_
  refine lv_ishl hx hb dX5_seesOf_5 ?_
  refine lv_iconst (v := 1) hx hb dX5_seesOf_6 (by decide) ?_
  refine lv_isub hx hb dX5_seesOf_7 ?_
  refine lv_istore_n (lv' := [(2, .int (((1 : Int32) <<< (nI nl &&& 31)) - 1)), (0, .ref aM), (1, .int (nI lj))]) hx hb dX5_seesOf_8 rfl hl (by decide) rfl (fun ls hl => ?_)
  refine lv_aload_n hx hb dX5_seesOf_9 rfl (lv_at hl 1 rfl) ?_
  refine va_get (D := D) (ci := 5) (v := .ref aMr) (C := RX5) (T := TX5) (N := 24) hx hb hts uX5 hown hK hP 0 rfl rfl 5 (by decide) w2 (fun _ h9 => h9) rfl dX5_seesOf_10 ?_
  refine lv_iconst (v := 3) hx hb dX5_seesOf_13 (by decide) ?_
  refine lv_iload_n hx hb dX5_seesOf_14 rfl (lv_at hl 2 rfl) ?_
  refine lv_imul hx hb dX5_seesOf_15 ?_
  refine xald hx hb hK hP 1 rfl (3 * lj) (ix_mul rfl rfl) (by omega) (by decide) dX5_seesOf_16 ?_
  refine lv_istore_n (lv' := [(3, .int (ro (3 * lj))), (2, .int (((1 : Int32) <<< (nI nl &&& 31)) - 1)), (0, .ref aM), (1, .int (nI lj))]) hx hb dX5_seesOf_17 rfl hl (by decide) rfl (fun ls hl => ?_)
  refine lv_iconst (v := 1) hx hb dX5_seesOf_18 (by decide) ?_
  refine lv_iload_n hx hb dX5_seesOf_19 rfl (lv_at hl 3 rfl) ?_
  refine lv_ishl hx hb dX5_seesOf_20 ?_
  refine lv_istore (lv' := [(4, .int ((1 : Int32) <<< (nI lj &&& 31))), (3, .int (ro (3 * lj))), (2, .int (((1 : Int32) <<< (nI nl &&& 31)) - 1)), (0, .ref aM), (1, .int (nI lj))]) hx hb dX5_seesOf_21 hl (by decide) rfl (fun ls hl => ?_)
  refine lv_iload hx hb dX5_seesOf_23 (lv_at hl 0 rfl) ?_
  refine lv_iload_n hx hb dX5_seesOf_25 rfl (lv_at hl 1 rfl) ?_
  refine lv_iconst (v := 1) hx hb dX5_seesOf_26 (by decide) ?_
  refine lv_icmp_eq (tgt := 35) hx hb dX5_seesOf_27 (by decide) (fun c1 => ?_) (fun c1 => ?_)
  · refine lv_iconst (v := 2) hx hb dX5_seesOf_35 (by decide) ?_
    refine lv_iload_n hx hb dX5_seesOf_36 rfl (lv_at hl 4 rfl) ?_
    refine lv_ishl hx hb dX5_seesOf_37 ?_
    refine lv_goto (tgt := 42) hx hb dX5_seesOf_38 (by decide) ?_
    refine lv_ior hx hb dX5_seesOf_42 ?_
    refine lv_istore (lv' := [(4, .int (((1 : Int32) <<< (nI lj &&& 31)) ||| ((2 : Int32) <<< (nI lj &&& 31)))), (3, .int (ro (3 * lj))), (2, .int (((1 : Int32) <<< (nI nl &&& 31)) - 1)), (0, .ref aM), (1, .int (nI lj))]) hx hb dX5_seesOf_43 hl (by decide) rfl (fun ls hl => ?_)
    refine lv_iload hx hb dX5_seesOf_45 (lv_at hl 0 rfl) ?_
    refine lv_iload_n hx hb dX5_seesOf_47 rfl (lv_at hl 1 rfl) ?_
    refine lv_iconst (v := 1) hx hb dX5_seesOf_48 (by decide) ?_
    refine lv_icmp_ne (tgt := 60) hx hb dX5_seesOf_49 (by decide) (fun c => absurd c1 c) (fun _ => ?_)
    refine lv_iconst (v := 1) hx hb dX5_seesOf_52 (by decide) ?_
    refine lv_iload_n hx hb dX5_seesOf_53 rfl (lv_at hl 4 rfl) ?_
    refine lv_ishl hx hb dX5_seesOf_54 ?_
    refine lv_iconst (v := 1) hx hb dX5_seesOf_55 (by decide) ?_
    refine lv_ishr hx hb dX5_seesOf_56 ?_
    refine lv_goto (tgt := 61) hx hb dX5_seesOf_57 (by decide) ?_
    refine lv_ior hx hb dX5_seesOf_61 ?_
    refine lv_istore (lv' := [(4, .int ((((1 : Int32) <<< (nI lj &&& 31)) ||| ((2 : Int32) <<< (nI lj &&& 31))) ||| (((1 : Int32) <<< (nI lj &&& 31)) >>> (1 &&& 31)))), (3, .int (ro (3 * lj))), (2, .int (((1 : Int32) <<< (nI nl &&& 31)) - 1)), (0, .ref aM), (1, .int (nI lj))]) hx hb dX5_seesOf_62 hl (by decide) rfl (fun ls hl => ?_)
    refine lv_iload_n hx hb dX5_seesOf_64 rfl (lv_at hl 1 rfl) ?_
    refine lv_iconst (v := 4) hx hb dX5_seesOf_65 (by decide) ?_
    refine lv_icmp_ne (tgt := 73) hx hb dX5_seesOf_66 (by decide) (fun c2 => ?_) (fun c2 => ?_)
    · refine lv_iload hx hb dX5_seesOf_73 (lv_at hl 0 rfl) ?_
      refine lv_iload_n hx hb dX5_seesOf_75 rfl (lv_at hl 2 rfl) ?_
      refine lv_iand hx hb dX5_seesOf_76 ?_
      exact eRi hx hb hr hlk hQ dX5_seesOf_77 (Eq.symm (by simp only [f_X5_seesOf, if_pos c1, if_neg c2]))
    · refine lv_iload_n hx hb dX5_seesOf_69 rfl (lv_at hl 2 rfl) ?_
      refine lv_goto (tgt := 77) hx hb dX5_seesOf_70 (by decide) ?_
      exact eRi hx hb hr hlk hQ dX5_seesOf_77 (Eq.symm (by simp only [f_X5_seesOf, if_pos c1, if_pos c2]))
  · refine lv_iload_n hx hb dX5_seesOf_30 rfl (lv_at hl 1 rfl) ?_
    refine lv_iconst (v := 2) hx hb dX5_seesOf_31 (by decide) ?_
    refine lv_icmp_ne (tgt := 41) hx hb dX5_seesOf_32 (by decide) (fun c3 => ?_) (fun c3 => ?_)
    · refine lv_iconst (v := 0) hx hb dX5_seesOf_41 (by decide) ?_
      refine lv_ior hx hb dX5_seesOf_42 ?_
      refine lv_istore (lv' := [(4, .int (((1 : Int32) <<< (nI lj &&& 31)) ||| 0)), (3, .int (ro (3 * lj))), (2, .int (((1 : Int32) <<< (nI nl &&& 31)) - 1)), (0, .ref aM), (1, .int (nI lj))]) hx hb dX5_seesOf_43 hl (by decide) rfl (fun ls hl => ?_)
      refine lv_iload hx hb dX5_seesOf_45 (lv_at hl 0 rfl) ?_
      refine lv_iload_n hx hb dX5_seesOf_47 rfl (lv_at hl 1 rfl) ?_
      refine lv_iconst (v := 1) hx hb dX5_seesOf_48 (by decide) ?_
      refine lv_icmp_ne (tgt := 60) hx hb dX5_seesOf_49 (by decide) (fun _ => ?_) (fun c => absurd c c1)
      refine lv_iconst (v := 0) hx hb dX5_seesOf_60 (by decide) ?_
      refine lv_ior hx hb dX5_seesOf_61 ?_
      refine lv_istore (lv' := [(4, .int ((((1 : Int32) <<< (nI lj &&& 31)) ||| 0) ||| 0)), (3, .int (ro (3 * lj))), (2, .int (((1 : Int32) <<< (nI nl &&& 31)) - 1)), (0, .ref aM), (1, .int (nI lj))]) hx hb dX5_seesOf_62 hl (by decide) rfl (fun ls hl => ?_)
      refine lv_iload_n hx hb dX5_seesOf_64 rfl (lv_at hl 1 rfl) ?_
      refine lv_iconst (v := 4) hx hb dX5_seesOf_65 (by decide) ?_
      refine lv_icmp_ne (tgt := 73) hx hb dX5_seesOf_66 (by decide) (fun c4 => ?_) (fun c4 => ?_)
      · refine lv_iload hx hb dX5_seesOf_73 (lv_at hl 0 rfl) ?_
        refine lv_iload_n hx hb dX5_seesOf_75 rfl (lv_at hl 2 rfl) ?_
        refine lv_iand hx hb dX5_seesOf_76 ?_
        exact eRi hx hb hr hlk hQ dX5_seesOf_77 (Eq.symm (by simp only [f_X5_seesOf, if_neg c1, if_neg c3, if_neg c4]))
      · refine lv_iload_n hx hb dX5_seesOf_69 rfl (lv_at hl 2 rfl) ?_
        refine lv_goto (tgt := 77) hx hb dX5_seesOf_70 (by decide) ?_
        exact eRi hx hb hr hlk hQ dX5_seesOf_77 (Eq.symm (by simp only [f_X5_seesOf, if_neg c1, if_neg c3, if_pos c4]))
    · refine lv_iconst (v := 2) hx hb dX5_seesOf_35 (by decide) ?_
      refine lv_iload_n hx hb dX5_seesOf_36 rfl (lv_at hl 4 rfl) ?_
      refine lv_ishl hx hb dX5_seesOf_37 ?_
      refine lv_goto (tgt := 42) hx hb dX5_seesOf_38 (by decide) ?_
      refine lv_ior hx hb dX5_seesOf_42 ?_
      refine lv_istore (lv' := [(4, .int (((1 : Int32) <<< (nI lj &&& 31)) ||| ((2 : Int32) <<< (nI lj &&& 31)))), (3, .int (ro (3 * lj))), (2, .int (((1 : Int32) <<< (nI nl &&& 31)) - 1)), (0, .ref aM), (1, .int (nI lj))]) hx hb dX5_seesOf_43 hl (by decide) rfl (fun ls hl => ?_)
      refine lv_iload hx hb dX5_seesOf_45 (lv_at hl 0 rfl) ?_
      refine lv_iload_n hx hb dX5_seesOf_47 rfl (lv_at hl 1 rfl) ?_
      refine lv_iconst (v := 1) hx hb dX5_seesOf_48 (by decide) ?_
      refine lv_icmp_ne (tgt := 60) hx hb dX5_seesOf_49 (by decide) (fun _ => ?_) (fun c => absurd c c1)
      refine lv_iconst (v := 0) hx hb dX5_seesOf_60 (by decide) ?_
      refine lv_ior hx hb dX5_seesOf_61 ?_
      refine lv_istore (lv' := [(4, .int ((((1 : Int32) <<< (nI lj &&& 31)) ||| ((2 : Int32) <<< (nI lj &&& 31))) ||| 0)), (3, .int (ro (3 * lj))), (2, .int (((1 : Int32) <<< (nI nl &&& 31)) - 1)), (0, .ref aM), (1, .int (nI lj))]) hx hb dX5_seesOf_62 hl (by decide) rfl (fun ls hl => ?_)
      refine lv_iload_n hx hb dX5_seesOf_64 rfl (lv_at hl 1 rfl) ?_
      refine lv_iconst (v := 4) hx hb dX5_seesOf_65 (by decide) ?_
      refine lv_icmp_ne (tgt := 73) hx hb dX5_seesOf_66 (by decide) (fun c5 => ?_) (fun c5 => ?_)
      · refine lv_iload hx hb dX5_seesOf_73 (lv_at hl 0 rfl) ?_
        refine lv_iload_n hx hb dX5_seesOf_75 rfl (lv_at hl 2 rfl) ?_
        refine lv_iand hx hb dX5_seesOf_76 ?_
        exact eRi hx hb hr hlk hQ dX5_seesOf_77 (Eq.symm (by simp only [f_X5_seesOf, if_neg c1, if_pos c3, if_neg c5]))
      · refine lv_iload_n hx hb dX5_seesOf_69 rfl (lv_at hl 2 rfl) ?_
        refine lv_goto (tgt := 77) hx hb dX5_seesOf_70 (by decide) ?_
        exact eRi hx hb hr hlk hQ dX5_seesOf_77 (Eq.symm (by simp only [f_X5_seesOf, if_neg c1, if_pos c3, if_pos c5]))

def rm_X5_whoSitsIn : Room := { frames := 0, cells := 0, slots := 0, locals := 0 }
def f_X5_whoSitsIn_4_v2 (ss : Nat → Int32) (sect : Int32) : Nat → Int32
  | 0 => 0
  | i1 + 1 => (if (ss (3 * i1)) = sect then ((f_X5_whoSitsIn_4_v2 ss sect i1) ||| ((1 : Int32) <<< (nI i1 &&& 31))) else ((f_X5_whoSitsIn_4_v2 ss sect i1) ||| 0))
def f_X5_whoSitsIn (pe : Nat) (ss : Nat → Int32) (sect : Int32) : Int32 := (f_X5_whoSitsIn_4_v2 ss sect pe)
theorem hd_X5_whoSitsIn : yX5_whoSitsIn.cls = RX5 ∧ yX5_whoSitsIn.cls ≠ "java/lang/invoke/MethodHandle" ∧ yX5_whoSitsIn.cls ≠ "java/lang/invoke/VarHandle" ∧ (parseMethodDescriptor yX5_whoSitsIn.desc).map (fun d => d.parameters.length) = some 1 := by decide +kernel
set_option maxHeartbeats 4000000 in
set_option maxRecDepth 100000 in
theorem c_X5_whoSitsIn (l : Launch) (D : va_G) (cI : ClassId) (aM aMp aMr aMs aMl aMg aMb aMo aMkr aMks aMkb : Nat) (ofr : Int32) (rd : Int32) (pl : Nat) (nl : Nat) (mi : Int32) (pe : Nat) (kmi : Int32) (kpe : Int32) (bc : Int32) (bk : Nat) (sd : Int32) (ko : Int32) (kbk : Int32) (ha : Int64) (ss : Nat → Int32) (sect : Int32) (hpe : pe ≤ 4) : MetR l yX5_whoSitsIn wsX5_whoSitsIn rm_X5_whoSitsIn D cI [.ref aM, .int sect] [(aM, .inr (5, [.ref aMp, .int (nI pl), .int (nI nl), .int mi, .int ofr, .ref aMr, .int (nI pe), .ref aMs, .ref aMl, .int bc, .int rd, .ref aMg, .ref aMb, .int (nI bk), .ref aMo, .int sd, .int ko, .int kpe, .int kmi, .int kbk, .ref aMkr, .ref aMks, .ref aMkb, .long ha])), (aMs, .inl (cI, 12, .inl ss))] (some (.int (f_X5_whoSitsIn pe ss sect))) := by
  refine mR (cc := cX5_whoSitsIn) (maxL := 4) (ret := (some .int)) (by decide) rfl (Nat.le_of_ble_eq_true rfl) ?_
  intro p e s m args below meth c Q hx hb hr hml hown hts hlk hP hK hQ ls hl
  have hown : s.vm.findClass RX5 = some m.cls := hown
  have hl : lv_has ls 4 [(0, .ref aM), (1, .int sect)] := hl
  have w1 := hts (.fieldLink RX5 73 "DarkOfficeModel" "people" "I") (List.mem_of_getElem? (i := 1) rfl)
  have uX5 : ∀ w ∈ wsX50, w ∈ wsX5_whoSitsIn := fun _ h => List.mem_cons_of_mem _ (List.mem_append_right _ h)
  have w2 := hts (.fieldLink RX5 16 "DarkOfficeModel" "seats" "[I") (List.mem_of_getElem? (i := 2) rfl)
  refine lv_iconst (v := 0) hx hb dX5_whoSitsIn_0 (by decide) ?_
  refine lv_istore_n (lv' := [(2, .int 0), (0, .ref aM), (1, .int sect)]) hx hb dX5_whoSitsIn_1 rfl hl (by decide) rfl (fun ls hl => ?_)
  refine lv_iconst (v := 0) hx hb dX5_whoSitsIn_2 (by decide) ?_
  refine lv_istore_n (lv' := [(3, .int 0), (2, .int 0), (0, .ref aM), (1, .int sect)]) hx hb dX5_whoSitsIn_3 rfl hl (by decide) rfl (fun ls hl => ?_)
  have lp4 : ∀ (k4 i1 : Nat), i1 + k4 = pe → ∀ ls : Array Slot, lv_has ls 4 [(0, .ref aM), (1, .int sect), (2, .int ((f_X5_whoSitsIn_4_v2 ss sect i1))), (3, .int (nI i1))] → W p l e rm_X5_whoSitsIn s m args below meth c s.heap [] 0 0 Q (F0 m 4 ls []) := by
    intro k4
    induction k4 with
    | zero =>
      intro i1 hk4 ls hl
      have hN4 : pe = i1 := by omega
      subst hN4
      refine lv_iload_n hx hb dX5_whoSitsIn_4 rfl (lv_at hl 3 rfl) ?_
      refine lv_aload_n hx hb dX5_whoSitsIn_5 rfl (lv_at hl 0 rfl) ?_
      refine va_get (D := D) (ci := 5) (v := .int (nI pe)) (C := RX5) (T := TX5) (N := 24) hx hb hts uX5 hown hK hP 0 rfl rfl 6 (by decide) w1 (fun _ h9 => h9) rfl dX5_whoSitsIn_6 ?_
      refine lv_icmp_ge (tgt := 40) hx hb dX5_whoSitsIn_9 (by decide) (fun _ => ?_) (fun c => absurd (nle_t (a := pe) (b := pe) rfl rfl (by omega) (by omega) (by omega)) c)
      refine lv_iload_n hx hb dX5_whoSitsIn_40 rfl (lv_at hl 2 rfl) ?_
      exact eRi hx hb hr hlk hQ dX5_whoSitsIn_41 (Eq.symm (by simp only [f_X5_whoSitsIn]))
    | succ k4 ih4 =>
      intro i1 hk4 ls hl
      refine lv_iload_n hx hb dX5_whoSitsIn_4 rfl (lv_at hl 3 rfl) ?_
      refine lv_aload_n hx hb dX5_whoSitsIn_5 rfl (lv_at hl 0 rfl) ?_
      refine va_get (D := D) (ci := 5) (v := .int (nI pe)) (C := RX5) (T := TX5) (N := 24) hx hb hts uX5 hown hK hP 0 rfl rfl 6 (by decide) w1 (fun _ h9 => h9) rfl dX5_whoSitsIn_6 ?_
      refine lv_icmp_ge (tgt := 40) hx hb dX5_whoSitsIn_9 (by decide) (fun c => absurd c (nle_f (a := pe) (b := i1) rfl rfl (by omega) (by omega) (by omega))) (fun _ => ?_)
      refine lv_iload_n hx hb dX5_whoSitsIn_12 rfl (lv_at hl 2 rfl) ?_
      refine lv_aload_n hx hb dX5_whoSitsIn_13 rfl (lv_at hl 0 rfl) ?_
      refine va_get (D := D) (ci := 5) (v := .ref aMs) (C := RX5) (T := TX5) (N := 24) hx hb hts uX5 hown hK hP 0 rfl rfl 7 (by decide) w2 (fun _ h9 => h9) rfl dX5_whoSitsIn_14 ?_
      refine lv_iconst (v := 3) hx hb dX5_whoSitsIn_17 (by decide) ?_
      refine lv_iload_n hx hb dX5_whoSitsIn_18 rfl (lv_at hl 3 rfl) ?_
      refine lv_imul hx hb dX5_whoSitsIn_19 ?_
      refine xald hx hb hK hP 1 rfl (3 * i1) (ix_mul rfl rfl) (by omega) (by decide) dX5_whoSitsIn_20 ?_
      refine lv_iload_n hx hb dX5_whoSitsIn_21 rfl (lv_at hl 1 rfl) ?_
      refine lv_icmp_ne (tgt := 31) hx hb dX5_whoSitsIn_22 (by decide) (fun c1 => ?_) (fun c1 => ?_)
      · refine lv_iconst (v := 0) hx hb dX5_whoSitsIn_31 (by decide) ?_
        refine lv_ior hx hb dX5_whoSitsIn_32 ?_
        refine lv_istore_n (lv' := [(2, .int ((f_X5_whoSitsIn_4_v2 ss sect i1) ||| 0)), (0, .ref aM), (1, .int sect), (3, .int (nI i1))]) hx hb dX5_whoSitsIn_33 rfl hl (by decide) rfl (fun ls hl => ?_)
        refine lv_iinc (v := nI (i1 + 1)) (lv' := [(3, .int (nI (i1 + 1))), (2, .int ((f_X5_whoSitsIn_4_v2 ss sect i1) ||| 0)), (0, .ref aM), (1, .int sect)]) hx hb dX5_whoSitsIn_34 hl (k := 3) rfl (nI_add i1 1) (by decide) rfl (fun ls hl => ?_)
        refine lv_goto (tgt := 4) hx hb dX5_whoSitsIn_37 (by decide) ?_
        have e_v2 : (f_X5_whoSitsIn_4_v2 ss sect (i1 + 1)) = ((f_X5_whoSitsIn_4_v2 ss sect i1) ||| 0) := (by simp only [f_X5_whoSitsIn_4_v2, if_neg c1])
        exact ih4 (i1 + 1) (by omega) ls (by rw [e_v2]; exact lv_sub hl [2, 3, 1, 0] rfl)
      · refine lv_iconst (v := 1) hx hb dX5_whoSitsIn_25 (by decide) ?_
        refine lv_iload_n hx hb dX5_whoSitsIn_26 rfl (lv_at hl 3 rfl) ?_
        refine lv_ishl hx hb dX5_whoSitsIn_27 ?_
        refine lv_goto (tgt := 32) hx hb dX5_whoSitsIn_28 (by decide) ?_
        refine lv_ior hx hb dX5_whoSitsIn_32 ?_
        refine lv_istore_n (lv' := [(2, .int ((f_X5_whoSitsIn_4_v2 ss sect i1) ||| ((1 : Int32) <<< (nI i1 &&& 31)))), (0, .ref aM), (1, .int sect), (3, .int (nI i1))]) hx hb dX5_whoSitsIn_33 rfl hl (by decide) rfl (fun ls hl => ?_)
        refine lv_iinc (v := nI (i1 + 1)) (lv' := [(3, .int (nI (i1 + 1))), (2, .int ((f_X5_whoSitsIn_4_v2 ss sect i1) ||| ((1 : Int32) <<< (nI i1 &&& 31)))), (0, .ref aM), (1, .int sect)]) hx hb dX5_whoSitsIn_34 hl (k := 3) rfl (nI_add i1 1) (by decide) rfl (fun ls hl => ?_)
        refine lv_goto (tgt := 4) hx hb dX5_whoSitsIn_37 (by decide) ?_
        have e_v2 : (f_X5_whoSitsIn_4_v2 ss sect (i1 + 1)) = ((f_X5_whoSitsIn_4_v2 ss sect i1) ||| ((1 : Int32) <<< (nI i1 &&& 31))) := (by simp only [f_X5_whoSitsIn_4_v2, if_pos c1])
        exact ih4 (i1 + 1) (by omega) ls (by rw [e_v2]; exact lv_sub hl [2, 3, 1, 0] rfl)
  exact lp4 pe 0 (by omega) ls (lv_sub hl [2, 3, 1, 0] rfl)

def rm_X5_seenBy : Room := { frames := 1, cells := 0, slots := 0, locals := 24 }
def f_X5_seenBy_4_v2 (nl : Nat) (ro : Nat → Int32) (sect : Int32) : Nat → Int32
  | 0 => 0
  | i1 + 1 => ((f_X5_seenBy_4_v2 nl ro sect i1) + (((f_X5_seesOf nl ro i1) >>> (sect &&& 31)) &&& 1))
def f_X5_seenBy (nl : Nat) (ro : Nat → Int32) (sect : Int32) : Int32 := (f_X5_seenBy_4_v2 nl ro sect nl)
theorem hd_X5_seenBy : yX5_seenBy.cls = RX5 ∧ yX5_seenBy.cls ≠ "java/lang/invoke/MethodHandle" ∧ yX5_seenBy.cls ≠ "java/lang/invoke/VarHandle" ∧ (parseMethodDescriptor yX5_seenBy.desc).map (fun d => d.parameters.length) = some 1 := by decide +kernel
set_option maxHeartbeats 4000000 in
set_option maxRecDepth 100000 in
theorem c_X5_seenBy (l : Launch) (D : va_G) (cI : ClassId) (aM aMp aMr aMs aMl aMg aMb aMo aMkr aMks aMkb : Nat) (ofr : Int32) (rd : Int32) (pl : Nat) (nl : Nat) (mi : Int32) (pe : Nat) (kmi : Int32) (kpe : Int32) (bc : Int32) (bk : Nat) (sd : Int32) (ko : Int32) (kbk : Int32) (ha : Int64) (ro : Nat → Int32) (sect : Int32) (hn : nl ≤ 6) : MetR l yX5_seenBy wsX5_seenBy rm_X5_seenBy D cI [.ref aM, .int sect] [(aM, .inr (5, [.ref aMp, .int (nI pl), .int (nI nl), .int mi, .int ofr, .ref aMr, .int (nI pe), .ref aMs, .ref aMl, .int bc, .int rd, .ref aMg, .ref aMb, .int (nI bk), .ref aMo, .int sd, .int ko, .int kpe, .int kmi, .int kbk, .ref aMkr, .ref aMks, .ref aMkb, .long ha])), (aMr, .inl (cI, 18, .inl ro))] (some (.int (f_X5_seenBy nl ro sect))) := by
  refine mR (cc := cX5_seenBy) (maxL := 4) (ret := (some .int)) (by decide) rfl (Nat.le_of_ble_eq_true rfl) ?_
  intro p e s m args below meth c Q hx hb hr hml hown hts hlk hP hK hQ ls hl
  have hown : s.vm.findClass RX5 = some m.cls := hown
  have hl : lv_has ls 4 [(0, .ref aM), (1, .int sect)] := hl
  have w1 := hts (.fieldLink RX5 67 "DarkOfficeModel" "lamps" "I") (List.mem_of_getElem? (i := 1) rfl)
  have uX5 : ∀ w ∈ wsX50, w ∈ wsX5_seenBy := fun _ h => List.mem_cons_of_mem _ (List.mem_append_right _ h)
  refine lv_iconst (v := 0) hx hb dX5_seenBy_0 (by decide) ?_
  refine lv_istore_n (lv' := [(2, .int 0), (0, .ref aM), (1, .int sect)]) hx hb dX5_seenBy_1 rfl hl (by decide) rfl (fun ls hl => ?_)
  refine lv_iconst (v := 0) hx hb dX5_seenBy_2 (by decide) ?_
  refine lv_istore_n (lv' := [(3, .int 0), (2, .int 0), (0, .ref aM), (1, .int sect)]) hx hb dX5_seenBy_3 rfl hl (by decide) rfl (fun ls hl => ?_)
  have lp4 : ∀ (k4 i1 : Nat), i1 + k4 = nl → ∀ ls : Array Slot, lv_has ls 4 [(0, .ref aM), (1, .int sect), (2, .int ((f_X5_seenBy_4_v2 nl ro sect i1))), (3, .int (nI i1))] → W p l e rm_X5_seenBy s m args below meth c s.heap [] 0 0 Q (F0 m 4 ls []) := by
    intro k4
    induction k4 with
    | zero =>
      intro i1 hk4 ls hl
      have hN4 : nl = i1 := by omega
      subst hN4
      refine lv_iload_n hx hb dX5_seenBy_4 rfl (lv_at hl 3 rfl) ?_
      refine lv_aload_n hx hb dX5_seenBy_5 rfl (lv_at hl 0 rfl) ?_
      refine va_get (D := D) (ci := 5) (v := .int (nI nl)) (C := RX5) (T := TX5) (N := 24) hx hb hts uX5 hown hK hP 0 rfl rfl 2 (by decide) w1 (fun _ h9 => h9) rfl dX5_seenBy_6 ?_
      refine lv_icmp_ge (tgt := 30) hx hb dX5_seenBy_9 (by decide) (fun _ => ?_) (fun c => absurd (nle_t (a := nl) (b := nl) rfl rfl (by omega) (by omega) (by omega)) c)
      refine lv_iload_n hx hb dX5_seenBy_30 rfl (lv_at hl 2 rfl) ?_
      exact eRi hx hb hr hlk hQ dX5_seenBy_31 (Eq.symm (by simp only [f_X5_seenBy]))
    | succ k4 ih4 =>
      intro i1 hk4 ls hl
      refine lv_iload_n hx hb dX5_seenBy_4 rfl (lv_at hl 3 rfl) ?_
      refine lv_aload_n hx hb dX5_seenBy_5 rfl (lv_at hl 0 rfl) ?_
      refine va_get (D := D) (ci := 5) (v := .int (nI nl)) (C := RX5) (T := TX5) (N := 24) hx hb hts uX5 hown hK hP 0 rfl rfl 2 (by decide) w1 (fun _ h9 => h9) rfl dX5_seenBy_6 ?_
      refine lv_icmp_ge (tgt := 30) hx hb dX5_seenBy_9 (by decide) (fun c => absurd c (nle_f (a := nl) (b := i1) rfl rfl (by omega) (by omega) (by omega))) (fun _ => ?_)
      refine lv_iload_n hx hb dX5_seenBy_12 rfl (lv_at hl 2 rfl) ?_
      refine lv_aload_n hx hb dX5_seenBy_13 rfl (lv_at hl 0 rfl) ?_
      refine lv_iload_n hx hb dX5_seenBy_14 rfl (lv_at hl 3 rfl) ?_
      refine rV ⟨hx, hb, hml, hown, hts⟩ (c_X5_seesOf l D cI aM aMp aMr aMs aMl aMg aMb aMo aMkr aMks aMkb ofr rd pl nl mi pe kmi kpe bc bk sd ko kbk ha ro i1 hn (by omega)) (cwV 1 hts gX5_seenBy_X5_seesOf rfl rfl rfl hd_X5_seesOf ⟨Nat.le_of_ble_eq_true rfl, Nat.le_of_ble_eq_true rfl⟩) hK (hP.sub [0, 1] rfl) 0 rfl rfl rfl rfl hl.1 (rest := [.int ((f_X5_seenBy_4_v2 nl ro sect i1))]) (st' := [.int (f_X5_seesOf nl ro i1), .int ((f_X5_seenBy_4_v2 nl ro sect i1))]) rfl rfl (Nat.le_of_ble_eq_true rfl) dX5_seenBy_15 ⟨Nat.zero_le _, Nat.zero_le _⟩ ?_
      refine lv_iload_n hx hb dX5_seenBy_18 rfl (lv_at hl 1 rfl) ?_
      refine lv_ishr hx hb dX5_seenBy_19 ?_
      refine lv_iconst (v := 1) hx hb dX5_seenBy_20 (by decide) ?_
      refine lv_iand hx hb dX5_seenBy_21 ?_
      refine lv_iadd hx hb dX5_seenBy_22 ?_
      refine lv_istore_n (lv' := [(2, .int ((f_X5_seenBy_4_v2 nl ro sect i1) + (((f_X5_seesOf nl ro i1) >>> (sect &&& 31)) &&& 1))), (0, .ref aM), (1, .int sect), (3, .int (nI i1))]) hx hb dX5_seenBy_23 rfl hl (by decide) rfl (fun ls hl => ?_)
      refine lv_iinc (v := nI (i1 + 1)) (lv' := [(3, .int (nI (i1 + 1))), (2, .int ((f_X5_seenBy_4_v2 nl ro sect i1) + (((f_X5_seesOf nl ro i1) >>> (sect &&& 31)) &&& 1))), (0, .ref aM), (1, .int sect)]) hx hb dX5_seenBy_24 hl (k := 3) rfl (nI_add i1 1) (by decide) rfl (fun ls hl => ?_)
      refine lv_goto (tgt := 4) hx hb dX5_seenBy_27 (by decide) ?_
      have e_v2 : (f_X5_seenBy_4_v2 nl ro sect (i1 + 1)) = ((f_X5_seenBy_4_v2 nl ro sect i1) + (((f_X5_seesOf nl ro i1) >>> (sect &&& 31)) &&& 1)) := (by simp only [f_X5_seenBy_4_v2])
      exact ih4 (i1 + 1) (by omega) ls (by rw [e_v2]; exact lv_sub hl [2, 3, 1, 0] rfl)
  exact lp4 nl 0 (by omega) ls (lv_sub hl [2, 3, 1, 0] rfl)

def rm_X5_tellLamp : Room := { frames := 2, cells := 0, slots := 0, locals := 47 }
def f_X5_tellLamp (nl : Nat) (pe : Nat) (ro : Nat → Int32) (ss : Nat → Int32) (lj : Nat) (what : Int32) : Int32 := (if what = 0 then (ro (3 * lj + 0)) else (if what = 1 then (ro (3 * lj + 1)) else (if what = 2 then (ro (3 * lj + 2)) else (if what = 3 then (f_X5_seesOf nl ro lj) else (if what = 4 then (f_X5_whoSitsIn pe ss (nI lj)) else (if what = 5 then (f_X5_seenBy nl ro (nI lj)) else (-102)))))))
theorem hd_X5_tellLamp : yX5_tellLamp.cls = RX5 ∧ yX5_tellLamp.cls ≠ "java/lang/invoke/MethodHandle" ∧ yX5_tellLamp.cls ≠ "java/lang/invoke/VarHandle" ∧ (parseMethodDescriptor yX5_tellLamp.desc).map (fun d => d.parameters.length) = some 2 := by decide +kernel
set_option maxHeartbeats 4000000 in
set_option maxRecDepth 100000 in
theorem c_X5_tellLamp (l : Launch) (D : va_G) (cI : ClassId) (aM aMp aMr aMs aMl aMg aMb aMo aMkr aMks aMkb : Nat) (ofr : Int32) (rd : Int32) (pl : Nat) (nl : Nat) (mi : Int32) (pe : Nat) (kmi : Int32) (kpe : Int32) (bc : Int32) (bk : Nat) (sd : Int32) (ko : Int32) (kbk : Int32) (ha : Int64) (ro : Nat → Int32) (ss : Nat → Int32) (lj : Nat) (what : Int32) (hn : nl ≤ 6) (hpe : pe ≤ 4) (hlj : lj < nl) : MetR l yX5_tellLamp wsX5_tellLamp rm_X5_tellLamp D cI [.ref aM, .int (nI lj), .int what] [(aM, .inr (5, [.ref aMp, .int (nI pl), .int (nI nl), .int mi, .int ofr, .ref aMr, .int (nI pe), .ref aMs, .ref aMl, .int bc, .int rd, .ref aMg, .ref aMb, .int (nI bk), .ref aMo, .int sd, .int ko, .int kpe, .int kmi, .int kbk, .ref aMkr, .ref aMks, .ref aMkb, .long ha])), (aMr, .inl (cI, 18, .inl ro)), (aMs, .inl (cI, 12, .inl ss))] (some (.int (f_X5_tellLamp nl pe ro ss lj what))) := by
  refine mR (cc := cX5_tellLamp) (maxL := 3) (ret := (some .int)) (by decide) rfl (Nat.le_of_ble_eq_true rfl) ?_
  intro p e s m args below meth c Q hx hb hr hml hown hts hlk hP hK hQ ls hl
  have hown : s.vm.findClass RX5 = some m.cls := hown
  have hl : lv_has ls 3 [(0, .ref aM), (1, .int (nI lj)), (2, .int what)] := hl
  have w1 := hts (.fieldLink RX5 13 "DarkOfficeModel" "rows" "[I") (List.mem_of_getElem? (i := 1) rfl)
  have uX5 : ∀ w ∈ wsX50, w ∈ wsX5_tellLamp := fun _ h => List.mem_cons_of_mem _ (List.mem_append_right _ h)
  refine lv_iload_n hx hb dX5_tellLamp_0 rfl (lv_at hl 2 rfl) ?_
  by_cases c1 : what = 0
  · refine lv_tableIn (off := 39) (tgt := 40) hx hb dX5_tellLamp_1 (by rw [c1]; decide) (by rw [c1]; decide) (by rw [c1]; rfl) (by decide) ?_
    refine lv_aload_n hx hb dX5_tellLamp_40 rfl (lv_at hl 0 rfl) ?_
    refine va_get (D := D) (ci := 5) (v := .ref aMr) (C := RX5) (T := TX5) (N := 24) hx hb hts uX5 hown hK hP 0 rfl rfl 5 (by decide) w1 (fun _ h9 => h9) rfl dX5_tellLamp_41 ?_
    refine lv_iconst (v := 3) hx hb dX5_tellLamp_44 (by decide) ?_
    refine lv_iload_n hx hb dX5_tellLamp_45 rfl (lv_at hl 1 rfl) ?_
    refine lv_imul hx hb dX5_tellLamp_46 ?_
    refine lv_iload_n hx hb dX5_tellLamp_47 rfl (lv_at hl 2 rfl) ?_
    refine lv_iadd hx hb dX5_tellLamp_48 ?_
    refine tpi (y := nI (3 * lj + 0)) (by rw [c1]; exact (ix_add (ix_mul rfl rfl) rfl)) ?_
    refine xald hx hb hK hP 1 rfl (3 * lj + 0) rfl (by omega) (by decide) dX5_tellLamp_49 ?_
    exact eRi hx hb hr hlk hQ dX5_tellLamp_50 (Eq.symm (by simp only [f_X5_tellLamp, if_pos c1]))
  · by_cases c2 : what = 1
    · refine lv_tableIn (off := 39) (tgt := 40) hx hb dX5_tellLamp_1 (by rw [c2]; decide) (by rw [c2]; decide) (by rw [c2]; rfl) (by decide) ?_
      refine lv_aload_n hx hb dX5_tellLamp_40 rfl (lv_at hl 0 rfl) ?_
      refine va_get (D := D) (ci := 5) (v := .ref aMr) (C := RX5) (T := TX5) (N := 24) hx hb hts uX5 hown hK hP 0 rfl rfl 5 (by decide) w1 (fun _ h9 => h9) rfl dX5_tellLamp_41 ?_
      refine lv_iconst (v := 3) hx hb dX5_tellLamp_44 (by decide) ?_
      refine lv_iload_n hx hb dX5_tellLamp_45 rfl (lv_at hl 1 rfl) ?_
      refine lv_imul hx hb dX5_tellLamp_46 ?_
      refine lv_iload_n hx hb dX5_tellLamp_47 rfl (lv_at hl 2 rfl) ?_
      refine lv_iadd hx hb dX5_tellLamp_48 ?_
      refine tpi (y := nI (3 * lj + 1)) (by rw [c2]; exact (ix_add (ix_mul rfl rfl) rfl)) ?_
      refine xald hx hb hK hP 1 rfl (3 * lj + 1) rfl (by omega) (by decide) dX5_tellLamp_49 ?_
      exact eRi hx hb hr hlk hQ dX5_tellLamp_50 (Eq.symm (by simp only [f_X5_tellLamp, if_neg c1, if_pos c2]))
    · by_cases c3 : what = 2
      · refine lv_tableIn (off := 39) (tgt := 40) hx hb dX5_tellLamp_1 (by rw [c3]; decide) (by rw [c3]; decide) (by rw [c3]; rfl) (by decide) ?_
        refine lv_aload_n hx hb dX5_tellLamp_40 rfl (lv_at hl 0 rfl) ?_
        refine va_get (D := D) (ci := 5) (v := .ref aMr) (C := RX5) (T := TX5) (N := 24) hx hb hts uX5 hown hK hP 0 rfl rfl 5 (by decide) w1 (fun _ h9 => h9) rfl dX5_tellLamp_41 ?_
        refine lv_iconst (v := 3) hx hb dX5_tellLamp_44 (by decide) ?_
        refine lv_iload_n hx hb dX5_tellLamp_45 rfl (lv_at hl 1 rfl) ?_
        refine lv_imul hx hb dX5_tellLamp_46 ?_
        refine lv_iload_n hx hb dX5_tellLamp_47 rfl (lv_at hl 2 rfl) ?_
        refine lv_iadd hx hb dX5_tellLamp_48 ?_
        refine tpi (y := nI (3 * lj + 2)) (by rw [c3]; exact (ix_add (ix_mul rfl rfl) rfl)) ?_
        refine xald hx hb hK hP 1 rfl (3 * lj + 2) rfl (by omega) (by decide) dX5_tellLamp_49 ?_
        exact eRi hx hb hr hlk hQ dX5_tellLamp_50 (Eq.symm (by simp only [f_X5_tellLamp, if_neg c1, if_neg c2, if_pos c3]))
      · by_cases c4 : what = 3
        · refine lv_tableIn (off := 50) (tgt := 51) hx hb dX5_tellLamp_1 (by rw [c4]; decide) (by rw [c4]; decide) (by rw [c4]; rfl) (by decide) ?_
          refine lv_aload_n hx hb dX5_tellLamp_51 rfl (lv_at hl 0 rfl) ?_
          refine lv_iload_n hx hb dX5_tellLamp_52 rfl (lv_at hl 1 rfl) ?_
          refine rV ⟨hx, hb, hml, hown, hts⟩ (c_X5_seesOf l D cI aM aMp aMr aMs aMl aMg aMb aMo aMkr aMks aMkb ofr rd pl nl mi pe kmi kpe bc bk sd ko kbk ha ro lj hn hlj) (cwV 1 hts gX5_tellLamp_X5_seesOf rfl rfl rfl hd_X5_seesOf ⟨Nat.le_of_ble_eq_true rfl, Nat.le_of_ble_eq_true rfl⟩) hK (hP.sub [0, 1] rfl) 0 rfl rfl rfl rfl hl.1 (rest := []) (st' := [.int (f_X5_seesOf nl ro lj)]) rfl rfl (Nat.le_of_ble_eq_true rfl) dX5_tellLamp_53 ⟨Nat.zero_le _, Nat.zero_le _⟩ ?_
          exact eRi hx hb hr hlk hQ dX5_tellLamp_56 (Eq.symm (by simp only [f_X5_tellLamp, if_neg c1, if_neg c2, if_neg c3, if_pos c4]))
        · by_cases c5 : what = 4
          · refine lv_tableIn (off := 56) (tgt := 57) hx hb dX5_tellLamp_1 (by rw [c5]; decide) (by rw [c5]; decide) (by rw [c5]; rfl) (by decide) ?_
            refine lv_aload_n hx hb dX5_tellLamp_57 rfl (lv_at hl 0 rfl) ?_
            refine lv_iload_n hx hb dX5_tellLamp_58 rfl (lv_at hl 1 rfl) ?_
            refine rV ⟨hx, hb, hml, hown, hts⟩ (c_X5_whoSitsIn l D cI aM aMp aMr aMs aMl aMg aMb aMo aMkr aMks aMkb ofr rd pl nl mi pe kmi kpe bc bk sd ko kbk ha ss (nI lj) hpe) (cwV 1 hts gX5_tellLamp_X5_whoSitsIn rfl rfl rfl hd_X5_whoSitsIn ⟨Nat.le_of_ble_eq_true rfl, Nat.le_of_ble_eq_true rfl⟩) hK (hP.sub [0, 2] rfl) 0 rfl rfl rfl rfl hl.1 (rest := []) (st' := [.int (f_X5_whoSitsIn pe ss (nI lj))]) rfl rfl (Nat.le_of_ble_eq_true rfl) dX5_tellLamp_59 ⟨Nat.zero_le _, Nat.zero_le _⟩ ?_
            exact eRi hx hb hr hlk hQ dX5_tellLamp_62 (Eq.symm (by simp only [f_X5_tellLamp, if_neg c1, if_neg c2, if_neg c3, if_neg c4, if_pos c5]))
          · by_cases c6 : what = 5
            · refine lv_tableIn (off := 62) (tgt := 63) hx hb dX5_tellLamp_1 (by rw [c6]; decide) (by rw [c6]; decide) (by rw [c6]; rfl) (by decide) ?_
              refine lv_aload_n hx hb dX5_tellLamp_63 rfl (lv_at hl 0 rfl) ?_
              refine lv_iload_n hx hb dX5_tellLamp_64 rfl (lv_at hl 1 rfl) ?_
              refine rV ⟨hx, hb, hml, hown, hts⟩ (c_X5_seenBy l D cI aM aMp aMr aMs aMl aMg aMb aMo aMkr aMks aMkb ofr rd pl nl mi pe kmi kpe bc bk sd ko kbk ha ro (nI lj) hn) (cwV 1 hts gX5_tellLamp_X5_seenBy rfl rfl rfl hd_X5_seenBy ⟨Nat.le_of_ble_eq_true rfl, Nat.le_of_ble_eq_true rfl⟩) hK (hP.sub [0, 1] rfl) 0 rfl rfl rfl rfl hl.1 (rest := []) (st' := [.int (f_X5_seenBy nl ro (nI lj))]) rfl rfl (Nat.le_of_ble_eq_true rfl) dX5_tellLamp_65 ⟨Nat.zero_le _, Nat.zero_le _⟩ ?_
              exact eRi hx hb hr hlk hQ dX5_tellLamp_68 (Eq.symm (by simp only [f_X5_tellLamp, if_neg c1, if_neg c2, if_neg c3, if_neg c4, if_neg c5, if_pos c6]))
            · have z1_0 := lv_neT (a := 0) c1 (by decide)
              have z1_1 := lv_neT (a := 1) c2 (by decide)
              have z1_2 := lv_neT (a := 2) c3 (by decide)
              have z1_3 := lv_neT (a := 3) c4 (by decide)
              have z1_4 := lv_neT (a := 4) c5 (by decide)
              have z1_5 := lv_neT (a := 5) c6 (by decide)
              refine lv_tableOut (tgt := 69) hx hb dX5_tellLamp_1 (by omega) (by decide) ?_
              refine lv_bipush (v := (-102)) hx hb dX5_tellLamp_69 (by decide) ?_
              exact eRi hx hb hr hlk hQ dX5_tellLamp_71 (Eq.symm (by simp only [f_X5_tellLamp, if_neg c1, if_neg c2, if_neg c3, if_neg c4, if_neg c5, if_neg c6]))

def rm_X5_lamp : Room := { frames := 3, cells := 0, slots := 0, locals := 69 }
def f_X5_lamp (nl : Nat) (pe : Nat) (ro : Nat → Int32) (ss : Nat → Int32) (lamp : Int32) (what : Int32) : Int32 := (if (f_X5_isLamp nl lamp) = 0 then (-101) else (f_X5_tellLamp nl pe ro ss (lamp.toNatClampNeg) what))
theorem hd_X5_lamp : yX5_lamp.cls = RX5 ∧ yX5_lamp.cls ≠ "java/lang/invoke/MethodHandle" ∧ yX5_lamp.cls ≠ "java/lang/invoke/VarHandle" ∧ (parseMethodDescriptor yX5_lamp.desc).map (fun d => d.parameters.length) = some 2 := by decide +kernel
set_option maxHeartbeats 4000000 in
set_option maxRecDepth 100000 in
theorem c_X5_lamp (l : Launch) (D : va_G) (cI : ClassId) (aM aMp aMr aMs aMl aMg aMb aMo aMkr aMks aMkb : Nat) (ofr : Int32) (rd : Int32) (pl : Nat) (nl : Nat) (mi : Int32) (pe : Nat) (kmi : Int32) (kpe : Int32) (bc : Int32) (bk : Nat) (sd : Int32) (ko : Int32) (kbk : Int32) (ha : Int64) (ro : Nat → Int32) (ss : Nat → Int32) (lamp : Int32) (what : Int32) (hn : nl ≤ 6) (hpe : pe ≤ 4) : MetR l yX5_lamp wsX5_lamp rm_X5_lamp D cI [.ref aM, .int lamp, .int what] [(aM, .inr (5, [.ref aMp, .int (nI pl), .int (nI nl), .int mi, .int ofr, .ref aMr, .int (nI pe), .ref aMs, .ref aMl, .int bc, .int rd, .ref aMg, .ref aMb, .int (nI bk), .ref aMo, .int sd, .int ko, .int kpe, .int kmi, .int kbk, .ref aMkr, .ref aMks, .ref aMkb, .long ha])), (aMr, .inl (cI, 18, .inl ro)), (aMs, .inl (cI, 12, .inl ss))] (some (.int (f_X5_lamp nl pe ro ss lamp what))) := by
  refine mR (cc := cX5_lamp) (maxL := 3) (ret := (some .int)) (by decide) rfl (Nat.le_of_ble_eq_true rfl) ?_
  intro p e s m args below meth c Q hx hb hr hml hown hts hlk hP hK hQ ls hl
  have hown : s.vm.findClass RX5 = some m.cls := hown
  have hl : lv_has ls 3 [(0, .ref aM), (1, .int lamp), (2, .int what)] := hl
  refine lv_aload_n hx hb dX5_lamp_0 rfl (lv_at hl 0 rfl) ?_
  refine lv_iload_n hx hb dX5_lamp_1 rfl (lv_at hl 1 rfl) ?_
  refine rV ⟨hx, hb, hml, hown, hts⟩ (c_X5_isLamp l D cI aM aMp aMr aMs aMl aMg aMb aMo aMkr aMks aMkb ofr rd pl nl mi pe kmi kpe bc bk sd ko kbk ha lamp) (cwV 1 hts gX5_lamp_X5_isLamp rfl rfl rfl hd_X5_isLamp ⟨Nat.le_of_ble_eq_true rfl, Nat.le_of_ble_eq_true rfl⟩) hK (hP.sub [0] rfl) 0 rfl rfl rfl rfl hl.1 (rest := []) (st' := [.int (f_X5_isLamp nl lamp)]) rfl rfl (Nat.le_of_ble_eq_true rfl) dX5_lamp_2 ⟨Nat.zero_le _, Nat.zero_le _⟩ ?_
  refine lv_if_eq (tgt := 17) hx hb dX5_lamp_5 (by decide) (fun c1 => ?_) (fun c1 => ?_)
  · refine lv_bipush (v := (-101)) hx hb dX5_lamp_17 (by decide) ?_
    exact eRi hx hb hr hlk hQ dX5_lamp_19 (Eq.symm (by simp only [f_X5_lamp, if_pos c1]))
  · have hm1 := lampM hn c1
    have hm : lamp = nI lamp.toNatClampNeg := hm1.1
    have hm2 : lamp.toNatClampNeg < nl := hm1.2
    refine lv_aload_n hx hb dX5_lamp_8 rfl (lv_at hl 0 rfl) ?_
    refine lv_iload_n hx hb dX5_lamp_9 rfl (lv_at hl 1 rfl) ?_
    refine tpi (y := nI (lamp.toNatClampNeg)) hm ?_
    refine lv_iload_n hx hb dX5_lamp_10 rfl (lv_at hl 2 rfl) ?_
    refine rV ⟨hx, hb, hml, hown, hts⟩ (c_X5_tellLamp l D cI aM aMp aMr aMs aMl aMg aMb aMo aMkr aMks aMkb ofr rd pl nl mi pe kmi kpe bc bk sd ko kbk ha ro ss (lamp.toNatClampNeg) what hn hpe hm2) (cwV 2 hts gX5_lamp_X5_tellLamp rfl rfl rfl hd_X5_tellLamp ⟨Nat.le_of_ble_eq_true rfl, Nat.le_of_ble_eq_true rfl⟩) hK (hP.sub [0, 1, 2] rfl) 0 rfl rfl rfl rfl hl.1 (rest := []) (st' := [.int (f_X5_tellLamp nl pe ro ss (lamp.toNatClampNeg) what)]) rfl rfl (Nat.le_of_ble_eq_true rfl) dX5_lamp_11 ⟨Nat.zero_le _, Nat.zero_le _⟩ ?_
    refine lv_goto (tgt := 19) hx hb dX5_lamp_14 (by decide) ?_
    exact eRi hx hb hr hlk hQ dX5_lamp_19 (Eq.symm (by simp only [f_X5_lamp, if_neg c1]))

def rm_X5_as : Room := { frames := 2, cells := 0, slots := 0, locals := 46 }
def f_X5_as (nl : Nat) (ro : Nat → Int32) (kind : Int32) (lamp : Int32) : Int32 := (if (f_X5_isLamp nl lamp) = 0 then (-101) else (if (f_X5_in (kind.toInt64) 0 4) = 0 then (-102) else (if kind = 0 then lamp else (if kind = (ro (3 * (lamp.toNatClampNeg))) then lamp else (if kind = 1 then (if (ro (3 * (lamp.toNatClampNeg))) = 4 then lamp else (-1)) else (-1))))))
theorem hd_X5_as : yX5_as.cls = RX5 ∧ yX5_as.cls ≠ "java/lang/invoke/MethodHandle" ∧ yX5_as.cls ≠ "java/lang/invoke/VarHandle" ∧ (parseMethodDescriptor yX5_as.desc).map (fun d => d.parameters.length) = some 2 := by decide +kernel
set_option maxHeartbeats 4000000 in
set_option maxRecDepth 100000 in
theorem c_X5_as (l : Launch) (D : va_G) (cI : ClassId) (aM aMp aMr aMs aMl aMg aMb aMo aMkr aMks aMkb : Nat) (ofr : Int32) (rd : Int32) (pl : Nat) (nl : Nat) (mi : Int32) (pe : Nat) (kmi : Int32) (kpe : Int32) (bc : Int32) (bk : Nat) (sd : Int32) (ko : Int32) (kbk : Int32) (ha : Int64) (ro : Nat → Int32) (kind : Int32) (lamp : Int32) (hn : nl ≤ 6) : MetR l yX5_as wsX5_as rm_X5_as D cI [.ref aM, .int lamp, .int kind] [(aM, .inr (5, [.ref aMp, .int (nI pl), .int (nI nl), .int mi, .int ofr, .ref aMr, .int (nI pe), .ref aMs, .ref aMl, .int bc, .int rd, .ref aMg, .ref aMb, .int (nI bk), .ref aMo, .int sd, .int ko, .int kpe, .int kmi, .int kbk, .ref aMkr, .ref aMks, .ref aMkb, .long ha])), (aMr, .inl (cI, 18, .inl ro))] (some (.int (f_X5_as nl ro kind lamp))) := by
  refine mR (cc := cX5_as) (maxL := 5) (ret := (some .int)) (by decide) rfl (Nat.le_of_ble_eq_true rfl) ?_
  intro p e s m args below meth c Q hx hb hr hml hown hts hlk hP hK hQ ls hl
  have hown : s.vm.findClass RX5 = some m.cls := hown
  have hl : lv_has ls 5 [(0, .ref aM), (1, .int lamp), (2, .int kind)] := hl
  have w1 := hts (.constantLong RX5 99 (4)) (List.mem_of_getElem? (i := 1) rfl)
  have w2 := hts (.fieldLink RX5 13 "DarkOfficeModel" "rows" "[I") (List.mem_of_getElem? (i := 2) rfl)
  have uX5 : ∀ w ∈ wsX50, w ∈ wsX5_as := fun _ h => List.mem_cons_of_mem _ (List.mem_append_right _ h)
  refine lv_aload_n hx hb dX5_as_0 rfl (lv_at hl 0 rfl) ?_
  refine lv_iload_n hx hb dX5_as_1 rfl (lv_at hl 1 rfl) ?_
  refine rV ⟨hx, hb, hml, hown, hts⟩ (c_X5_isLamp l D cI aM aMp aMr aMs aMl aMg aMb aMo aMkr aMks aMkb ofr rd pl nl mi pe kmi kpe bc bk sd ko kbk ha lamp) (cwV 1 hts gX5_as_X5_isLamp rfl rfl rfl hd_X5_isLamp ⟨Nat.le_of_ble_eq_true rfl, Nat.le_of_ble_eq_true rfl⟩) hK (hP.sub [0] rfl) 0 rfl rfl rfl rfl hl.1 (rest := []) (st' := [.int (f_X5_isLamp nl lamp)]) rfl rfl (Nat.le_of_ble_eq_true rfl) dX5_as_2 ⟨Nat.zero_le _, Nat.zero_le _⟩ ?_
  refine lv_if_ne (tgt := 11) hx hb dX5_as_5 (by decide) (fun c1 => ?_) (fun c1 => ?_)
  · refine lv_iload_n hx hb dX5_as_11 rfl (lv_at hl 2 rfl) ?_
    refine lv_i2l (v := kind.toInt64) hx hb dX5_as_12 rfl ?_
    refine lv_lconst (v := 0) hx hb dX5_as_13 (by decide) ?_
    refine lv_ldc2 (v := 4) hx hb hown w1 dX5_as_14 ?_
    refine rS ⟨hx, hb, hml, hown, hts⟩ (c_X5_in l D cI (kind.toInt64) 0 4) (va_cwS 3 hts gX5_as_X5_in rfl rfl rfl hd_X5_in ⟨Nat.le_of_ble_eq_true rfl, Nat.le_of_ble_eq_true rfl⟩) hK (hP.sub [] rfl) rfl hl.1 (rest := []) (st' := [.int (f_X5_in (kind.toInt64) 0 4)]) rfl rfl (Nat.le_of_ble_eq_true rfl) dX5_as_17 ⟨Nat.zero_le _, Nat.zero_le _⟩ ?_
    refine lv_if_ne (tgt := 26) hx hb dX5_as_20 (by decide) (fun c2 => ?_) (fun c2 => ?_)
    · have hm1 := lampM hn c1
      have hm : lamp = nI lamp.toNatClampNeg := hm1.1
      have hm2 : lamp.toNatClampNeg < nl := hm1.2
      refine lv_aload_n hx hb dX5_as_26 rfl (lv_at hl 0 rfl) ?_
      refine va_get (D := D) (ci := 5) (v := .ref aMr) (C := RX5) (T := TX5) (N := 24) hx hb hts uX5 hown hK hP 0 rfl rfl 5 (by decide) w2 (fun _ h9 => h9) rfl dX5_as_27 ?_
      refine lv_iconst (v := 3) hx hb dX5_as_30 (by decide) ?_
      refine lv_iload_n hx hb dX5_as_31 rfl (lv_at hl 1 rfl) ?_
      refine tpi (y := nI (lamp.toNatClampNeg)) hm ?_
      refine lv_imul hx hb dX5_as_32 ?_
      refine xald hx hb hK hP 1 rfl (3 * (lamp.toNatClampNeg)) (ix_mul rfl rfl) (by omega) (by decide) dX5_as_33 ?_
      refine lv_istore_n (lv' := [(3, .int (ro (3 * (lamp.toNatClampNeg)))), (0, .ref aM), (1, .int lamp), (2, .int kind)]) hx hb dX5_as_34 rfl hl (by decide) rfl (fun ls hl => ?_)
      refine lv_iload_n hx hb dX5_as_35 rfl (lv_at hl 3 rfl) ?_
      refine lv_if_eq (tgt := 54) hx hb dX5_as_36 (by decide) (fun c3 => ?_) (fun c3 => ?_)
      · refine lv_iconst (v := 1) hx hb dX5_as_54 (by decide) ?_
        refine lv_goto (tgt := 59) hx hb dX5_as_55 (by decide) ?_
        refine lv_istore (lv' := [(4, .int 1), (3, .int (ro (3 * (lamp.toNatClampNeg)))), (0, .ref aM), (1, .int lamp), (2, .int kind)]) hx hb dX5_as_59 hl (by decide) rfl (fun ls hl => ?_)
        refine lv_iload hx hb dX5_as_61 (lv_at hl 0 rfl) ?_
        refine lv_if_eq (tgt := 70) hx hb dX5_as_63 (by decide) (fun c => absurd c (by decide)) (fun _ => ?_)
        refine lv_iload_n hx hb dX5_as_66 rfl (lv_at hl 3 rfl) ?_
        refine lv_goto (tgt := 71) hx hb dX5_as_67 (by decide) ?_
        exact eRi hx hb hr hlk hQ dX5_as_71 (Eq.symm (by simp only [f_X5_as, if_neg c1, if_neg c2, if_pos c3]))
      · refine lv_iload_n hx hb dX5_as_39 rfl (lv_at hl 3 rfl) ?_
        refine lv_iload_n hx hb dX5_as_40 rfl (lv_at hl 0 rfl) ?_
        refine lv_icmp_eq (tgt := 54) hx hb dX5_as_41 (by decide) (fun c4 => ?_) (fun c4 => ?_)
        · refine lv_iconst (v := 1) hx hb dX5_as_54 (by decide) ?_
          refine lv_goto (tgt := 59) hx hb dX5_as_55 (by decide) ?_
          refine lv_istore (lv' := [(4, .int 1), (3, .int (ro (3 * (lamp.toNatClampNeg)))), (0, .ref aM), (1, .int lamp), (2, .int kind)]) hx hb dX5_as_59 hl (by decide) rfl (fun ls hl => ?_)
          refine lv_iload hx hb dX5_as_61 (lv_at hl 0 rfl) ?_
          refine lv_if_eq (tgt := 70) hx hb dX5_as_63 (by decide) (fun c => absurd c (by decide)) (fun _ => ?_)
          refine lv_iload_n hx hb dX5_as_66 rfl (lv_at hl 3 rfl) ?_
          refine lv_goto (tgt := 71) hx hb dX5_as_67 (by decide) ?_
          exact eRi hx hb hr hlk hQ dX5_as_71 (Eq.symm (by simp only [f_X5_as, if_neg c1, if_neg c2, if_neg c3, if_pos c4]))
        · refine lv_iload_n hx hb dX5_as_44 rfl (lv_at hl 3 rfl) ?_
          refine lv_iconst (v := 1) hx hb dX5_as_45 (by decide) ?_
          refine lv_icmp_ne (tgt := 58) hx hb dX5_as_46 (by decide) (fun c5 => ?_) (fun c5 => ?_)
          · refine lv_iconst (v := 0) hx hb dX5_as_58 (by decide) ?_
            refine lv_istore (lv' := [(4, .int 0), (3, .int (ro (3 * (lamp.toNatClampNeg)))), (0, .ref aM), (1, .int lamp), (2, .int kind)]) hx hb dX5_as_59 hl (by decide) rfl (fun ls hl => ?_)
            refine lv_iload hx hb dX5_as_61 (lv_at hl 0 rfl) ?_
            refine lv_if_eq (tgt := 70) hx hb dX5_as_63 (by decide) (fun _ => ?_) (fun c => absurd (by decide) c)
            refine lv_iconst (v := (-1)) hx hb dX5_as_70 (by decide) ?_
            exact eRi hx hb hr hlk hQ dX5_as_71 (Eq.symm (by simp only [f_X5_as, if_neg c1, if_neg c2, if_neg c3, if_neg c4, if_neg c5]))
          · refine lv_iload_n hx hb dX5_as_49 rfl (lv_at hl 0 rfl) ?_
            refine lv_iconst (v := 4) hx hb dX5_as_50 (by decide) ?_
            refine lv_icmp_ne (tgt := 58) hx hb dX5_as_51 (by decide) (fun c6 => ?_) (fun c6 => ?_)
            · refine lv_iconst (v := 0) hx hb dX5_as_58 (by decide) ?_
              refine lv_istore (lv' := [(4, .int 0), (3, .int (ro (3 * (lamp.toNatClampNeg)))), (0, .ref aM), (1, .int lamp), (2, .int kind)]) hx hb dX5_as_59 hl (by decide) rfl (fun ls hl => ?_)
              refine lv_iload hx hb dX5_as_61 (lv_at hl 0 rfl) ?_
              refine lv_if_eq (tgt := 70) hx hb dX5_as_63 (by decide) (fun _ => ?_) (fun c => absurd (by decide) c)
              refine lv_iconst (v := (-1)) hx hb dX5_as_70 (by decide) ?_
              exact eRi hx hb hr hlk hQ dX5_as_71 (Eq.symm (by simp only [f_X5_as, if_neg c1, if_neg c2, if_neg c3, if_neg c4, if_pos c5, if_neg c6]))
            · refine lv_iconst (v := 1) hx hb dX5_as_54 (by decide) ?_
              refine lv_goto (tgt := 59) hx hb dX5_as_55 (by decide) ?_
              refine lv_istore (lv' := [(4, .int 1), (3, .int (ro (3 * (lamp.toNatClampNeg)))), (0, .ref aM), (1, .int lamp), (2, .int kind)]) hx hb dX5_as_59 hl (by decide) rfl (fun ls hl => ?_)
              refine lv_iload hx hb dX5_as_61 (lv_at hl 0 rfl) ?_
              refine lv_if_eq (tgt := 70) hx hb dX5_as_63 (by decide) (fun c => absurd c (by decide)) (fun _ => ?_)
              refine lv_iload_n hx hb dX5_as_66 rfl (lv_at hl 3 rfl) ?_
              refine lv_goto (tgt := 71) hx hb dX5_as_67 (by decide) ?_
              exact eRi hx hb hr hlk hQ dX5_as_71 (Eq.symm (by simp only [f_X5_as, if_neg c1, if_neg c2, if_neg c3, if_neg c4, if_pos c5, if_pos c6]))
    · refine lv_bipush (v := (-102)) hx hb dX5_as_23 (by decide) ?_
      exact eRi hx hb hr hlk hQ dX5_as_25 (Eq.symm (by simp only [f_X5_as, if_neg c1, if_pos c2]))
  · refine lv_bipush (v := (-101)) hx hb dX5_as_8 (by decide) ?_
    exact eRi hx hb hr hlk hQ dX5_as_10 (Eq.symm (by simp only [f_X5_as, if_pos c1]))

def rm_X5_person : Room := { frames := 2, cells := 0, slots := 0, locals := 46 }
def f_X5_person (nl : Nat) (pe : Nat) (sect : Int32) : Int32 := (if (f_X5_isLamp nl sect) = 0 then (-101) else (if nI pe = 4 then (-104) else ((nI pe + 1) - 1)))
def f_X5_person_M_6 (nl : Nat) (pe : Nat) (sect : Int32) : Int32 := (if (f_X5_isLamp nl sect) = 0 then nI pe else (if nI pe = 4 then nI pe else (nI pe + 1)))
def f_X5_person_Ms (nl : Nat) (pe : Nat) (ss : Nat → Int32) (sect : Int32) : Nat → Int32 := (if (f_X5_isLamp nl sect) = 0 then ss else (if nI pe = 4 then ss else (upd (upd (upd ss (3 * pe) sect) ((3 * pe) + 1) 0) ((3 * pe) + 2) 0)))
theorem hd_X5_person : yX5_person.cls = RX5 ∧ yX5_person.cls ≠ "java/lang/invoke/MethodHandle" ∧ yX5_person.cls ≠ "java/lang/invoke/VarHandle" ∧ (parseMethodDescriptor yX5_person.desc).map (fun d => d.parameters.length) = some 1 := by decide +kernel
set_option maxHeartbeats 4000000 in
set_option maxRecDepth 100000 in
theorem c_X5_person (l : Launch) (D : va_G) (cI : ClassId) (aM aMp aMr aMs aMl aMg aMb aMo aMkr aMks aMkb : Nat) (ofr : Int32) (rd : Int32) (pl : Nat) (nl : Nat) (mi : Int32) (pe : Nat) (kmi : Int32) (kpe : Int32) (bc : Int32) (bk : Nat) (sd : Int32) (ko : Int32) (kbk : Int32) (ha : Int64) (ss : Nat → Int32) (sect : Int32) (hn : nl ≤ 6) (hpe : pe ≤ 4) : MetX l yX5_person wsX5_person rm_X5_person D cI [.ref aM, .int sect] [(aM, .inr (5, [.ref aMp, .int (nI pl), .int (nI nl), .int mi, .int ofr, .ref aMr, .int (nI pe), .ref aMs, .ref aMl, .int bc, .int rd, .ref aMg, .ref aMb, .int (nI bk), .ref aMo, .int sd, .int ko, .int kpe, .int kmi, .int kbk, .ref aMkr, .ref aMks, .ref aMkb, .long ha])), (aMs, .inl (cI, 12, .inl ss))] (some (.int (f_X5_person nl pe sect))) [(aM, .inr (5, [.ref aMp, .int (nI pl), .int (nI nl), .int mi, .int ofr, .ref aMr, .int (f_X5_person_M_6 nl pe sect), .ref aMs, .ref aMl, .int bc, .int rd, .ref aMg, .ref aMb, .int (nI bk), .ref aMo, .int sd, .int ko, .int kpe, .int kmi, .int kbk, .ref aMkr, .ref aMks, .ref aMkb, .long ha])), (aMs, .inl (cI, 12, .inl (f_X5_person_Ms nl pe ss sect)))] := by
  refine mX (cc := cX5_person) (maxL := 2) (ret := (some .int)) (by decide) rfl (Nat.le_of_ble_eq_true rfl) ?_
  intro p e s m args below meth c Q A hx hb hr hml hown hts hlk hP hK hD hA hS hQ ls hl
  have hown : s.vm.findClass RX5 = some m.cls := hown
  have hl : lv_has ls 2 [(0, .ref aM), (1, .int sect)] := hl
  have w1 := hts (.fieldLink RX5 73 "DarkOfficeModel" "people" "I") (List.mem_of_getElem? (i := 1) rfl)
  have uX5 : ∀ w ∈ wsX50, w ∈ wsX5_person := fun _ h => List.mem_cons_of_mem _ (List.mem_append_right _ h)
  have w2 := hts (.fieldLink RX5 16 "DarkOfficeModel" "seats" "[I") (List.mem_of_getElem? (i := 2) rfl)
  refine lv_aload_n hx hb dX5_person_0 rfl (lv_at hl 0 rfl) ?_
  refine lv_iload_n hx hb dX5_person_1 rfl (lv_at hl 1 rfl) ?_
  refine rV ⟨hx, hb, hml, hown, hts⟩ (c_X5_isLamp l D cI aM aMp aMr aMs aMl aMg aMb aMo aMkr aMks aMkb ofr rd pl nl mi pe kmi kpe bc bk sd ko kbk ha sect) (cwV 1 hts gX5_person_X5_isLamp rfl rfl rfl hd_X5_isLamp ⟨Nat.le_of_ble_eq_true rfl, Nat.le_of_ble_eq_true rfl⟩) hK (hP.sub [0] rfl) 0 rfl rfl rfl rfl hl.1 (rest := []) (st' := [.int (f_X5_isLamp nl sect)]) rfl rfl (Nat.le_of_ble_eq_true rfl) dX5_person_2 ⟨Nat.zero_le _, Nat.zero_le _⟩ ?_
  refine lv_if_ne (tgt := 11) hx hb dX5_person_5 (by decide) (fun c1 => ?_) (fun c1 => ?_)
  · refine lv_aload_n hx hb dX5_person_11 rfl (lv_at hl 0 rfl) ?_
    refine va_get (D := D) (ci := 5) (v := .int (nI pe)) (C := RX5) (T := TX5) (N := 24) hx hb hts uX5 hown hK hP 0 rfl rfl 6 (by decide) w1 (fun _ h9 => h9) rfl dX5_person_12 ?_
    refine lv_iconst (v := 4) hx hb dX5_person_15 (by decide) ?_
    refine lv_icmp_ne (tgt := 22) hx hb dX5_person_16 (by decide) (fun c2 => ?_) (fun c2 => ?_)
    · have q2 : ¬ pe = 4 := neq_e (a := pe) (b := 4) rfl rfl (by omega) (by omega) c2
      refine lv_aload_n hx hb dX5_person_22 rfl (lv_at hl 0 rfl) ?_
      refine va_get (D := D) (ci := 5) (v := .ref aMs) (C := RX5) (T := TX5) (N := 24) hx hb hts uX5 hown hK hP 0 rfl rfl 7 (by decide) w2 (fun _ h9 => h9) rfl dX5_person_23 ?_
      refine lv_iconst (v := 3) hx hb dX5_person_26 (by decide) ?_
      refine lv_aload_n hx hb dX5_person_27 rfl (lv_at hl 0 rfl) ?_
      refine va_get (D := D) (ci := 5) (v := .int (nI pe)) (C := RX5) (T := TX5) (N := 24) hx hb hts uX5 hown hK hP 0 rfl rfl 6 (by decide) w1 (fun _ h9 => h9) rfl dX5_person_28 ?_
      refine lv_imul hx hb dX5_person_31 ?_
      refine lv_iload_n hx hb dX5_person_32 rfl (lv_at hl 1 rfl) ?_
      refine xast hx hb hK hP hD hS 1 rfl (3 * pe) (ix_mul rfl rfl) (by omega) (by decide) dX5_person_33 (fun H locs hP hD hS => ?_)
      have hP : va_P D vwCl [(aM, .inr (5, [.ref aMp, .int (nI pl), .int (nI nl), .int mi, .int ofr, .ref aMr, .int (nI pe), .ref aMs, .ref aMl, .int bc, .int rd, .ref aMg, .ref aMb, .int (nI bk), .ref aMo, .int sd, .int ko, .int kpe, .int kmi, .int kbk, .ref aMkr, .ref aMks, .ref aMkb, .long ha])), (aMs, .inl (cI, 12, .inl (upd ss (3 * pe) sect)))] H := hP
      have hD : va_D A [(aM, .inr (5, [.ref aMp, .int (nI pl), .int (nI nl), .int mi, .int ofr, .ref aMr, .int (nI pe), .ref aMs, .ref aMl, .int bc, .int rd, .ref aMg, .ref aMb, .int (nI bk), .ref aMo, .int sd, .int ko, .int kpe, .int kmi, .int kbk, .ref aMkr, .ref aMks, .ref aMkb, .long ha])), (aMs, .inl (cI, 12, .inl (upd ss (3 * pe) sect)))] := hD
      refine lv_aload_n hx hb dX5_person_34 rfl (lv_at hl 0 rfl) ?_
      refine va_get (D := D) (ci := 5) (v := .ref aMs) (C := RX5) (T := TX5) (N := 24) hx hb hts uX5 hown hK hP 0 rfl rfl 7 (by decide) w2 (fun _ h9 => h9) rfl dX5_person_35 ?_
      refine lv_iconst (v := 3) hx hb dX5_person_38 (by decide) ?_
      refine lv_aload_n hx hb dX5_person_39 rfl (lv_at hl 0 rfl) ?_
      refine va_get (D := D) (ci := 5) (v := .int (nI pe)) (C := RX5) (T := TX5) (N := 24) hx hb hts uX5 hown hK hP 0 rfl rfl 6 (by decide) w1 (fun _ h9 => h9) rfl dX5_person_40 ?_
      refine lv_imul hx hb dX5_person_43 ?_
      refine lv_iconst (v := 1) hx hb dX5_person_44 (by decide) ?_
      refine lv_iadd hx hb dX5_person_45 ?_
      refine lv_iconst (v := 0) hx hb dX5_person_46 (by decide) ?_
      refine xast hx hb hK hP hD hS 1 rfl ((3 * pe) + 1) (ix_add (ix_mul rfl rfl) rfl) (by omega) (by decide) dX5_person_47 (fun H locs hP hD hS => ?_)
      have hP : va_P D vwCl [(aM, .inr (5, [.ref aMp, .int (nI pl), .int (nI nl), .int mi, .int ofr, .ref aMr, .int (nI pe), .ref aMs, .ref aMl, .int bc, .int rd, .ref aMg, .ref aMb, .int (nI bk), .ref aMo, .int sd, .int ko, .int kpe, .int kmi, .int kbk, .ref aMkr, .ref aMks, .ref aMkb, .long ha])), (aMs, .inl (cI, 12, .inl (upd (upd ss (3 * pe) sect) ((3 * pe) + 1) 0)))] H := hP
      have hD : va_D A [(aM, .inr (5, [.ref aMp, .int (nI pl), .int (nI nl), .int mi, .int ofr, .ref aMr, .int (nI pe), .ref aMs, .ref aMl, .int bc, .int rd, .ref aMg, .ref aMb, .int (nI bk), .ref aMo, .int sd, .int ko, .int kpe, .int kmi, .int kbk, .ref aMkr, .ref aMks, .ref aMkb, .long ha])), (aMs, .inl (cI, 12, .inl (upd (upd ss (3 * pe) sect) ((3 * pe) + 1) 0)))] := hD
      refine lv_aload_n hx hb dX5_person_48 rfl (lv_at hl 0 rfl) ?_
      refine va_get (D := D) (ci := 5) (v := .ref aMs) (C := RX5) (T := TX5) (N := 24) hx hb hts uX5 hown hK hP 0 rfl rfl 7 (by decide) w2 (fun _ h9 => h9) rfl dX5_person_49 ?_
      refine lv_iconst (v := 3) hx hb dX5_person_52 (by decide) ?_
      refine lv_aload_n hx hb dX5_person_53 rfl (lv_at hl 0 rfl) ?_
      refine va_get (D := D) (ci := 5) (v := .int (nI pe)) (C := RX5) (T := TX5) (N := 24) hx hb hts uX5 hown hK hP 0 rfl rfl 6 (by decide) w1 (fun _ h9 => h9) rfl dX5_person_54 ?_
      refine lv_imul hx hb dX5_person_57 ?_
      refine lv_iconst (v := 2) hx hb dX5_person_58 (by decide) ?_
      refine lv_iadd hx hb dX5_person_59 ?_
      refine lv_iconst (v := 0) hx hb dX5_person_60 (by decide) ?_
      refine xast hx hb hK hP hD hS 1 rfl ((3 * pe) + 2) (ix_add (ix_mul rfl rfl) rfl) (by omega) (by decide) dX5_person_61 (fun H locs hP hD hS => ?_)
      have hP : va_P D vwCl [(aM, .inr (5, [.ref aMp, .int (nI pl), .int (nI nl), .int mi, .int ofr, .ref aMr, .int (nI pe), .ref aMs, .ref aMl, .int bc, .int rd, .ref aMg, .ref aMb, .int (nI bk), .ref aMo, .int sd, .int ko, .int kpe, .int kmi, .int kbk, .ref aMkr, .ref aMks, .ref aMkb, .long ha])), (aMs, .inl (cI, 12, .inl (upd (upd (upd ss (3 * pe) sect) ((3 * pe) + 1) 0) ((3 * pe) + 2) 0)))] H := hP
      have hD : va_D A [(aM, .inr (5, [.ref aMp, .int (nI pl), .int (nI nl), .int mi, .int ofr, .ref aMr, .int (nI pe), .ref aMs, .ref aMl, .int bc, .int rd, .ref aMg, .ref aMb, .int (nI bk), .ref aMo, .int sd, .int ko, .int kpe, .int kmi, .int kbk, .ref aMkr, .ref aMks, .ref aMkb, .long ha])), (aMs, .inl (cI, 12, .inl (upd (upd (upd ss (3 * pe) sect) ((3 * pe) + 1) 0) ((3 * pe) + 2) 0)))] := hD
      refine lv_aload_n hx hb dX5_person_62 rfl (lv_at hl 0 rfl) ?_
      refine lv_dup hx hb dX5_person_63 rfl ?_
      refine va_get (D := D) (ci := 5) (v := .int (nI pe)) (C := RX5) (T := TX5) (N := 24) hx hb hts uX5 hown hK hP 0 rfl rfl 6 (by decide) w1 (fun _ h9 => h9) rfl dX5_person_64 ?_
      refine lv_iconst (v := 1) hx hb dX5_person_67 (by decide) ?_
      refine lv_iadd hx hb dX5_person_68 ?_
      refine va_put (D := D) (ci := 5) (v := .int (nI pe + 1)) (ty := .int) (C := RX5) (T := TX5) (N := 24) hx hb hts uX5 tyX5 tyX5_ok nmX5 hown hK hP hD hS 0 rfl rfl 6 (by decide) w1 (fun _ h9 => h9) rfl (by decide +kernel) rfl rfl (Nat.le_of_ble_eq_true rfl) dX5_person_69 (fun H locs hP hD hS => ?_)
      have hP : va_P D vwCl [(aM, .inr (5, [.ref aMp, .int (nI pl), .int (nI nl), .int mi, .int ofr, .ref aMr, .int (nI pe + 1), .ref aMs, .ref aMl, .int bc, .int rd, .ref aMg, .ref aMb, .int (nI bk), .ref aMo, .int sd, .int ko, .int kpe, .int kmi, .int kbk, .ref aMkr, .ref aMks, .ref aMkb, .long ha])), (aMs, .inl (cI, 12, .inl (upd (upd (upd ss (3 * pe) sect) ((3 * pe) + 1) 0) ((3 * pe) + 2) 0)))] H := hP
      have hD : va_D A [(aM, .inr (5, [.ref aMp, .int (nI pl), .int (nI nl), .int mi, .int ofr, .ref aMr, .int (nI pe + 1), .ref aMs, .ref aMl, .int bc, .int rd, .ref aMg, .ref aMb, .int (nI bk), .ref aMo, .int sd, .int ko, .int kpe, .int kmi, .int kbk, .ref aMkr, .ref aMks, .ref aMkb, .long ha])), (aMs, .inl (cI, 12, .inl (upd (upd (upd ss (3 * pe) sect) ((3 * pe) + 1) 0) ((3 * pe) + 2) 0)))] := hD
      refine lv_aload_n hx hb dX5_person_72 rfl (lv_at hl 0 rfl) ?_
      refine va_get (D := D) (ci := 5) (v := .int (nI pe + 1)) (C := RX5) (T := TX5) (N := 24) hx hb hts uX5 hown hK hP 0 rfl rfl 6 (by decide) w1 (fun _ h9 => h9) rfl dX5_person_73 ?_
      refine lv_iconst (v := 1) hx hb dX5_person_76 (by decide) ?_
      refine lv_isub hx hb dX5_person_77 ?_
      have e_M_6 : (f_X5_person_M_6 nl pe sect) = (nI pe + 1) := (by simp only [f_X5_person_M_6, if_neg c1, if_neg c2])
      have e_Ms : (f_X5_person_Ms nl pe ss sect) = (upd (upd (upd ss (3 * pe) sect) ((3 * pe) + 1) 0) ((3 * pe) + 2) 0) := (by simp only [f_X5_person_Ms, if_neg c1, if_neg c2])
      exact eXi hx hb hr hlk hQ (by rw [e_M_6, e_Ms]; exact hP) (by rw [e_M_6, e_Ms]; exact hD) hS dX5_person_78 (Eq.symm (by simp only [f_X5_person, if_neg c1, if_neg c2]))
    · have q2 : pe = 4 := neq_d (a := pe) (b := 4) rfl rfl (by omega) (by omega) c2
      refine lv_bipush (v := (-104)) hx hb dX5_person_19 (by decide) ?_
      have e_M_6 : (f_X5_person_M_6 nl pe sect) = nI pe := (by simp only [f_X5_person_M_6, if_neg c1, if_pos c2])
      have e_Ms : (f_X5_person_Ms nl pe ss sect) = ss := (by simp only [f_X5_person_Ms, if_neg c1, if_pos c2])
      exact eXi hx hb hr hlk hQ (by rw [e_M_6, e_Ms]; exact hP) (by rw [e_M_6, e_Ms]; exact hD) hS dX5_person_21 (Eq.symm (by simp only [f_X5_person, if_neg c1, if_pos c2]))
  · refine lv_bipush (v := (-101)) hx hb dX5_person_8 (by decide) ?_
    have e_M_6 : (f_X5_person_M_6 nl pe sect) = nI pe := (by simp only [f_X5_person_M_6, if_pos c1])
    have e_Ms : (f_X5_person_Ms nl pe ss sect) = ss := (by simp only [f_X5_person_Ms, if_pos c1])
    exact eXi hx hb hr hlk hQ (by rw [e_M_6, e_Ms]; exact hP) (by rw [e_M_6, e_Ms]; exact hD) hS dX5_person_10 (Eq.symm (by simp only [f_X5_person, if_pos c1]))

def rm_X5_tell : Room := { frames := 0, cells := 0, slots := 0, locals := 0 }
def f_X5_tell (ro : Nat → Int32) (ss : Nat → Int32) (pj : Nat) (what : Int32) : Int32 := (if what = 0 then (ss (3 * pj)) else (if what = 1 then (if (ro ((3 * (ss (3 * pj))) + 2).toNatClampNeg) ≤ 0 then 0 else 1) else (if what = 2 then (ss (3 * pj + 2 - 1)) else (if what = 3 then (ss (3 * pj + 3 - 1)) else (-102)))))
theorem hd_X5_tell : yX5_tell.cls = RX5 ∧ yX5_tell.cls ≠ "java/lang/invoke/MethodHandle" ∧ yX5_tell.cls ≠ "java/lang/invoke/VarHandle" ∧ (parseMethodDescriptor yX5_tell.desc).map (fun d => d.parameters.length) = some 2 := by decide +kernel
set_option maxHeartbeats 4000000 in
set_option maxRecDepth 100000 in
theorem c_X5_tell (l : Launch) (D : va_G) (cI : ClassId) (aM aMp aMr aMs aMl aMg aMb aMo aMkr aMks aMkb : Nat) (ofr : Int32) (rd : Int32) (pl : Nat) (nl : Nat) (mi : Int32) (pe : Nat) (kmi : Int32) (kpe : Int32) (bc : Int32) (bk : Nat) (sd : Int32) (ko : Int32) (kbk : Int32) (ha : Int64) (ro : Nat → Int32) (ss : Nat → Int32) (pj : Nat) (what : Int32) (hpe : pe ≤ 4) (hpj : pj < pe) (hss : ∀ j, j < pe → vp_in (ss (3 * j)) 6) : MetR l yX5_tell wsX5_tell rm_X5_tell D cI [.ref aM, .int (nI pj), .int what] [(aM, .inr (5, [.ref aMp, .int (nI pl), .int (nI nl), .int mi, .int ofr, .ref aMr, .int (nI pe), .ref aMs, .ref aMl, .int bc, .int rd, .ref aMg, .ref aMb, .int (nI bk), .ref aMo, .int sd, .int ko, .int kpe, .int kmi, .int kbk, .ref aMkr, .ref aMks, .ref aMkb, .long ha])), (aMr, .inl (cI, 18, .inl ro)), (aMs, .inl (cI, 12, .inl ss))] (some (.int (f_X5_tell ro ss pj what))) := by
  refine mR (cc := cX5_tell) (maxL := 3) (ret := (some .int)) (by decide) rfl (Nat.le_of_ble_eq_true rfl) ?_
  intro p e s m args below meth c Q hx hb hr hml hown hts hlk hP hK hQ ls hl
  have hown : s.vm.findClass RX5 = some m.cls := hown
  have hl : lv_has ls 3 [(0, .ref aM), (1, .int (nI pj)), (2, .int what)] := hl
  have w1 := hts (.fieldLink RX5 16 "DarkOfficeModel" "seats" "[I") (List.mem_of_getElem? (i := 1) rfl)
  have uX5 : ∀ w ∈ wsX50, w ∈ wsX5_tell := fun _ h => List.mem_cons_of_mem _ (List.mem_append_right _ h)
  have w2 := hts (.fieldLink RX5 13 "DarkOfficeModel" "rows" "[I") (List.mem_of_getElem? (i := 2) rfl)
  refine lv_iload_n hx hb dX5_tell_0 rfl (lv_at hl 2 rfl) ?_
  by_cases c1 : what = 0
  · refine lv_tableIn (off := 31) (tgt := 32) hx hb dX5_tell_1 (by rw [c1]; decide) (by rw [c1]; decide) (by rw [c1]; rfl) (by decide) ?_
    refine lv_aload_n hx hb dX5_tell_32 rfl (lv_at hl 0 rfl) ?_
    refine va_get (D := D) (ci := 5) (v := .ref aMs) (C := RX5) (T := TX5) (N := 24) hx hb hts uX5 hown hK hP 0 rfl rfl 7 (by decide) w1 (fun _ h9 => h9) rfl dX5_tell_33 ?_
    refine lv_iconst (v := 3) hx hb dX5_tell_36 (by decide) ?_
    refine lv_iload_n hx hb dX5_tell_37 rfl (lv_at hl 1 rfl) ?_
    refine lv_imul hx hb dX5_tell_38 ?_
    refine xald hx hb hK hP 2 rfl (3 * pj) (ix_mul rfl rfl) (by omega) (by decide) dX5_tell_39 ?_
    exact eRi hx hb hr hlk hQ dX5_tell_40 (Eq.symm (by simp only [f_X5_tell, if_pos c1]))
  · by_cases c2 : what = 1
    · refine lv_tableIn (off := 40) (tgt := 41) hx hb dX5_tell_1 (by rw [c2]; decide) (by rw [c2]; decide) (by rw [c2]; rfl) (by decide) ?_
      refine lv_aload_n hx hb dX5_tell_41 rfl (lv_at hl 0 rfl) ?_
      refine va_get (D := D) (ci := 5) (v := .ref aMr) (C := RX5) (T := TX5) (N := 24) hx hb hts uX5 hown hK hP 0 rfl rfl 5 (by decide) w2 (fun _ h9 => h9) rfl dX5_tell_42 ?_
      refine lv_iconst (v := 3) hx hb dX5_tell_45 (by decide) ?_
      refine lv_aload_n hx hb dX5_tell_46 rfl (lv_at hl 0 rfl) ?_
      refine va_get (D := D) (ci := 5) (v := .ref aMs) (C := RX5) (T := TX5) (N := 24) hx hb hts uX5 hown hK hP 0 rfl rfl 7 (by decide) w1 (fun _ h9 => h9) rfl dX5_tell_47 ?_
      refine lv_iconst (v := 3) hx hb dX5_tell_50 (by decide) ?_
      refine lv_iload_n hx hb dX5_tell_51 rfl (lv_at hl 1 rfl) ?_
      refine lv_imul hx hb dX5_tell_52 ?_
      refine xald hx hb hK hP 2 rfl (3 * pj) (ix_mul rfl rfl) (by omega) (by decide) dX5_tell_53 ?_
      refine lv_imul hx hb dX5_tell_54 ?_
      refine lv_iconst (v := 2) hx hb dX5_tell_55 (by decide) ?_
      refine lv_iadd hx hb dX5_tell_56 ?_
      refine va_iald hx hb hK hP 1 0 rfl rfl (vin_row (hss pj (by omega))) dX5_tell_57 ?_
      refine lv_if_le (tgt := 65) hx hb dX5_tell_58 (by decide) (fun c3 => ?_) (fun c3 => ?_)
      · refine lv_iconst (v := 0) hx hb dX5_tell_65 (by decide) ?_
        exact eRi hx hb hr hlk hQ dX5_tell_66 (Eq.symm (by simp only [f_X5_tell, if_neg c1, if_pos c2, if_pos c3]))
      · refine lv_iconst (v := 1) hx hb dX5_tell_61 (by decide) ?_
        refine lv_goto (tgt := 66) hx hb dX5_tell_62 (by decide) ?_
        exact eRi hx hb hr hlk hQ dX5_tell_66 (Eq.symm (by simp only [f_X5_tell, if_neg c1, if_pos c2, if_neg c3]))
    · by_cases c4 : what = 2
      · refine lv_tableIn (off := 66) (tgt := 67) hx hb dX5_tell_1 (by rw [c4]; decide) (by rw [c4]; decide) (by rw [c4]; rfl) (by decide) ?_
        refine lv_aload_n hx hb dX5_tell_67 rfl (lv_at hl 0 rfl) ?_
        refine va_get (D := D) (ci := 5) (v := .ref aMs) (C := RX5) (T := TX5) (N := 24) hx hb hts uX5 hown hK hP 0 rfl rfl 7 (by decide) w1 (fun _ h9 => h9) rfl dX5_tell_68 ?_
        refine lv_iconst (v := 3) hx hb dX5_tell_71 (by decide) ?_
        refine lv_iload_n hx hb dX5_tell_72 rfl (lv_at hl 1 rfl) ?_
        refine lv_imul hx hb dX5_tell_73 ?_
        refine lv_iload_n hx hb dX5_tell_74 rfl (lv_at hl 2 rfl) ?_
        refine lv_iadd hx hb dX5_tell_75 ?_
        refine lv_iconst (v := 1) hx hb dX5_tell_76 (by decide) ?_
        refine lv_isub hx hb dX5_tell_77 ?_
        refine tpi (y := nI (3 * pj + 2 - 1)) (by rw [c4]; exact (ix_sub (by omega) (ix_add (ix_mul rfl rfl) rfl) rfl)) ?_
        refine xald hx hb hK hP 2 rfl (3 * pj + 2 - 1) rfl (by omega) (by decide) dX5_tell_78 ?_
        exact eRi hx hb hr hlk hQ dX5_tell_79 (Eq.symm (by simp only [f_X5_tell, if_neg c1, if_neg c2, if_pos c4]))
      · by_cases c5 : what = 3
        · refine lv_tableIn (off := 66) (tgt := 67) hx hb dX5_tell_1 (by rw [c5]; decide) (by rw [c5]; decide) (by rw [c5]; rfl) (by decide) ?_
          refine lv_aload_n hx hb dX5_tell_67 rfl (lv_at hl 0 rfl) ?_
          refine va_get (D := D) (ci := 5) (v := .ref aMs) (C := RX5) (T := TX5) (N := 24) hx hb hts uX5 hown hK hP 0 rfl rfl 7 (by decide) w1 (fun _ h9 => h9) rfl dX5_tell_68 ?_
          refine lv_iconst (v := 3) hx hb dX5_tell_71 (by decide) ?_
          refine lv_iload_n hx hb dX5_tell_72 rfl (lv_at hl 1 rfl) ?_
          refine lv_imul hx hb dX5_tell_73 ?_
          refine lv_iload_n hx hb dX5_tell_74 rfl (lv_at hl 2 rfl) ?_
          refine lv_iadd hx hb dX5_tell_75 ?_
          refine lv_iconst (v := 1) hx hb dX5_tell_76 (by decide) ?_
          refine lv_isub hx hb dX5_tell_77 ?_
          refine tpi (y := nI (3 * pj + 3 - 1)) (by rw [c5]; exact (ix_sub (by omega) (ix_add (ix_mul rfl rfl) rfl) rfl)) ?_
          refine xald hx hb hK hP 2 rfl (3 * pj + 3 - 1) rfl (by omega) (by decide) dX5_tell_78 ?_
          exact eRi hx hb hr hlk hQ dX5_tell_79 (Eq.symm (by simp only [f_X5_tell, if_neg c1, if_neg c2, if_neg c4, if_pos c5]))
        · have z1_0 := lv_neT (a := 0) c1 (by decide)
          have z1_1 := lv_neT (a := 1) c2 (by decide)
          have z1_2 := lv_neT (a := 2) c4 (by decide)
          have z1_3 := lv_neT (a := 3) c5 (by decide)
          refine lv_tableOut (tgt := 80) hx hb dX5_tell_1 (by omega) (by decide) ?_
          refine lv_bipush (v := (-102)) hx hb dX5_tell_80 (by decide) ?_
          exact eRi hx hb hr hlk hQ dX5_tell_82 (Eq.symm (by simp only [f_X5_tell, if_neg c1, if_neg c2, if_neg c4, if_neg c5]))

def rm_X5_about : Room := { frames := 2, cells := 0, slots := 0, locals := 46 }
def f_X5_about (pe : Nat) (ro : Nat → Int32) (ss : Nat → Int32) (person : Int32) (what : Int32) : Int32 := (if (f_X5_isPerson pe person) = 0 then (-101) else (f_X5_tell ro ss (person.toNatClampNeg) what))
theorem hd_X5_about : yX5_about.cls = RX5 ∧ yX5_about.cls ≠ "java/lang/invoke/MethodHandle" ∧ yX5_about.cls ≠ "java/lang/invoke/VarHandle" ∧ (parseMethodDescriptor yX5_about.desc).map (fun d => d.parameters.length) = some 2 := by decide +kernel
set_option maxHeartbeats 4000000 in
set_option maxRecDepth 100000 in
theorem c_X5_about (l : Launch) (D : va_G) (cI : ClassId) (aM aMp aMr aMs aMl aMg aMb aMo aMkr aMks aMkb : Nat) (ofr : Int32) (rd : Int32) (pl : Nat) (nl : Nat) (mi : Int32) (pe : Nat) (kmi : Int32) (kpe : Int32) (bc : Int32) (bk : Nat) (sd : Int32) (ko : Int32) (kbk : Int32) (ha : Int64) (ro : Nat → Int32) (ss : Nat → Int32) (person : Int32) (what : Int32) (hpe : pe ≤ 4) (hss : ∀ j, j < pe → vp_in (ss (3 * j)) 6) : MetR l yX5_about wsX5_about rm_X5_about D cI [.ref aM, .int person, .int what] [(aM, .inr (5, [.ref aMp, .int (nI pl), .int (nI nl), .int mi, .int ofr, .ref aMr, .int (nI pe), .ref aMs, .ref aMl, .int bc, .int rd, .ref aMg, .ref aMb, .int (nI bk), .ref aMo, .int sd, .int ko, .int kpe, .int kmi, .int kbk, .ref aMkr, .ref aMks, .ref aMkb, .long ha])), (aMr, .inl (cI, 18, .inl ro)), (aMs, .inl (cI, 12, .inl ss))] (some (.int (f_X5_about pe ro ss person what))) := by
  refine mR (cc := cX5_about) (maxL := 3) (ret := (some .int)) (by decide) rfl (Nat.le_of_ble_eq_true rfl) ?_
  intro p e s m args below meth c Q hx hb hr hml hown hts hlk hP hK hQ ls hl
  have hown : s.vm.findClass RX5 = some m.cls := hown
  have hl : lv_has ls 3 [(0, .ref aM), (1, .int person), (2, .int what)] := hl
  refine lv_aload_n hx hb dX5_about_0 rfl (lv_at hl 0 rfl) ?_
  refine lv_iload_n hx hb dX5_about_1 rfl (lv_at hl 1 rfl) ?_
  refine rV ⟨hx, hb, hml, hown, hts⟩ (c_X5_isPerson l D cI aM aMp aMr aMs aMl aMg aMb aMo aMkr aMks aMkb ofr rd pl nl mi pe kmi kpe bc bk sd ko kbk ha person) (cwV 1 hts gX5_about_X5_isPerson rfl rfl rfl hd_X5_isPerson ⟨Nat.le_of_ble_eq_true rfl, Nat.le_of_ble_eq_true rfl⟩) hK (hP.sub [0] rfl) 0 rfl rfl rfl rfl hl.1 (rest := []) (st' := [.int (f_X5_isPerson pe person)]) rfl rfl (Nat.le_of_ble_eq_true rfl) dX5_about_2 ⟨Nat.zero_le _, Nat.zero_le _⟩ ?_
  refine lv_if_eq (tgt := 17) hx hb dX5_about_5 (by decide) (fun c1 => ?_) (fun c1 => ?_)
  · refine lv_bipush (v := (-101)) hx hb dX5_about_17 (by decide) ?_
    exact eRi hx hb hr hlk hQ dX5_about_19 (Eq.symm (by simp only [f_X5_about, if_pos c1]))
  · have hm1 := persM hpe c1
    have hm : person = nI person.toNatClampNeg := hm1.1
    have hm2 : person.toNatClampNeg < pe := hm1.2
    refine lv_aload_n hx hb dX5_about_8 rfl (lv_at hl 0 rfl) ?_
    refine lv_iload_n hx hb dX5_about_9 rfl (lv_at hl 1 rfl) ?_
    refine tpi (y := nI (person.toNatClampNeg)) hm ?_
    refine lv_iload_n hx hb dX5_about_10 rfl (lv_at hl 2 rfl) ?_
    refine rV ⟨hx, hb, hml, hown, hts⟩ (c_X5_tell l D cI aM aMp aMr aMs aMl aMg aMb aMo aMkr aMks aMkb ofr rd pl nl mi pe kmi kpe bc bk sd ko kbk ha ro ss (person.toNatClampNeg) what hpe hm2 hss) (cwV 2 hts gX5_about_X5_tell rfl rfl rfl hd_X5_tell ⟨Nat.le_of_ble_eq_true rfl, Nat.le_of_ble_eq_true rfl⟩) hK (hP.sub [0, 1, 2] rfl) 0 rfl rfl rfl rfl hl.1 (rest := []) (st' := [.int (f_X5_tell ro ss (person.toNatClampNeg) what)]) rfl rfl (Nat.le_of_ble_eq_true rfl) dX5_about_11 ⟨Nat.zero_le _, Nat.zero_le _⟩ ?_
    refine lv_goto (tgt := 19) hx hb dX5_about_14 (by decide) ?_
    exact eRi hx hb hr hlk hQ dX5_about_19 (Eq.symm (by simp only [f_X5_about, if_neg c1]))

def rm_X5_move : Room := { frames := 2, cells := 0, slots := 0, locals := 46 }
def f_X5_move (nl : Nat) (pe : Nat) (ss : Nat → Int32) (person : Int32) (sect : Int32) : Int32 := (if (f_X5_isPerson pe person) = 0 then (-101) else (if (f_X5_isLamp nl sect) = 0 then (-101) else (ss (3 * (person.toNatClampNeg)))))
def f_X5_move_Ms (nl : Nat) (pe : Nat) (ss : Nat → Int32) (person : Int32) (sect : Int32) : Nat → Int32 := (if (f_X5_isPerson pe person) = 0 then ss else (if (f_X5_isLamp nl sect) = 0 then ss else (upd ss (3 * (person.toNatClampNeg)) sect)))
theorem hd_X5_move : yX5_move.cls = RX5 ∧ yX5_move.cls ≠ "java/lang/invoke/MethodHandle" ∧ yX5_move.cls ≠ "java/lang/invoke/VarHandle" ∧ (parseMethodDescriptor yX5_move.desc).map (fun d => d.parameters.length) = some 2 := by decide +kernel
set_option maxHeartbeats 4000000 in
set_option maxRecDepth 100000 in
theorem c_X5_move (l : Launch) (D : va_G) (cI : ClassId) (aM aMp aMr aMs aMl aMg aMb aMo aMkr aMks aMkb : Nat) (ofr : Int32) (rd : Int32) (pl : Nat) (nl : Nat) (mi : Int32) (pe : Nat) (kmi : Int32) (kpe : Int32) (bc : Int32) (bk : Nat) (sd : Int32) (ko : Int32) (kbk : Int32) (ha : Int64) (ss : Nat → Int32) (person : Int32) (sect : Int32) (hn : nl ≤ 6) (hpe : pe ≤ 4) : MetX l yX5_move wsX5_move rm_X5_move D cI [.ref aM, .int person, .int sect] [(aM, .inr (5, [.ref aMp, .int (nI pl), .int (nI nl), .int mi, .int ofr, .ref aMr, .int (nI pe), .ref aMs, .ref aMl, .int bc, .int rd, .ref aMg, .ref aMb, .int (nI bk), .ref aMo, .int sd, .int ko, .int kpe, .int kmi, .int kbk, .ref aMkr, .ref aMks, .ref aMkb, .long ha])), (aMs, .inl (cI, 12, .inl ss))] (some (.int (f_X5_move nl pe ss person sect))) [(aM, .inr (5, [.ref aMp, .int (nI pl), .int (nI nl), .int mi, .int ofr, .ref aMr, .int (nI pe), .ref aMs, .ref aMl, .int bc, .int rd, .ref aMg, .ref aMb, .int (nI bk), .ref aMo, .int sd, .int ko, .int kpe, .int kmi, .int kbk, .ref aMkr, .ref aMks, .ref aMkb, .long ha])), (aMs, .inl (cI, 12, .inl (f_X5_move_Ms nl pe ss person sect)))] := by
  refine mX (cc := cX5_move) (maxL := 4) (ret := (some .int)) (by decide) rfl (Nat.le_of_ble_eq_true rfl) ?_
  intro p e s m args below meth c Q A hx hb hr hml hown hts hlk hP hK hD hA hS hQ ls hl
  have hown : s.vm.findClass RX5 = some m.cls := hown
  have hl : lv_has ls 4 [(0, .ref aM), (1, .int person), (2, .int sect)] := hl
  have w1 := hts (.fieldLink RX5 16 "DarkOfficeModel" "seats" "[I") (List.mem_of_getElem? (i := 1) rfl)
  have uX5 : ∀ w ∈ wsX50, w ∈ wsX5_move := fun _ h => List.mem_cons_of_mem _ (List.mem_append_right _ h)
  refine lv_aload_n hx hb dX5_move_0 rfl (lv_at hl 0 rfl) ?_
  refine lv_iload_n hx hb dX5_move_1 rfl (lv_at hl 1 rfl) ?_
  refine rV ⟨hx, hb, hml, hown, hts⟩ (c_X5_isPerson l D cI aM aMp aMr aMs aMl aMg aMb aMo aMkr aMks aMkb ofr rd pl nl mi pe kmi kpe bc bk sd ko kbk ha person) (cwV 1 hts gX5_move_X5_isPerson rfl rfl rfl hd_X5_isPerson ⟨Nat.le_of_ble_eq_true rfl, Nat.le_of_ble_eq_true rfl⟩) hK (hP.sub [0] rfl) 0 rfl rfl rfl rfl hl.1 (rest := []) (st' := [.int (f_X5_isPerson pe person)]) rfl rfl (Nat.le_of_ble_eq_true rfl) dX5_move_2 ⟨Nat.zero_le _, Nat.zero_le _⟩ ?_
  refine lv_if_eq (tgt := 16) hx hb dX5_move_5 (by decide) (fun c1 => ?_) (fun c1 => ?_)
  · refine lv_bipush (v := (-101)) hx hb dX5_move_16 (by decide) ?_
    have e_Ms : (f_X5_move_Ms nl pe ss person sect) = ss := (by simp only [f_X5_move_Ms, if_pos c1])
    exact eXi hx hb hr hlk hQ (by rw [e_Ms]; exact hP) (by rw [e_Ms]; exact hD) hS dX5_move_18 (Eq.symm (by simp only [f_X5_move, if_pos c1]))
  · refine lv_aload_n hx hb dX5_move_8 rfl (lv_at hl 0 rfl) ?_
    refine lv_iload_n hx hb dX5_move_9 rfl (lv_at hl 2 rfl) ?_
    refine rV ⟨hx, hb, hml, hown, hts⟩ (c_X5_isLamp l D cI aM aMp aMr aMs aMl aMg aMb aMo aMkr aMks aMkb ofr rd pl nl mi pe kmi kpe bc bk sd ko kbk ha sect) (cwV 1 hts gX5_move_X5_isLamp rfl rfl rfl hd_X5_isLamp ⟨Nat.le_of_ble_eq_true rfl, Nat.le_of_ble_eq_true rfl⟩) hK (hP.sub [0] rfl) 0 rfl rfl rfl rfl hl.1 (rest := []) (st' := [.int (f_X5_isLamp nl sect)]) rfl rfl (Nat.le_of_ble_eq_true rfl) dX5_move_10 ⟨Nat.zero_le _, Nat.zero_le _⟩ ?_
    refine lv_if_ne (tgt := 19) hx hb dX5_move_13 (by decide) (fun c2 => ?_) (fun c2 => ?_)
    · have hm1 := persM hpe c1
      have hm : person = nI person.toNatClampNeg := hm1.1
      have hm2 : person.toNatClampNeg < pe := hm1.2
      refine lv_aload_n hx hb dX5_move_19 rfl (lv_at hl 0 rfl) ?_
      refine va_get (D := D) (ci := 5) (v := .ref aMs) (C := RX5) (T := TX5) (N := 24) hx hb hts uX5 hown hK hP 0 rfl rfl 7 (by decide) w1 (fun _ h9 => h9) rfl dX5_move_20 ?_
      refine lv_iconst (v := 3) hx hb dX5_move_23 (by decide) ?_
      refine lv_iload_n hx hb dX5_move_24 rfl (lv_at hl 1 rfl) ?_
      refine tpi (y := nI (person.toNatClampNeg)) hm ?_
      refine lv_imul hx hb dX5_move_25 ?_
      refine xald hx hb hK hP 1 rfl (3 * (person.toNatClampNeg)) (ix_mul rfl rfl) (by omega) (by decide) dX5_move_26 ?_
      refine lv_istore_n (lv' := [(3, .int (ss (3 * (person.toNatClampNeg)))), (0, .ref aM), (1, .int person), (2, .int sect)]) hx hb dX5_move_27 rfl hl (by decide) rfl (fun ls hl => ?_)
      refine lv_aload_n hx hb dX5_move_28 rfl (lv_at hl 1 rfl) ?_
      refine va_get (D := D) (ci := 5) (v := .ref aMs) (C := RX5) (T := TX5) (N := 24) hx hb hts uX5 hown hK hP 0 rfl rfl 7 (by decide) w1 (fun _ h9 => h9) rfl dX5_move_29 ?_
      refine lv_iconst (v := 3) hx hb dX5_move_32 (by decide) ?_
      refine lv_iload_n hx hb dX5_move_33 rfl (lv_at hl 2 rfl) ?_
      refine tpi (y := nI (person.toNatClampNeg)) hm ?_
      refine lv_imul hx hb dX5_move_34 ?_
      refine lv_iload_n hx hb dX5_move_35 rfl (lv_at hl 3 rfl) ?_
      refine xast hx hb hK hP hD hS 1 rfl (3 * (person.toNatClampNeg)) (ix_mul rfl rfl) (by omega) (by decide) dX5_move_36 (fun H locs hP hD hS => ?_)
      have hP : va_P D vwCl [(aM, .inr (5, [.ref aMp, .int (nI pl), .int (nI nl), .int mi, .int ofr, .ref aMr, .int (nI pe), .ref aMs, .ref aMl, .int bc, .int rd, .ref aMg, .ref aMb, .int (nI bk), .ref aMo, .int sd, .int ko, .int kpe, .int kmi, .int kbk, .ref aMkr, .ref aMks, .ref aMkb, .long ha])), (aMs, .inl (cI, 12, .inl (upd ss (3 * (person.toNatClampNeg)) sect)))] H := hP
      have hD : va_D A [(aM, .inr (5, [.ref aMp, .int (nI pl), .int (nI nl), .int mi, .int ofr, .ref aMr, .int (nI pe), .ref aMs, .ref aMl, .int bc, .int rd, .ref aMg, .ref aMb, .int (nI bk), .ref aMo, .int sd, .int ko, .int kpe, .int kmi, .int kbk, .ref aMkr, .ref aMks, .ref aMkb, .long ha])), (aMs, .inl (cI, 12, .inl (upd ss (3 * (person.toNatClampNeg)) sect)))] := hD
      refine lv_iload_n hx hb dX5_move_37 rfl (lv_at hl 0 rfl) ?_
      have e_Ms : (f_X5_move_Ms nl pe ss person sect) = (upd ss (3 * (person.toNatClampNeg)) sect) := (by simp only [f_X5_move_Ms, if_neg c1, if_neg c2])
      exact eXi hx hb hr hlk hQ (by rw [e_Ms]; exact hP) (by rw [e_Ms]; exact hD) hS dX5_move_38 (Eq.symm (by simp only [f_X5_move, if_neg c1, if_neg c2]))
    · refine lv_bipush (v := (-101)) hx hb dX5_move_16 (by decide) ?_
      have e_Ms : (f_X5_move_Ms nl pe ss person sect) = ss := (by simp only [f_X5_move_Ms, if_neg c1, if_pos c2])
      exact eXi hx hb hr hlk hQ (by rw [e_Ms]; exact hP) (by rw [e_Ms]; exact hD) hS dX5_move_18 (Eq.symm (by simp only [f_X5_move, if_neg c1, if_pos c2]))

def rm_X5_asItIs : Room := { frames := 0, cells := 0, slots := 0, locals := 0 }
def f_X5_asItIs_2_Ml (ro : Nat → Int32) (lt : Nat → Int32) : Nat → (Nat → Int32)
  | 0 => lt
  | i1 + 1 => (upd (f_X5_asItIs_2_Ml ro lt i1) i1 (ro ((3 * i1) + 2)))
def f_X5_asItIs_Ml (nl : Nat) (ro : Nat → Int32) (lt : Nat → Int32) : Nat → Int32 := (f_X5_asItIs_2_Ml ro lt nl)
theorem hd_X5_asItIs : yX5_asItIs.cls = RX5 ∧ yX5_asItIs.cls ≠ "java/lang/invoke/MethodHandle" ∧ yX5_asItIs.cls ≠ "java/lang/invoke/VarHandle" ∧ (parseMethodDescriptor yX5_asItIs.desc).map (fun d => d.parameters.length) = some 0 := by decide +kernel
set_option maxHeartbeats 4000000 in
set_option maxRecDepth 100000 in
theorem c_X5_asItIs (l : Launch) (D : va_G) (cI : ClassId) (aM aMp aMr aMs aMl aMg aMb aMo aMkr aMks aMkb : Nat) (ofr : Int32) (rd : Int32) (pl : Nat) (nl : Nat) (mi : Int32) (pe : Nat) (kmi : Int32) (kpe : Int32) (bc : Int32) (bk : Nat) (sd : Int32) (ko : Int32) (kbk : Int32) (ha : Int64) (ro : Nat → Int32) (lt : Nat → Int32) (hn : nl ≤ 6) : MetX l yX5_asItIs wsX5_asItIs rm_X5_asItIs D cI [.ref aM] [(aM, .inr (5, [.ref aMp, .int (nI pl), .int (nI nl), .int mi, .int ofr, .ref aMr, .int (nI pe), .ref aMs, .ref aMl, .int bc, .int rd, .ref aMg, .ref aMb, .int (nI bk), .ref aMo, .int sd, .int ko, .int kpe, .int kmi, .int kbk, .ref aMkr, .ref aMks, .ref aMkb, .long ha])), (aMr, .inl (cI, 18, .inl ro)), (aMl, .inl (cI, 6, .inl lt))] none [(aM, .inr (5, [.ref aMp, .int (nI pl), .int (nI nl), .int mi, .int ofr, .ref aMr, .int (nI pe), .ref aMs, .ref aMl, .int bc, .int rd, .ref aMg, .ref aMb, .int (nI bk), .ref aMo, .int sd, .int ko, .int kpe, .int kmi, .int kbk, .ref aMkr, .ref aMks, .ref aMkb, .long ha])), (aMr, .inl (cI, 18, .inl ro)), (aMl, .inl (cI, 6, .inl (f_X5_asItIs_Ml nl ro lt)))] := by
  refine mX (cc := cX5_asItIs) (maxL := 2) (ret := none) (by decide) rfl (Nat.le_of_ble_eq_true rfl) ?_
  intro p e s m args below meth c Q A hx hb hr hml hown hts hlk hP hK hD hA hS hQ ls hl
  have hown : s.vm.findClass RX5 = some m.cls := hown
  have hl : lv_has ls 2 [(0, .ref aM)] := hl
  have w1 := hts (.fieldLink RX5 67 "DarkOfficeModel" "lamps" "I") (List.mem_of_getElem? (i := 1) rfl)
  have uX5 : ∀ w ∈ wsX50, w ∈ wsX5_asItIs := fun _ h => List.mem_cons_of_mem _ (List.mem_append_right _ h)
  have w2 := hts (.fieldLink RX5 19 "DarkOfficeModel" "lit" "[I") (List.mem_of_getElem? (i := 2) rfl)
  have w3 := hts (.fieldLink RX5 13 "DarkOfficeModel" "rows" "[I") (List.mem_of_getElem? (i := 3) rfl)
  refine lv_iconst (v := 0) hx hb dX5_asItIs_0 (by decide) ?_
  refine lv_istore_n (lv' := [(1, .int 0), (0, .ref aM)]) hx hb dX5_asItIs_1 rfl hl (by decide) rfl (fun ls hl => ?_)
  have lp2 : ∀ (k2 i1 : Nat), i1 + k2 = nl → ∀ (H : Heap) (locs : List Loc), va_P D vwCl [(aM, .inr (5, [.ref aMp, .int (nI pl), .int (nI nl), .int mi, .int ofr, .ref aMr, .int (nI pe), .ref aMs, .ref aMl, .int bc, .int rd, .ref aMg, .ref aMb, .int (nI bk), .ref aMo, .int sd, .int ko, .int kpe, .int kmi, .int kbk, .ref aMkr, .ref aMks, .ref aMkb, .long ha])), (aMr, .inl (cI, 18, .inl ro)), (aMl, .inl (cI, 6, .inl ((f_X5_asItIs_2_Ml ro lt i1))))] H → va_D A [(aM, .inr (5, [.ref aMp, .int (nI pl), .int (nI nl), .int mi, .int ofr, .ref aMr, .int (nI pe), .ref aMs, .ref aMl, .int bc, .int rd, .ref aMg, .ref aMb, .int (nI bk), .ref aMo, .int sd, .int ko, .int kpe, .int kmi, .int kbk, .ref aMkr, .ref aMks, .ref aMkb, .long ha])), (aMr, .inl (cI, 18, .inl ro)), (aMl, .inl (cI, 6, .inl ((f_X5_asItIs_2_Ml ro lt i1))))] → va_S A s.heap H locs → ∀ ls : Array Slot, lv_has ls 2 [(0, .ref aM), (1, .int (nI i1))] → W p l e rm_X5_asItIs s m args below meth c H locs 0 0 Q (F0 m 2 ls []) := by
    intro k2
    induction k2 with
    | zero =>
      intro i1 hk2 H locs hP hD hS ls hl
      have hN2 : nl = i1 := by omega
      subst hN2
      refine lv_iload_n hx hb dX5_asItIs_2 rfl (lv_at hl 1 rfl) ?_
      refine lv_aload_n hx hb dX5_asItIs_3 rfl (lv_at hl 0 rfl) ?_
      refine va_get (D := D) (ci := 5) (v := .int (nI nl)) (C := RX5) (T := TX5) (N := 24) hx hb hts uX5 hown hK hP 0 rfl rfl 2 (by decide) w1 (fun _ h9 => h9) rfl dX5_asItIs_4 ?_
      refine lv_icmp_ge (tgt := 32) hx hb dX5_asItIs_7 (by decide) (fun _ => ?_) (fun c => absurd (nle_t (a := nl) (b := nl) rfl rfl (by omega) (by omega) (by omega)) c)
      have e_Ml : (f_X5_asItIs_Ml nl ro lt) = (f_X5_asItIs_2_Ml ro lt nl) := (by simp only [f_X5_asItIs_Ml])
      exact eXv hx hb hr hlk hQ (by rw [e_Ml]; exact hP) (by rw [e_Ml]; exact hD) hS dX5_asItIs_32
    | succ k2 ih2 =>
      intro i1 hk2 H locs hP hD hS ls hl
      refine lv_iload_n hx hb dX5_asItIs_2 rfl (lv_at hl 1 rfl) ?_
      refine lv_aload_n hx hb dX5_asItIs_3 rfl (lv_at hl 0 rfl) ?_
      refine va_get (D := D) (ci := 5) (v := .int (nI nl)) (C := RX5) (T := TX5) (N := 24) hx hb hts uX5 hown hK hP 0 rfl rfl 2 (by decide) w1 (fun _ h9 => h9) rfl dX5_asItIs_4 ?_
      refine lv_icmp_ge (tgt := 32) hx hb dX5_asItIs_7 (by decide) (fun c => absurd c (nle_f (a := nl) (b := i1) rfl rfl (by omega) (by omega) (by omega))) (fun _ => ?_)
      refine lv_aload_n hx hb dX5_asItIs_10 rfl (lv_at hl 0 rfl) ?_
      refine va_get (D := D) (ci := 5) (v := .ref aMl) (C := RX5) (T := TX5) (N := 24) hx hb hts uX5 hown hK hP 0 rfl rfl 8 (by decide) w2 (fun _ h9 => h9) rfl dX5_asItIs_11 ?_
      refine lv_iload_n hx hb dX5_asItIs_14 rfl (lv_at hl 1 rfl) ?_
      refine lv_aload_n hx hb dX5_asItIs_15 rfl (lv_at hl 0 rfl) ?_
      refine va_get (D := D) (ci := 5) (v := .ref aMr) (C := RX5) (T := TX5) (N := 24) hx hb hts uX5 hown hK hP 0 rfl rfl 5 (by decide) w3 (fun _ h9 => h9) rfl dX5_asItIs_16 ?_
      refine lv_iconst (v := 3) hx hb dX5_asItIs_19 (by decide) ?_
      refine lv_iload_n hx hb dX5_asItIs_20 rfl (lv_at hl 1 rfl) ?_
      refine lv_imul hx hb dX5_asItIs_21 ?_
      refine lv_iconst (v := 2) hx hb dX5_asItIs_22 (by decide) ?_
      refine lv_iadd hx hb dX5_asItIs_23 ?_
      refine xald hx hb hK hP 1 rfl ((3 * i1) + 2) (ix_add (ix_mul rfl rfl) rfl) (by omega) (by decide) dX5_asItIs_24 ?_
      refine xast hx hb hK hP hD hS 2 rfl i1 rfl (by omega) (by decide) dX5_asItIs_25 (fun H locs hP hD hS => ?_)
      have hP : va_P D vwCl [(aM, .inr (5, [.ref aMp, .int (nI pl), .int (nI nl), .int mi, .int ofr, .ref aMr, .int (nI pe), .ref aMs, .ref aMl, .int bc, .int rd, .ref aMg, .ref aMb, .int (nI bk), .ref aMo, .int sd, .int ko, .int kpe, .int kmi, .int kbk, .ref aMkr, .ref aMks, .ref aMkb, .long ha])), (aMr, .inl (cI, 18, .inl ro)), (aMl, .inl (cI, 6, .inl (upd (f_X5_asItIs_2_Ml ro lt i1) i1 (ro ((3 * i1) + 2)))))] H := hP
      have hD : va_D A [(aM, .inr (5, [.ref aMp, .int (nI pl), .int (nI nl), .int mi, .int ofr, .ref aMr, .int (nI pe), .ref aMs, .ref aMl, .int bc, .int rd, .ref aMg, .ref aMb, .int (nI bk), .ref aMo, .int sd, .int ko, .int kpe, .int kmi, .int kbk, .ref aMkr, .ref aMks, .ref aMkb, .long ha])), (aMr, .inl (cI, 18, .inl ro)), (aMl, .inl (cI, 6, .inl (upd (f_X5_asItIs_2_Ml ro lt i1) i1 (ro ((3 * i1) + 2)))))] := hD
      refine lv_iinc (v := nI (i1 + 1)) (lv' := [(1, .int (nI (i1 + 1))), (0, .ref aM)]) hx hb dX5_asItIs_26 hl (k := 1) rfl (nI_add i1 1) (by decide) rfl (fun ls hl => ?_)
      refine lv_goto (tgt := 2) hx hb dX5_asItIs_29 (by decide) ?_
      have e_Ml : (f_X5_asItIs_2_Ml ro lt (i1 + 1)) = (upd (f_X5_asItIs_2_Ml ro lt i1) i1 (ro ((3 * i1) + 2))) := (by simp only [f_X5_asItIs_2_Ml])
      exact ih2 (i1 + 1) (by omega) _ _ (by rw [e_Ml]; exact hP) (by rw [e_Ml]; exact hD) hS ls (lv_sub hl [1, 0] rfl)
  exact lp2 nl 0 (by omega) _ _ hP hD hS ls (lv_sub hl [1, 0] rfl)

def rm_X5_goesBy : Room := { frames := 1, cells := 0, slots := 0, locals := 24 }
def f_X5_goesBy_2_Ml (nl : Nat) (ro : Nat → Int32) (lt : Nat → Int32) (sects : Int32) : Nat → (Nat → Int32)
  | 0 => lt
  | i1 + 1 => (if ((f_X5_seesOf nl ro i1) &&& sects) = 0 then (if ((f_X5_goesBy_2_Ml nl ro lt sects i1) i1) ≤ 0 then (upd (f_X5_goesBy_2_Ml nl ro lt sects i1) i1 0) else (upd (f_X5_goesBy_2_Ml nl ro lt sects i1) i1 (((f_X5_goesBy_2_Ml nl ro lt sects i1) i1) - 1))) else (upd (f_X5_goesBy_2_Ml nl ro lt sects i1) i1 (ro ((3 * i1) + 1))))
def f_X5_goesBy_Ml (nl : Nat) (ro : Nat → Int32) (lt : Nat → Int32) (sects : Int32) : Nat → Int32 := (f_X5_goesBy_2_Ml nl ro lt sects nl)
theorem hd_X5_goesBy : yX5_goesBy.cls = RX5 ∧ yX5_goesBy.cls ≠ "java/lang/invoke/MethodHandle" ∧ yX5_goesBy.cls ≠ "java/lang/invoke/VarHandle" ∧ (parseMethodDescriptor yX5_goesBy.desc).map (fun d => d.parameters.length) = some 1 := by decide +kernel
set_option maxHeartbeats 4000000 in
set_option maxRecDepth 100000 in
theorem c_X5_goesBy (l : Launch) (D : va_G) (cI : ClassId) (aM aMp aMr aMs aMl aMg aMb aMo aMkr aMks aMkb : Nat) (ofr : Int32) (rd : Int32) (pl : Nat) (nl : Nat) (mi : Int32) (pe : Nat) (kmi : Int32) (kpe : Int32) (bc : Int32) (bk : Nat) (sd : Int32) (ko : Int32) (kbk : Int32) (ha : Int64) (ro : Nat → Int32) (lt : Nat → Int32) (sects : Int32) (hn : nl ≤ 6) : MetX l yX5_goesBy wsX5_goesBy rm_X5_goesBy D cI [.ref aM, .int sects] [(aM, .inr (5, [.ref aMp, .int (nI pl), .int (nI nl), .int mi, .int ofr, .ref aMr, .int (nI pe), .ref aMs, .ref aMl, .int bc, .int rd, .ref aMg, .ref aMb, .int (nI bk), .ref aMo, .int sd, .int ko, .int kpe, .int kmi, .int kbk, .ref aMkr, .ref aMks, .ref aMkb, .long ha])), (aMr, .inl (cI, 18, .inl ro)), (aMl, .inl (cI, 6, .inl lt))] none [(aM, .inr (5, [.ref aMp, .int (nI pl), .int (nI nl), .int mi, .int ofr, .ref aMr, .int (nI pe), .ref aMs, .ref aMl, .int bc, .int rd, .ref aMg, .ref aMb, .int (nI bk), .ref aMo, .int sd, .int ko, .int kpe, .int kmi, .int kbk, .ref aMkr, .ref aMks, .ref aMkb, .long ha])), (aMr, .inl (cI, 18, .inl ro)), (aMl, .inl (cI, 6, .inl (f_X5_goesBy_Ml nl ro lt sects)))] := by
  refine mX (cc := cX5_goesBy) (maxL := 4) (ret := none) (by decide) rfl (Nat.le_of_ble_eq_true rfl) ?_
  intro p e s m args below meth c Q A hx hb hr hml hown hts hlk hP hK hD hA hS hQ ls hl
  have hown : s.vm.findClass RX5 = some m.cls := hown
  have hl : lv_has ls 4 [(0, .ref aM), (1, .int sects)] := hl
  have w1 := hts (.fieldLink RX5 67 "DarkOfficeModel" "lamps" "I") (List.mem_of_getElem? (i := 1) rfl)
  have uX5 : ∀ w ∈ wsX50, w ∈ wsX5_goesBy := fun _ h => List.mem_cons_of_mem _ (List.mem_append_right _ h)
  have w2 := hts (.fieldLink RX5 19 "DarkOfficeModel" "lit" "[I") (List.mem_of_getElem? (i := 2) rfl)
  have w3 := hts (.fieldLink RX5 13 "DarkOfficeModel" "rows" "[I") (List.mem_of_getElem? (i := 3) rfl)
  refine lv_iconst (v := 0) hx hb dX5_goesBy_0 (by decide) ?_
  refine lv_istore_n (lv' := [(2, .int 0), (0, .ref aM), (1, .int sects)]) hx hb dX5_goesBy_1 rfl hl (by decide) rfl (fun ls hl => ?_)
  have lp2 : ∀ (k2 i1 : Nat), i1 + k2 = nl → ∀ (H : Heap) (locs : List Loc), va_P D vwCl [(aM, .inr (5, [.ref aMp, .int (nI pl), .int (nI nl), .int mi, .int ofr, .ref aMr, .int (nI pe), .ref aMs, .ref aMl, .int bc, .int rd, .ref aMg, .ref aMb, .int (nI bk), .ref aMo, .int sd, .int ko, .int kpe, .int kmi, .int kbk, .ref aMkr, .ref aMks, .ref aMkb, .long ha])), (aMr, .inl (cI, 18, .inl ro)), (aMl, .inl (cI, 6, .inl ((f_X5_goesBy_2_Ml nl ro lt sects i1))))] H → va_D A [(aM, .inr (5, [.ref aMp, .int (nI pl), .int (nI nl), .int mi, .int ofr, .ref aMr, .int (nI pe), .ref aMs, .ref aMl, .int bc, .int rd, .ref aMg, .ref aMb, .int (nI bk), .ref aMo, .int sd, .int ko, .int kpe, .int kmi, .int kbk, .ref aMkr, .ref aMks, .ref aMkb, .long ha])), (aMr, .inl (cI, 18, .inl ro)), (aMl, .inl (cI, 6, .inl ((f_X5_goesBy_2_Ml nl ro lt sects i1))))] → va_S A s.heap H locs → ∀ ls : Array Slot, lv_has ls 4 [(0, .ref aM), (1, .int sects), (2, .int (nI i1))] → W p l e rm_X5_goesBy s m args below meth c H locs 0 0 Q (F0 m 2 ls []) := by
    intro k2
    induction k2 with
    | zero =>
      intro i1 hk2 H locs hP hD hS ls hl
      have hN2 : nl = i1 := by omega
      subst hN2
      refine lv_iload_n hx hb dX5_goesBy_2 rfl (lv_at hl 2 rfl) ?_
      refine lv_aload_n hx hb dX5_goesBy_3 rfl (lv_at hl 0 rfl) ?_
      refine va_get (D := D) (ci := 5) (v := .int (nI nl)) (C := RX5) (T := TX5) (N := 24) hx hb hts uX5 hown hK hP 0 rfl rfl 2 (by decide) w1 (fun _ h9 => h9) rfl dX5_goesBy_4 ?_
      refine lv_icmp_ge (tgt := 76) hx hb dX5_goesBy_7 (by decide) (fun _ => ?_) (fun c => absurd (nle_t (a := nl) (b := nl) rfl rfl (by omega) (by omega) (by omega)) c)
      have e_Ml : (f_X5_goesBy_Ml nl ro lt sects) = (f_X5_goesBy_2_Ml nl ro lt sects nl) := (by simp only [f_X5_goesBy_Ml])
      exact eXv hx hb hr hlk hQ (by rw [e_Ml]; exact hP) (by rw [e_Ml]; exact hD) hS dX5_goesBy_76
    | succ k2 ih2 =>
      intro i1 hk2 H locs hP hD hS ls hl
      refine lv_iload_n hx hb dX5_goesBy_2 rfl (lv_at hl 2 rfl) ?_
      refine lv_aload_n hx hb dX5_goesBy_3 rfl (lv_at hl 0 rfl) ?_
      refine va_get (D := D) (ci := 5) (v := .int (nI nl)) (C := RX5) (T := TX5) (N := 24) hx hb hts uX5 hown hK hP 0 rfl rfl 2 (by decide) w1 (fun _ h9 => h9) rfl dX5_goesBy_4 ?_
      refine lv_icmp_ge (tgt := 76) hx hb dX5_goesBy_7 (by decide) (fun c => absurd c (nle_f (a := nl) (b := i1) rfl rfl (by omega) (by omega) (by omega))) (fun _ => ?_)
      refine lv_aload_n hx hb dX5_goesBy_10 rfl (lv_at hl 0 rfl) ?_
      refine lv_iload_n hx hb dX5_goesBy_11 rfl (lv_at hl 2 rfl) ?_
      refine rV ⟨hx, hb, hml, hown, hts⟩ (c_X5_seesOf l D cI aM aMp aMr aMs aMl aMg aMb aMo aMkr aMks aMkb ofr rd pl nl mi pe kmi kpe bc bk sd ko kbk ha ro i1 hn (by omega)) (cwV 1 hts gX5_goesBy_X5_seesOf rfl rfl rfl hd_X5_seesOf ⟨Nat.le_of_ble_eq_true rfl, Nat.le_of_ble_eq_true rfl⟩) hK (hP.sub [0, 1] rfl) 0 rfl rfl rfl rfl hl.1 (rest := []) (st' := [.int (f_X5_seesOf nl ro i1)]) rfl rfl (Nat.le_of_ble_eq_true rfl) dX5_goesBy_12 ⟨Nat.zero_le _, Nat.zero_le _⟩ ?_
      refine lv_iload_n hx hb dX5_goesBy_15 rfl (lv_at hl 1 rfl) ?_
      refine lv_iand hx hb dX5_goesBy_16 ?_
      refine lv_if_eq (tgt := 24) hx hb dX5_goesBy_17 (by decide) (fun c1 => ?_) (fun c1 => ?_)
      · refine lv_iconst (v := 0) hx hb dX5_goesBy_24 (by decide) ?_
        refine lv_istore_n (lv' := [(3, .int 0), (0, .ref aM), (1, .int sects), (2, .int (nI i1))]) hx hb dX5_goesBy_25 rfl hl (by decide) rfl (fun ls hl => ?_)
        refine lv_aload_n hx hb dX5_goesBy_26 rfl (lv_at hl 1 rfl) ?_
        refine va_get (D := D) (ci := 5) (v := .ref aMl) (C := RX5) (T := TX5) (N := 24) hx hb hts uX5 hown hK hP 0 rfl rfl 8 (by decide) w2 (fun _ h9 => h9) rfl dX5_goesBy_27 ?_
        refine lv_iload_n hx hb dX5_goesBy_30 rfl (lv_at hl 3 rfl) ?_
        refine lv_iload_n hx hb dX5_goesBy_31 rfl (lv_at hl 0 rfl) ?_
        refine lv_if_eq (tgt := 48) hx hb dX5_goesBy_32 (by decide) (fun _ => ?_) (fun c => absurd (by decide) c)
        refine lv_aload_n hx hb dX5_goesBy_48 rfl (lv_at hl 1 rfl) ?_
        refine va_get (D := D) (ci := 5) (v := .ref aMl) (C := RX5) (T := TX5) (N := 24) hx hb hts uX5 hown hK hP 0 rfl rfl 8 (by decide) w2 (fun _ h9 => h9) rfl dX5_goesBy_49 ?_
        refine lv_iload_n hx hb dX5_goesBy_52 rfl (lv_at hl 3 rfl) ?_
        refine xald hx hb hK hP 2 rfl i1 rfl (by omega) (by decide) dX5_goesBy_53 ?_
        refine lv_if_le (tgt := 68) hx hb dX5_goesBy_54 (by decide) (fun c2 => ?_) (fun c2 => ?_)
        · refine lv_iconst (v := 0) hx hb dX5_goesBy_68 (by decide) ?_
          refine xast hx hb hK hP hD hS 2 rfl i1 rfl (by omega) (by decide) dX5_goesBy_69 (fun H locs hP hD hS => ?_)
          have hP : va_P D vwCl [(aM, .inr (5, [.ref aMp, .int (nI pl), .int (nI nl), .int mi, .int ofr, .ref aMr, .int (nI pe), .ref aMs, .ref aMl, .int bc, .int rd, .ref aMg, .ref aMb, .int (nI bk), .ref aMo, .int sd, .int ko, .int kpe, .int kmi, .int kbk, .ref aMkr, .ref aMks, .ref aMkb, .long ha])), (aMr, .inl (cI, 18, .inl ro)), (aMl, .inl (cI, 6, .inl (upd (f_X5_goesBy_2_Ml nl ro lt sects i1) i1 0)))] H := hP
          have hD : va_D A [(aM, .inr (5, [.ref aMp, .int (nI pl), .int (nI nl), .int mi, .int ofr, .ref aMr, .int (nI pe), .ref aMs, .ref aMl, .int bc, .int rd, .ref aMg, .ref aMb, .int (nI bk), .ref aMo, .int sd, .int ko, .int kpe, .int kmi, .int kbk, .ref aMkr, .ref aMks, .ref aMkb, .long ha])), (aMr, .inl (cI, 18, .inl ro)), (aMl, .inl (cI, 6, .inl (upd (f_X5_goesBy_2_Ml nl ro lt sects i1) i1 0)))] := hD
          refine lv_iinc (v := nI (i1 + 1)) (lv' := [(2, .int (nI (i1 + 1))), (3, .int 0), (0, .ref aM), (1, .int sects)]) hx hb dX5_goesBy_70 hl (k := 3) rfl (nI_add i1 1) (by decide) rfl (fun ls hl => ?_)
          refine lv_goto (tgt := 2) hx hb dX5_goesBy_73 (by decide) ?_
          have e_Ml : (f_X5_goesBy_2_Ml nl ro lt sects (i1 + 1)) = (upd (f_X5_goesBy_2_Ml nl ro lt sects i1) i1 0) := (by simp only [f_X5_goesBy_2_Ml, if_pos c1, if_pos c2])
          exact ih2 (i1 + 1) (by omega) _ _ (by rw [e_Ml]; exact hP) (by rw [e_Ml]; exact hD) hS ls (lv_sub hl [2, 3, 0] rfl)
        · refine lv_aload_n hx hb dX5_goesBy_57 rfl (lv_at hl 1 rfl) ?_
          refine va_get (D := D) (ci := 5) (v := .ref aMl) (C := RX5) (T := TX5) (N := 24) hx hb hts uX5 hown hK hP 0 rfl rfl 8 (by decide) w2 (fun _ h9 => h9) rfl dX5_goesBy_58 ?_
          refine lv_iload_n hx hb dX5_goesBy_61 rfl (lv_at hl 3 rfl) ?_
          refine xald hx hb hK hP 2 rfl i1 rfl (by omega) (by decide) dX5_goesBy_62 ?_
          refine lv_iconst (v := 1) hx hb dX5_goesBy_63 (by decide) ?_
          refine lv_isub hx hb dX5_goesBy_64 ?_
          refine lv_goto (tgt := 69) hx hb dX5_goesBy_65 (by decide) ?_
          refine xast hx hb hK hP hD hS 2 rfl i1 rfl (by omega) (by decide) dX5_goesBy_69 (fun H locs hP hD hS => ?_)
          have hP : va_P D vwCl [(aM, .inr (5, [.ref aMp, .int (nI pl), .int (nI nl), .int mi, .int ofr, .ref aMr, .int (nI pe), .ref aMs, .ref aMl, .int bc, .int rd, .ref aMg, .ref aMb, .int (nI bk), .ref aMo, .int sd, .int ko, .int kpe, .int kmi, .int kbk, .ref aMkr, .ref aMks, .ref aMkb, .long ha])), (aMr, .inl (cI, 18, .inl ro)), (aMl, .inl (cI, 6, .inl (upd (f_X5_goesBy_2_Ml nl ro lt sects i1) i1 (((f_X5_goesBy_2_Ml nl ro lt sects i1) i1) - 1))))] H := hP
          have hD : va_D A [(aM, .inr (5, [.ref aMp, .int (nI pl), .int (nI nl), .int mi, .int ofr, .ref aMr, .int (nI pe), .ref aMs, .ref aMl, .int bc, .int rd, .ref aMg, .ref aMb, .int (nI bk), .ref aMo, .int sd, .int ko, .int kpe, .int kmi, .int kbk, .ref aMkr, .ref aMks, .ref aMkb, .long ha])), (aMr, .inl (cI, 18, .inl ro)), (aMl, .inl (cI, 6, .inl (upd (f_X5_goesBy_2_Ml nl ro lt sects i1) i1 (((f_X5_goesBy_2_Ml nl ro lt sects i1) i1) - 1))))] := hD
          refine lv_iinc (v := nI (i1 + 1)) (lv' := [(2, .int (nI (i1 + 1))), (3, .int 0), (0, .ref aM), (1, .int sects)]) hx hb dX5_goesBy_70 hl (k := 3) rfl (nI_add i1 1) (by decide) rfl (fun ls hl => ?_)
          refine lv_goto (tgt := 2) hx hb dX5_goesBy_73 (by decide) ?_
          have e_Ml : (f_X5_goesBy_2_Ml nl ro lt sects (i1 + 1)) = (upd (f_X5_goesBy_2_Ml nl ro lt sects i1) i1 (((f_X5_goesBy_2_Ml nl ro lt sects i1) i1) - 1)) := (by simp only [f_X5_goesBy_2_Ml, if_pos c1, if_neg c2])
          exact ih2 (i1 + 1) (by omega) _ _ (by rw [e_Ml]; exact hP) (by rw [e_Ml]; exact hD) hS ls (lv_sub hl [2, 3, 0] rfl)
      · refine lv_iconst (v := 1) hx hb dX5_goesBy_20 (by decide) ?_
        refine lv_goto (tgt := 25) hx hb dX5_goesBy_21 (by decide) ?_
        refine lv_istore_n (lv' := [(3, .int 1), (0, .ref aM), (1, .int sects), (2, .int (nI i1))]) hx hb dX5_goesBy_25 rfl hl (by decide) rfl (fun ls hl => ?_)
        refine lv_aload_n hx hb dX5_goesBy_26 rfl (lv_at hl 1 rfl) ?_
        refine va_get (D := D) (ci := 5) (v := .ref aMl) (C := RX5) (T := TX5) (N := 24) hx hb hts uX5 hown hK hP 0 rfl rfl 8 (by decide) w2 (fun _ h9 => h9) rfl dX5_goesBy_27 ?_
        refine lv_iload_n hx hb dX5_goesBy_30 rfl (lv_at hl 3 rfl) ?_
        refine lv_iload_n hx hb dX5_goesBy_31 rfl (lv_at hl 0 rfl) ?_
        refine lv_if_eq (tgt := 48) hx hb dX5_goesBy_32 (by decide) (fun c => absurd c (by decide)) (fun _ => ?_)
        refine lv_aload_n hx hb dX5_goesBy_35 rfl (lv_at hl 1 rfl) ?_
        refine va_get (D := D) (ci := 5) (v := .ref aMr) (C := RX5) (T := TX5) (N := 24) hx hb hts uX5 hown hK hP 0 rfl rfl 5 (by decide) w3 (fun _ h9 => h9) rfl dX5_goesBy_36 ?_
        refine lv_iconst (v := 3) hx hb dX5_goesBy_39 (by decide) ?_
        refine lv_iload_n hx hb dX5_goesBy_40 rfl (lv_at hl 3 rfl) ?_
        refine lv_imul hx hb dX5_goesBy_41 ?_
        refine lv_iconst (v := 1) hx hb dX5_goesBy_42 (by decide) ?_
        refine lv_iadd hx hb dX5_goesBy_43 ?_
        refine xald hx hb hK hP 1 rfl ((3 * i1) + 1) (ix_add (ix_mul rfl rfl) rfl) (by omega) (by decide) dX5_goesBy_44 ?_
        refine lv_goto (tgt := 69) hx hb dX5_goesBy_45 (by decide) ?_
        refine xast hx hb hK hP hD hS 2 rfl i1 rfl (by omega) (by decide) dX5_goesBy_69 (fun H locs hP hD hS => ?_)
        have hP : va_P D vwCl [(aM, .inr (5, [.ref aMp, .int (nI pl), .int (nI nl), .int mi, .int ofr, .ref aMr, .int (nI pe), .ref aMs, .ref aMl, .int bc, .int rd, .ref aMg, .ref aMb, .int (nI bk), .ref aMo, .int sd, .int ko, .int kpe, .int kmi, .int kbk, .ref aMkr, .ref aMks, .ref aMkb, .long ha])), (aMr, .inl (cI, 18, .inl ro)), (aMl, .inl (cI, 6, .inl (upd (f_X5_goesBy_2_Ml nl ro lt sects i1) i1 (ro ((3 * i1) + 1)))))] H := hP
        have hD : va_D A [(aM, .inr (5, [.ref aMp, .int (nI pl), .int (nI nl), .int mi, .int ofr, .ref aMr, .int (nI pe), .ref aMs, .ref aMl, .int bc, .int rd, .ref aMg, .ref aMb, .int (nI bk), .ref aMo, .int sd, .int ko, .int kpe, .int kmi, .int kbk, .ref aMkr, .ref aMks, .ref aMkb, .long ha])), (aMr, .inl (cI, 18, .inl ro)), (aMl, .inl (cI, 6, .inl (upd (f_X5_goesBy_2_Ml nl ro lt sects i1) i1 (ro ((3 * i1) + 1)))))] := hD
        refine lv_iinc (v := nI (i1 + 1)) (lv' := [(2, .int (nI (i1 + 1))), (3, .int 1), (0, .ref aM), (1, .int sects)]) hx hb dX5_goesBy_70 hl (k := 3) rfl (nI_add i1 1) (by decide) rfl (fun ls hl => ?_)
        refine lv_goto (tgt := 2) hx hb dX5_goesBy_73 (by decide) ?_
        have e_Ml : (f_X5_goesBy_2_Ml nl ro lt sects (i1 + 1)) = (upd (f_X5_goesBy_2_Ml nl ro lt sects i1) i1 (ro ((3 * i1) + 1))) := (by simp only [f_X5_goesBy_2_Ml, if_neg c1])
        exact ih2 (i1 + 1) (by omega) _ _ (by rw [e_Ml]; exact hP) (by rw [e_Ml]; exact hD) hS ls (lv_sub hl [2, 3, 0] rfl)
  exact lp2 nl 0 (by omega) _ _ hP hD hS ls (lv_sub hl [1, 2, 0] rfl)

def rm_X5_sectionsOf : Room := { frames := 0, cells := 0, slots := 0, locals := 0 }
def f_X5_sectionsOf_4_v2 (ss : Nat → Int32) (who : Int32) : Nat → Int32
  | 0 => 0
  | i1 + 1 => (if ((who >>> (nI i1 &&& 31)) &&& 1) = 1 then ((f_X5_sectionsOf_4_v2 ss who i1) ||| ((1 : Int32) <<< ((ss (3 * i1)) &&& 31))) else ((f_X5_sectionsOf_4_v2 ss who i1) ||| 0))
def f_X5_sectionsOf (pe : Nat) (ss : Nat → Int32) (who : Int32) : Int32 := (f_X5_sectionsOf_4_v2 ss who pe)
theorem hd_X5_sectionsOf : yX5_sectionsOf.cls = RX5 ∧ yX5_sectionsOf.cls ≠ "java/lang/invoke/MethodHandle" ∧ yX5_sectionsOf.cls ≠ "java/lang/invoke/VarHandle" ∧ (parseMethodDescriptor yX5_sectionsOf.desc).map (fun d => d.parameters.length) = some 1 := by decide +kernel
set_option maxHeartbeats 4000000 in
set_option maxRecDepth 100000 in
theorem c_X5_sectionsOf (l : Launch) (D : va_G) (cI : ClassId) (aM aMp aMr aMs aMl aMg aMb aMo aMkr aMks aMkb : Nat) (ofr : Int32) (rd : Int32) (pl : Nat) (nl : Nat) (mi : Int32) (pe : Nat) (kmi : Int32) (kpe : Int32) (bc : Int32) (bk : Nat) (sd : Int32) (ko : Int32) (kbk : Int32) (ha : Int64) (ss : Nat → Int32) (who : Int32) (hpe : pe ≤ 4) : MetR l yX5_sectionsOf wsX5_sectionsOf rm_X5_sectionsOf D cI [.ref aM, .int who] [(aM, .inr (5, [.ref aMp, .int (nI pl), .int (nI nl), .int mi, .int ofr, .ref aMr, .int (nI pe), .ref aMs, .ref aMl, .int bc, .int rd, .ref aMg, .ref aMb, .int (nI bk), .ref aMo, .int sd, .int ko, .int kpe, .int kmi, .int kbk, .ref aMkr, .ref aMks, .ref aMkb, .long ha])), (aMs, .inl (cI, 12, .inl ss))] (some (.int (f_X5_sectionsOf pe ss who))) := by
  refine mR (cc := cX5_sectionsOf) (maxL := 4) (ret := (some .int)) (by decide) rfl (Nat.le_of_ble_eq_true rfl) ?_
  intro p e s m args below meth c Q hx hb hr hml hown hts hlk hP hK hQ ls hl
  have hown : s.vm.findClass RX5 = some m.cls := hown
  have hl : lv_has ls 4 [(0, .ref aM), (1, .int who)] := hl
  have w1 := hts (.fieldLink RX5 73 "DarkOfficeModel" "people" "I") (List.mem_of_getElem? (i := 1) rfl)
  have uX5 : ∀ w ∈ wsX50, w ∈ wsX5_sectionsOf := fun _ h => List.mem_cons_of_mem _ (List.mem_append_right _ h)
  have w2 := hts (.fieldLink RX5 16 "DarkOfficeModel" "seats" "[I") (List.mem_of_getElem? (i := 2) rfl)
  refine lv_iconst (v := 0) hx hb dX5_sectionsOf_0 (by decide) ?_
  refine lv_istore_n (lv' := [(2, .int 0), (0, .ref aM), (1, .int who)]) hx hb dX5_sectionsOf_1 rfl hl (by decide) rfl (fun ls hl => ?_)
  refine lv_iconst (v := 0) hx hb dX5_sectionsOf_2 (by decide) ?_
  refine lv_istore_n (lv' := [(3, .int 0), (2, .int 0), (0, .ref aM), (1, .int who)]) hx hb dX5_sectionsOf_3 rfl hl (by decide) rfl (fun ls hl => ?_)
  have lp4 : ∀ (k4 i1 : Nat), i1 + k4 = pe → ∀ ls : Array Slot, lv_has ls 4 [(0, .ref aM), (1, .int who), (2, .int ((f_X5_sectionsOf_4_v2 ss who i1))), (3, .int (nI i1))] → W p l e rm_X5_sectionsOf s m args below meth c s.heap [] 0 0 Q (F0 m 4 ls []) := by
    intro k4
    induction k4 with
    | zero =>
      intro i1 hk4 ls hl
      have hN4 : pe = i1 := by omega
      subst hN4
      refine lv_iload_n hx hb dX5_sectionsOf_4 rfl (lv_at hl 3 rfl) ?_
      refine lv_aload_n hx hb dX5_sectionsOf_5 rfl (lv_at hl 0 rfl) ?_
      refine va_get (D := D) (ci := 5) (v := .int (nI pe)) (C := RX5) (T := TX5) (N := 24) hx hb hts uX5 hown hK hP 0 rfl rfl 6 (by decide) w1 (fun _ h9 => h9) rfl dX5_sectionsOf_6 ?_
      refine lv_icmp_ge (tgt := 44) hx hb dX5_sectionsOf_9 (by decide) (fun _ => ?_) (fun c => absurd (nle_t (a := pe) (b := pe) rfl rfl (by omega) (by omega) (by omega)) c)
      refine lv_iload_n hx hb dX5_sectionsOf_44 rfl (lv_at hl 2 rfl) ?_
      exact eRi hx hb hr hlk hQ dX5_sectionsOf_45 (Eq.symm (by simp only [f_X5_sectionsOf]))
    | succ k4 ih4 =>
      intro i1 hk4 ls hl
      refine lv_iload_n hx hb dX5_sectionsOf_4 rfl (lv_at hl 3 rfl) ?_
      refine lv_aload_n hx hb dX5_sectionsOf_5 rfl (lv_at hl 0 rfl) ?_
      refine va_get (D := D) (ci := 5) (v := .int (nI pe)) (C := RX5) (T := TX5) (N := 24) hx hb hts uX5 hown hK hP 0 rfl rfl 6 (by decide) w1 (fun _ h9 => h9) rfl dX5_sectionsOf_6 ?_
      refine lv_icmp_ge (tgt := 44) hx hb dX5_sectionsOf_9 (by decide) (fun c => absurd c (nle_f (a := pe) (b := i1) rfl rfl (by omega) (by omega) (by omega))) (fun _ => ?_)
      refine lv_iload_n hx hb dX5_sectionsOf_12 rfl (lv_at hl 2 rfl) ?_
      refine lv_iload_n hx hb dX5_sectionsOf_13 rfl (lv_at hl 1 rfl) ?_
      refine lv_iload_n hx hb dX5_sectionsOf_14 rfl (lv_at hl 3 rfl) ?_
      refine lv_ishr hx hb dX5_sectionsOf_15 ?_
      refine lv_iconst (v := 1) hx hb dX5_sectionsOf_16 (by decide) ?_
      refine lv_iand hx hb dX5_sectionsOf_17 ?_
      refine lv_iconst (v := 1) hx hb dX5_sectionsOf_18 (by decide) ?_
      refine lv_icmp_ne (tgt := 35) hx hb dX5_sectionsOf_19 (by decide) (fun c1 => ?_) (fun c1 => ?_)
      · refine lv_iconst (v := 0) hx hb dX5_sectionsOf_35 (by decide) ?_
        refine lv_ior hx hb dX5_sectionsOf_36 ?_
        refine lv_istore_n (lv' := [(2, .int ((f_X5_sectionsOf_4_v2 ss who i1) ||| 0)), (0, .ref aM), (1, .int who), (3, .int (nI i1))]) hx hb dX5_sectionsOf_37 rfl hl (by decide) rfl (fun ls hl => ?_)
        refine lv_iinc (v := nI (i1 + 1)) (lv' := [(3, .int (nI (i1 + 1))), (2, .int ((f_X5_sectionsOf_4_v2 ss who i1) ||| 0)), (0, .ref aM), (1, .int who)]) hx hb dX5_sectionsOf_38 hl (k := 3) rfl (nI_add i1 1) (by decide) rfl (fun ls hl => ?_)
        refine lv_goto (tgt := 4) hx hb dX5_sectionsOf_41 (by decide) ?_
        have e_v2 : (f_X5_sectionsOf_4_v2 ss who (i1 + 1)) = ((f_X5_sectionsOf_4_v2 ss who i1) ||| 0) := (by simp only [f_X5_sectionsOf_4_v2, if_neg c1])
        exact ih4 (i1 + 1) (by omega) ls (by rw [e_v2]; exact lv_sub hl [2, 3, 1, 0] rfl)
      · refine lv_iconst (v := 1) hx hb dX5_sectionsOf_22 (by decide) ?_
        refine lv_aload_n hx hb dX5_sectionsOf_23 rfl (lv_at hl 0 rfl) ?_
        refine va_get (D := D) (ci := 5) (v := .ref aMs) (C := RX5) (T := TX5) (N := 24) hx hb hts uX5 hown hK hP 0 rfl rfl 7 (by decide) w2 (fun _ h9 => h9) rfl dX5_sectionsOf_24 ?_
        refine lv_iconst (v := 3) hx hb dX5_sectionsOf_27 (by decide) ?_
        refine lv_iload_n hx hb dX5_sectionsOf_28 rfl (lv_at hl 3 rfl) ?_
        refine lv_imul hx hb dX5_sectionsOf_29 ?_
        refine xald hx hb hK hP 1 rfl (3 * i1) (ix_mul rfl rfl) (by omega) (by decide) dX5_sectionsOf_30 ?_
        refine lv_ishl hx hb dX5_sectionsOf_31 ?_
        refine lv_goto (tgt := 36) hx hb dX5_sectionsOf_32 (by decide) ?_
        refine lv_ior hx hb dX5_sectionsOf_36 ?_
        refine lv_istore_n (lv' := [(2, .int ((f_X5_sectionsOf_4_v2 ss who i1) ||| ((1 : Int32) <<< ((ss (3 * i1)) &&& 31)))), (0, .ref aM), (1, .int who), (3, .int (nI i1))]) hx hb dX5_sectionsOf_37 rfl hl (by decide) rfl (fun ls hl => ?_)
        refine lv_iinc (v := nI (i1 + 1)) (lv' := [(3, .int (nI (i1 + 1))), (2, .int ((f_X5_sectionsOf_4_v2 ss who i1) ||| ((1 : Int32) <<< ((ss (3 * i1)) &&& 31)))), (0, .ref aM), (1, .int who)]) hx hb dX5_sectionsOf_38 hl (k := 3) rfl (nI_add i1 1) (by decide) rfl (fun ls hl => ?_)
        refine lv_goto (tgt := 4) hx hb dX5_sectionsOf_41 (by decide) ?_
        have e_v2 : (f_X5_sectionsOf_4_v2 ss who (i1 + 1)) = ((f_X5_sectionsOf_4_v2 ss who i1) ||| ((1 : Int32) <<< ((ss (3 * i1)) &&& 31))) := (by simp only [f_X5_sectionsOf_4_v2, if_pos c1])
        exact ih4 (i1 + 1) (by omega) ls (by rw [e_v2]; exact lv_sub hl [2, 3, 1, 0] rfl)
  exact lp4 pe 0 (by omega) ls (lv_sub hl [2, 3, 1, 0] rfl)

def rm_X5_darkNow : Room := { frames := 0, cells := 0, slots := 0, locals := 0 }
def f_X5_darkNow_4_v1 (ss : Nat → Int32) (lt : Nat → Int32) : Nat → Int32
  | 0 => 0
  | i1 + 1 => (if (lt (ss (3 * i1)).toNatClampNeg) = 0 then ((f_X5_darkNow_4_v1 ss lt i1) + 1) else ((f_X5_darkNow_4_v1 ss lt i1) + 0))
def f_X5_darkNow (pe : Nat) (ss : Nat → Int32) (lt : Nat → Int32) : Int32 := (f_X5_darkNow_4_v1 ss lt pe)
theorem hd_X5_darkNow : yX5_darkNow.cls = RX5 ∧ yX5_darkNow.cls ≠ "java/lang/invoke/MethodHandle" ∧ yX5_darkNow.cls ≠ "java/lang/invoke/VarHandle" ∧ (parseMethodDescriptor yX5_darkNow.desc).map (fun d => d.parameters.length) = some 0 := by decide +kernel
set_option maxHeartbeats 4000000 in
set_option maxRecDepth 100000 in
theorem c_X5_darkNow (l : Launch) (D : va_G) (cI : ClassId) (aM aMp aMr aMs aMl aMg aMb aMo aMkr aMks aMkb : Nat) (ofr : Int32) (rd : Int32) (pl : Nat) (nl : Nat) (mi : Int32) (pe : Nat) (kmi : Int32) (kpe : Int32) (bc : Int32) (bk : Nat) (sd : Int32) (ko : Int32) (kbk : Int32) (ha : Int64) (ss : Nat → Int32) (lt : Nat → Int32) (hpe : pe ≤ 4) (hss : ∀ j, j < pe → vp_in (ss (3 * j)) 6) : MetR l yX5_darkNow wsX5_darkNow rm_X5_darkNow D cI [.ref aM] [(aM, .inr (5, [.ref aMp, .int (nI pl), .int (nI nl), .int mi, .int ofr, .ref aMr, .int (nI pe), .ref aMs, .ref aMl, .int bc, .int rd, .ref aMg, .ref aMb, .int (nI bk), .ref aMo, .int sd, .int ko, .int kpe, .int kmi, .int kbk, .ref aMkr, .ref aMks, .ref aMkb, .long ha])), (aMs, .inl (cI, 12, .inl ss)), (aMl, .inl (cI, 6, .inl lt))] (some (.int (f_X5_darkNow pe ss lt))) := by
  refine mR (cc := cX5_darkNow) (maxL := 3) (ret := (some .int)) (by decide) rfl (Nat.le_of_ble_eq_true rfl) ?_
  intro p e s m args below meth c Q hx hb hr hml hown hts hlk hP hK hQ ls hl
  have hown : s.vm.findClass RX5 = some m.cls := hown
  have hl : lv_has ls 3 [(0, .ref aM)] := hl
  have w1 := hts (.fieldLink RX5 73 "DarkOfficeModel" "people" "I") (List.mem_of_getElem? (i := 1) rfl)
  have uX5 : ∀ w ∈ wsX50, w ∈ wsX5_darkNow := fun _ h => List.mem_cons_of_mem _ (List.mem_append_right _ h)
  have w2 := hts (.fieldLink RX5 19 "DarkOfficeModel" "lit" "[I") (List.mem_of_getElem? (i := 2) rfl)
  have w3 := hts (.fieldLink RX5 16 "DarkOfficeModel" "seats" "[I") (List.mem_of_getElem? (i := 3) rfl)
  refine lv_iconst (v := 0) hx hb dX5_darkNow_0 (by decide) ?_
  refine lv_istore_n (lv' := [(1, .int 0), (0, .ref aM)]) hx hb dX5_darkNow_1 rfl hl (by decide) rfl (fun ls hl => ?_)
  refine lv_iconst (v := 0) hx hb dX5_darkNow_2 (by decide) ?_
  refine lv_istore_n (lv' := [(2, .int 0), (1, .int 0), (0, .ref aM)]) hx hb dX5_darkNow_3 rfl hl (by decide) rfl (fun ls hl => ?_)
  have lp4 : ∀ (k4 i1 : Nat), i1 + k4 = pe → ∀ ls : Array Slot, lv_has ls 3 [(0, .ref aM), (1, .int ((f_X5_darkNow_4_v1 ss lt i1))), (2, .int (nI i1))] → W p l e rm_X5_darkNow s m args below meth c s.heap [] 0 0 Q (F0 m 4 ls []) := by
    intro k4
    induction k4 with
    | zero =>
      intro i1 hk4 ls hl
      have hN4 : pe = i1 := by omega
      subst hN4
      refine lv_iload_n hx hb dX5_darkNow_4 rfl (lv_at hl 2 rfl) ?_
      refine lv_aload_n hx hb dX5_darkNow_5 rfl (lv_at hl 0 rfl) ?_
      refine va_get (D := D) (ci := 5) (v := .int (nI pe)) (C := RX5) (T := TX5) (N := 24) hx hb hts uX5 hown hK hP 0 rfl rfl 6 (by decide) w1 (fun _ h9 => h9) rfl dX5_darkNow_6 ?_
      refine lv_icmp_ge (tgt := 42) hx hb dX5_darkNow_9 (by decide) (fun _ => ?_) (fun c => absurd (nle_t (a := pe) (b := pe) rfl rfl (by omega) (by omega) (by omega)) c)
      refine lv_iload_n hx hb dX5_darkNow_42 rfl (lv_at hl 1 rfl) ?_
      exact eRi hx hb hr hlk hQ dX5_darkNow_43 (Eq.symm (by simp only [f_X5_darkNow]))
    | succ k4 ih4 =>
      intro i1 hk4 ls hl
      refine lv_iload_n hx hb dX5_darkNow_4 rfl (lv_at hl 2 rfl) ?_
      refine lv_aload_n hx hb dX5_darkNow_5 rfl (lv_at hl 0 rfl) ?_
      refine va_get (D := D) (ci := 5) (v := .int (nI pe)) (C := RX5) (T := TX5) (N := 24) hx hb hts uX5 hown hK hP 0 rfl rfl 6 (by decide) w1 (fun _ h9 => h9) rfl dX5_darkNow_6 ?_
      refine lv_icmp_ge (tgt := 42) hx hb dX5_darkNow_9 (by decide) (fun c => absurd c (nle_f (a := pe) (b := i1) rfl rfl (by omega) (by omega) (by omega))) (fun _ => ?_)
      refine lv_iload_n hx hb dX5_darkNow_12 rfl (lv_at hl 1 rfl) ?_
      refine lv_aload_n hx hb dX5_darkNow_13 rfl (lv_at hl 0 rfl) ?_
      refine va_get (D := D) (ci := 5) (v := .ref aMl) (C := RX5) (T := TX5) (N := 24) hx hb hts uX5 hown hK hP 0 rfl rfl 8 (by decide) w2 (fun _ h9 => h9) rfl dX5_darkNow_14 ?_
      refine lv_aload_n hx hb dX5_darkNow_17 rfl (lv_at hl 0 rfl) ?_
      refine va_get (D := D) (ci := 5) (v := .ref aMs) (C := RX5) (T := TX5) (N := 24) hx hb hts uX5 hown hK hP 0 rfl rfl 7 (by decide) w3 (fun _ h9 => h9) rfl dX5_darkNow_18 ?_
      refine lv_iconst (v := 3) hx hb dX5_darkNow_21 (by decide) ?_
      refine lv_iload_n hx hb dX5_darkNow_22 rfl (lv_at hl 2 rfl) ?_
      refine lv_imul hx hb dX5_darkNow_23 ?_
      refine xald hx hb hK hP 1 rfl (3 * i1) (ix_mul rfl rfl) (by omega) (by decide) dX5_darkNow_24 ?_
      refine va_iald hx hb hK hP 2 0 rfl rfl (hss i1 (by omega)) dX5_darkNow_25 ?_
      refine lv_if_ne (tgt := 33) hx hb dX5_darkNow_26 (by decide) (fun c1 => ?_) (fun c1 => ?_)
      · refine lv_iconst (v := 0) hx hb dX5_darkNow_33 (by decide) ?_
        refine lv_iadd hx hb dX5_darkNow_34 ?_
        refine lv_istore_n (lv' := [(1, .int ((f_X5_darkNow_4_v1 ss lt i1) + 0)), (0, .ref aM), (2, .int (nI i1))]) hx hb dX5_darkNow_35 rfl hl (by decide) rfl (fun ls hl => ?_)
        refine lv_iinc (v := nI (i1 + 1)) (lv' := [(2, .int (nI (i1 + 1))), (1, .int ((f_X5_darkNow_4_v1 ss lt i1) + 0)), (0, .ref aM)]) hx hb dX5_darkNow_36 hl (k := 2) rfl (nI_add i1 1) (by decide) rfl (fun ls hl => ?_)
        refine lv_goto (tgt := 4) hx hb dX5_darkNow_39 (by decide) ?_
        have e_v1 : (f_X5_darkNow_4_v1 ss lt (i1 + 1)) = ((f_X5_darkNow_4_v1 ss lt i1) + 0) := (by simp only [f_X5_darkNow_4_v1, if_neg c1])
        exact ih4 (i1 + 1) (by omega) ls (by rw [e_v1]; exact lv_sub hl [2, 1, 0] rfl)
      · refine lv_iconst (v := 1) hx hb dX5_darkNow_29 (by decide) ?_
        refine lv_goto (tgt := 34) hx hb dX5_darkNow_30 (by decide) ?_
        refine lv_iadd hx hb dX5_darkNow_34 ?_
        refine lv_istore_n (lv' := [(1, .int ((f_X5_darkNow_4_v1 ss lt i1) + 1)), (0, .ref aM), (2, .int (nI i1))]) hx hb dX5_darkNow_35 rfl hl (by decide) rfl (fun ls hl => ?_)
        refine lv_iinc (v := nI (i1 + 1)) (lv' := [(2, .int (nI (i1 + 1))), (1, .int ((f_X5_darkNow_4_v1 ss lt i1) + 1)), (0, .ref aM)]) hx hb dX5_darkNow_36 hl (k := 2) rfl (nI_add i1 1) (by decide) rfl (fun ls hl => ?_)
        refine lv_goto (tgt := 4) hx hb dX5_darkNow_39 (by decide) ?_
        have e_v1 : (f_X5_darkNow_4_v1 ss lt (i1 + 1)) = ((f_X5_darkNow_4_v1 ss lt i1) + 1) := (by simp only [f_X5_darkNow_4_v1, if_pos c1])
        exact ih4 (i1 + 1) (by omega) ls (by rw [e_v1]; exact lv_sub hl [2, 1, 0] rfl)
  exact lp4 pe 0 (by omega) ls (lv_sub hl [2, 1, 0] rfl)
