theorem dI_pos {i : Nat} (h : ¬ dI i < 0) : 0 < i := by
  cases i with
  | zero => exact absurd (by decide) h
  | succ i => exact Nat.succ_pos i
theorem dI_eq {i : Nat} (h : ¬ dI i < 0) : dI i = nI (i - 1) := by
  cases i with
  | zero => exact absurd (by decide) h
  | succ i => rfl
theorem dI_pred {i : Nat} (h : ¬ dI i < 0) : dI i + Int32.ofInt (-1) = dI (i - 1) := by
  cases i with
  | zero => exact absurd (by decide) h
  | succ i => exact dI_dec i
theorem top_dI : ∀ k, k ≤ 6 → ((1 : Int32) <<< (nI k &&& 31)) - 1 = dI (2 ^ k) := by decide +kernel
theorem many2 : ∀ k, k ≤ 7 → 1 ≤ k → nI k - 2 = dI (k - 1) := by decide +kernel
theorem pw_le {pe k : Nat} (hpe : pe ≤ 4) (hk : k ≤ 3) : (2 ^ pe) ^ k ≤ 4096 :=
  Nat.le_trans (Nat.pow_le_pow_left (Nat.pow_le_pow_right (by decide) hpe) k) (Nat.le_trans (Nat.pow_le_pow_right (by decide) hk) (by decide))
theorem pw_se {pe : Nat} (hpe : pe ≤ 4) : 2 ^ pe ≤ 16 := Nat.le_trans (Nat.pow_le_pow_right (by decide) hpe) (by decide)
theorem pw_div {pe mm i : Nat} (hpe : pe ≤ 4) (hm : mm ≤ 3) (hi : i < mm) : nI ((2 ^ pe) ^ (mm - i)) / nI (2 ^ pe) = nI ((2 ^ pe) ^ (mm - (i + 1))) := by
  have h1 := pw_le (k := mm - i) hpe (by omega)
  have h2 := pw_se hpe
  have h3 : 0 < 2 ^ pe := Nat.pow_pos (by decide)
  rw [pk_div (by omega) h3 (by omega), show mm - i = (mm - (i + 1)) + 1 by omega, Nat.pow_succ, Nat.mul_div_cancel _ h3]
theorem pw_dig {pe k i : Nat} (hpe : pe ≤ 4) (hk : k ≤ 3) (hi : i < 4096) : (nI i / nI ((2 ^ pe) ^ k) - nI i / nI ((2 ^ pe) ^ k) / nI (2 ^ pe) * nI (2 ^ pe)) = nI (i / (2 ^ pe) ^ k % 2 ^ pe) := by
  have h1 := pw_le hpe hk
  have h2 := pw_se hpe
  have h3 : 0 < 2 ^ pe := Nat.pow_pos (by decide)
  have h4 : 0 < (2 ^ pe) ^ k := Nat.pow_pos h3
  have h5 : i / (2 ^ pe) ^ k ≤ i := Nat.div_le_self _ _
  rw [pk_div (by omega) h4 (by omega), pk_rem (by omega) h3 (by omega)]

def rm_X5_minute : Room := { frames := 2, cells := 0, slots := 0, locals := 47 }
def f_X5_minute_78_Ms (nl : Nat) (pe : Nat) (ro : Nat → Int32) (ss : Nat → Int32) (lt : Nat → Int32) (who : Int32) : Nat → (Nat → Int32)
  | 0 => ss
  | i2 + 1 => (if ((f_X5_goesBy_Ml nl ro (f_X5_asItIs_Ml nl ro lt) (f_X5_sectionsOf pe ss who)) ((upd (f_X5_minute_78_Ms nl pe ro ss lt who i2) ((3 * i2) + 1) (((f_X5_minute_78_Ms nl pe ro ss lt who i2) ((3 * i2) + 1)) + ((who >>> (nI i2 &&& 31)) &&& 1))) (3 * i2)).toNatClampNeg) = 0 then (upd (upd (f_X5_minute_78_Ms nl pe ro ss lt who i2) ((3 * i2) + 1) (((f_X5_minute_78_Ms nl pe ro ss lt who i2) ((3 * i2) + 1)) + ((who >>> (nI i2 &&& 31)) &&& 1))) ((3 * i2) + 2) (((upd (f_X5_minute_78_Ms nl pe ro ss lt who i2) ((3 * i2) + 1) (((f_X5_minute_78_Ms nl pe ro ss lt who i2) ((3 * i2) + 1)) + ((who >>> (nI i2 &&& 31)) &&& 1))) ((3 * i2) + 2)) + 1)) else (upd (upd (f_X5_minute_78_Ms nl pe ro ss lt who i2) ((3 * i2) + 1) (((f_X5_minute_78_Ms nl pe ro ss lt who i2) ((3 * i2) + 1)) + ((who >>> (nI i2 &&& 31)) &&& 1))) ((3 * i2) + 2) (((upd (f_X5_minute_78_Ms nl pe ro ss lt who i2) ((3 * i2) + 1) (((f_X5_minute_78_Ms nl pe ro ss lt who i2) ((3 * i2) + 1)) + ((who >>> (nI i2 &&& 31)) &&& 1))) ((3 * i2) + 2)) + 0)))
def f_X5_minute_46_Mr (nl : Nat) (pe : Nat) (ro : Nat → Int32) (ss : Nat → Int32) (lt : Nat → Int32) (who : Int32) : Nat → (Nat → Int32)
  | 0 => ro
  | i1 + 1 => (upd (f_X5_minute_46_Mr nl pe ro ss lt who i1) ((3 * i1) + 2) ((f_X5_goesBy_Ml nl ro (f_X5_asItIs_Ml nl ro lt) (f_X5_sectionsOf pe ss who)) i1))
def f_X5_minute (nl : Nat) (pe : Nat) (ro : Nat → Int32) (ss : Nat → Int32) (lt : Nat → Int32) (who : Int32) : Int32 := (if (f_X5_in (who.toInt64) 0 ((((1 : Int32) <<< (nI pe &&& 31)) - 1).toInt64)) = 0 then (-102) else (if (f_X5_lacks nl) = 0 then (f_X5_darkNow pe ((f_X5_minute_78_Ms nl pe ro ss lt who pe)) (f_X5_goesBy_Ml nl ro (f_X5_asItIs_Ml nl ro lt) (f_X5_sectionsOf pe ss who))) else (-103)))
def f_X5_minute_M_3 (nl : Nat) (mi : Int32) (pe : Nat) (who : Int32) : Int32 := (if (f_X5_in (who.toInt64) 0 ((((1 : Int32) <<< (nI pe &&& 31)) - 1).toInt64)) = 0 then mi else (if (f_X5_lacks nl) = 0 then (mi + 1) else mi))
def f_X5_minute_Mr (nl : Nat) (pe : Nat) (ro : Nat → Int32) (ss : Nat → Int32) (lt : Nat → Int32) (who : Int32) : Nat → Int32 := (if (f_X5_in (who.toInt64) 0 ((((1 : Int32) <<< (nI pe &&& 31)) - 1).toInt64)) = 0 then ro else (if (f_X5_lacks nl) = 0 then (f_X5_minute_46_Mr nl pe ro ss lt who nl) else ro))
def f_X5_minute_Ms (nl : Nat) (pe : Nat) (ro : Nat → Int32) (ss : Nat → Int32) (lt : Nat → Int32) (who : Int32) : Nat → Int32 := (if (f_X5_in (who.toInt64) 0 ((((1 : Int32) <<< (nI pe &&& 31)) - 1).toInt64)) = 0 then ss else (if (f_X5_lacks nl) = 0 then (f_X5_minute_78_Ms nl pe ro ss lt who pe) else ss))
def f_X5_minute_Ml (nl : Nat) (pe : Nat) (ro : Nat → Int32) (ss : Nat → Int32) (lt : Nat → Int32) (who : Int32) : Nat → Int32 := (if (f_X5_in (who.toInt64) 0 ((((1 : Int32) <<< (nI pe &&& 31)) - 1).toInt64)) = 0 then lt else (if (f_X5_lacks nl) = 0 then (f_X5_goesBy_Ml nl ro (f_X5_asItIs_Ml nl ro lt) (f_X5_sectionsOf pe ss who)) else lt))
theorem minS (nl : Nat) (pe : Nat) (ro : Nat → Int32) (ss : Nat → Int32) (lt : Nat → Int32) (who : Int32) (j : Nat) : ∀ i, f_X5_minute_78_Ms nl pe ro ss lt who i (3 * j) = ss (3 * j)
  | 0 => rfl
  | i + 1 => by
    rw [f_X5_minute_78_Ms]
    split
    · rw [pk_un (by omega), pk_un (by omega)]; exact minS nl pe ro ss lt who j i
    · rw [pk_un (by omega), pk_un (by omega)]; exact minS nl pe ro ss lt who j i
theorem hd_X5_minute : yX5_minute.cls = RX5 ∧ yX5_minute.cls ≠ "java/lang/invoke/MethodHandle" ∧ yX5_minute.cls ≠ "java/lang/invoke/VarHandle" ∧ (parseMethodDescriptor yX5_minute.desc).map (fun d => d.parameters.length) = some 1 := by decide +kernel
set_option maxHeartbeats 4000000 in
set_option maxRecDepth 100000 in
theorem c_X5_minute (l : Launch) (D : va_G) (cI : ClassId) (aM aMp aMr aMs aMl aMg aMb aMo aMkr aMks aMkb : Nat) (ofr : Int32) (rd : Int32) (pl : Nat) (nl : Nat) (mi : Int32) (pe : Nat) (kmi : Int32) (kpe : Int32) (bc : Int32) (bk : Nat) (sd : Int32) (ko : Int32) (kbk : Int32) (ha : Int64) (ro : Nat → Int32) (ss : Nat → Int32) (lt : Nat → Int32) (who : Int32) (hn : nl ≤ 6) (hpe : pe ≤ 4) (hss : ∀ j, j < pe → vp_in (ss (3 * j)) 6) : MetX l yX5_minute wsX5_minute rm_X5_minute D cI [.ref aM, .int who] [(aM, .inr (5, [.ref aMp, .int (nI pl), .int (nI nl), .int mi, .int ofr, .ref aMr, .int (nI pe), .ref aMs, .ref aMl, .int bc, .int rd, .ref aMg, .ref aMb, .int (nI bk), .ref aMo, .int sd, .int ko, .int kpe, .int kmi, .int kbk, .ref aMkr, .ref aMks, .ref aMkb, .long ha])), (aMr, .inl (cI, 18, .inl ro)), (aMs, .inl (cI, 12, .inl ss)), (aMl, .inl (cI, 6, .inl lt))] (some (.int (f_X5_minute nl pe ro ss lt who))) [(aM, .inr (5, [.ref aMp, .int (nI pl), .int (nI nl), .int (f_X5_minute_M_3 nl mi pe who), .int ofr, .ref aMr, .int (nI pe), .ref aMs, .ref aMl, .int bc, .int rd, .ref aMg, .ref aMb, .int (nI bk), .ref aMo, .int sd, .int ko, .int kpe, .int kmi, .int kbk, .ref aMkr, .ref aMks, .ref aMkb, .long ha])), (aMr, .inl (cI, 18, .inl (f_X5_minute_Mr nl pe ro ss lt who))), (aMs, .inl (cI, 12, .inl (f_X5_minute_Ms nl pe ro ss lt who))), (aMl, .inl (cI, 6, .inl (f_X5_minute_Ml nl pe ro ss lt who)))] := by
  refine mX (cc := cX5_minute) (maxL := 3) (ret := (some .int)) (by decide) rfl (Nat.le_of_ble_eq_true rfl) ?_
  intro p e s m args below meth c Q A hx hb hr hml hown hts hlk hP hK hD hA hS hQ ls hl
  have hown : s.vm.findClass RX5 = some m.cls := hown
  have hl : lv_has ls 3 [(0, .ref aM), (1, .int who)] := hl
  have w1 := hts (.fieldLink RX5 73 "DarkOfficeModel" "people" "I") (List.mem_of_getElem? (i := 1) rfl)
  have uX5 : ∀ w ∈ wsX50, w ∈ wsX5_minute := fun _ h => List.mem_cons_of_mem _ (List.mem_append_right _ h)
  have w2 := hts (.fieldLink RX5 67 "DarkOfficeModel" "lamps" "I") (List.mem_of_getElem? (i := 2) rfl)
  have w6 := hts (.fieldLink RX5 70 "DarkOfficeModel" "minutesNow" "I") (List.mem_of_getElem? (i := 6) rfl)
  have w5 := hts (.fieldLink RX5 16 "DarkOfficeModel" "seats" "[I") (List.mem_of_getElem? (i := 5) rfl)
  have w4 := hts (.fieldLink RX5 19 "DarkOfficeModel" "lit" "[I") (List.mem_of_getElem? (i := 4) rfl)
  have w3 := hts (.fieldLink RX5 13 "DarkOfficeModel" "rows" "[I") (List.mem_of_getElem? (i := 3) rfl)
  refine lv_iload_n hx hb dX5_minute_0 rfl (lv_at hl 1 rfl) ?_
  refine lv_i2l (v := who.toInt64) hx hb dX5_minute_1 rfl ?_
  refine lv_lconst (v := 0) hx hb dX5_minute_2 (by decide) ?_
  refine lv_iconst (v := 1) hx hb dX5_minute_3 (by decide) ?_
  refine lv_aload_n hx hb dX5_minute_4 rfl (lv_at hl 0 rfl) ?_
  refine va_get (D := D) (ci := 5) (v := .int (nI pe)) (C := RX5) (T := TX5) (N := 24) hx hb hts uX5 hown hK hP 0 rfl rfl 6 (by decide) w1 (fun _ h9 => h9) rfl dX5_minute_5 ?_
  refine lv_ishl hx hb dX5_minute_8 ?_
  refine lv_iconst (v := 1) hx hb dX5_minute_9 (by decide) ?_
  refine lv_isub hx hb dX5_minute_10 ?_
  refine lv_i2l (v := (((1 : Int32) <<< (nI pe &&& 31)) - 1).toInt64) hx hb dX5_minute_11 rfl ?_
  refine rS ⟨hx, hb, hml, hown, hts⟩ (c_X5_in l D cI (who.toInt64) 0 ((((1 : Int32) <<< (nI pe &&& 31)) - 1).toInt64)) (va_cwS 3 hts gX5_minute_X5_in rfl rfl rfl hd_X5_in ⟨Nat.le_of_ble_eq_true rfl, Nat.le_of_ble_eq_true rfl⟩) hK (hP.sub [] rfl) rfl hl.1 (rest := []) (st' := [.int (f_X5_in (who.toInt64) 0 ((((1 : Int32) <<< (nI pe &&& 31)) - 1).toInt64))]) rfl rfl (Nat.le_of_ble_eq_true rfl) dX5_minute_12 ⟨Nat.zero_le _, Nat.zero_le _⟩ ?_
  refine lv_if_ne (tgt := 21) hx hb dX5_minute_15 (by decide) (fun c1 => ?_) (fun c1 => ?_)
  · refine lv_aload_n hx hb dX5_minute_21 rfl (lv_at hl 0 rfl) ?_
    refine rV ⟨hx, hb, hml, hown, hts⟩ (c_X5_lacks l D cI aM aMp aMr aMs aMl aMg aMb aMo aMkr aMks aMkb ofr rd pl nl mi pe kmi kpe bc bk sd ko kbk ha hn) (cwV 0 hts gX5_minute_X5_lacks rfl rfl rfl hd_X5_lacks ⟨Nat.le_of_ble_eq_true rfl, Nat.le_of_ble_eq_true rfl⟩) hK (hP.sub [0] rfl) 0 rfl rfl rfl rfl hl.1 (rest := []) (st' := [.int (f_X5_lacks nl)]) rfl rfl (Nat.le_of_ble_eq_true rfl) dX5_minute_22 ⟨Nat.zero_le _, Nat.zero_le _⟩ ?_
    refine lv_if_eq (tgt := 31) hx hb dX5_minute_25 (by decide) (fun c2 => ?_) (fun c2 => ?_)
    · refine lv_aload_n hx hb dX5_minute_31 rfl (lv_at hl 0 rfl) ?_
      refine xV (w2 := [(aM, .inr (5, [.ref aMp, .int (nI pl), .int (nI nl), .int mi, .int ofr, .ref aMr, .int (nI pe), .ref aMs, .ref aMl, .int bc, .int rd, .ref aMg, .ref aMb, .int (nI bk), .ref aMo, .int sd, .int ko, .int kpe, .int kmi, .int kbk, .ref aMkr, .ref aMks, .ref aMkb, .long ha])), (aMr, .inl (cI, 18, .inl ro)), (aMs, .inl (cI, 12, .inl ss)), (aMl, .inl (cI, 6, .inl (f_X5_asItIs_Ml nl ro lt)))]) ⟨hx, hb, hml, hown, hts⟩ (c_X5_asItIs l D cI aM aMp aMr aMs aMl aMg aMb aMo aMkr aMks aMkb ofr rd pl nl mi pe kmi kpe bc bk sd ko kbk ha ro lt hn) (cwV 0 hts gX5_minute_X5_asItIs rfl rfl rfl hd_X5_asItIs ⟨Nat.le_of_ble_eq_true rfl, Nat.le_of_ble_eq_true rfl⟩) hK hP hD hS hA [0, 1, 3] [2] [1, 2, 0, 3] rfl rfl rfl rfl rfl (by decide) rfl rfl rfl 0 rfl rfl rfl rfl hl.1 (rest := []) (st' := []) rfl rfl (Nat.le_of_ble_eq_true rfl) dX5_minute_32 ⟨Nat.zero_le _, Nat.zero_le _⟩ (fun H locs hP hD hS => ?_)
      refine lv_aload_n hx hb dX5_minute_35 rfl (lv_at hl 0 rfl) ?_
      refine lv_aload_n hx hb dX5_minute_36 rfl (lv_at hl 0 rfl) ?_
      refine lv_iload_n hx hb dX5_minute_37 rfl (lv_at hl 1 rfl) ?_
      refine rV ⟨hx, hb, hml, hown, hts⟩ (c_X5_sectionsOf l D cI aM aMp aMr aMs aMl aMg aMb aMo aMkr aMks aMkb ofr rd pl nl mi pe kmi kpe bc bk sd ko kbk ha ss who hpe) (cwV 1 hts gX5_minute_X5_sectionsOf rfl rfl rfl hd_X5_sectionsOf ⟨Nat.le_of_ble_eq_true rfl, Nat.le_of_ble_eq_true rfl⟩) hK (hP.sub [0, 2] rfl) 0 rfl rfl rfl rfl hl.1 (rest := [.ref aM]) (st' := [.int (f_X5_sectionsOf pe ss who), .ref aM]) rfl rfl (Nat.le_of_ble_eq_true rfl) dX5_minute_38 ⟨Nat.zero_le _, Nat.zero_le _⟩ ?_
      refine xV (w2 := [(aM, .inr (5, [.ref aMp, .int (nI pl), .int (nI nl), .int mi, .int ofr, .ref aMr, .int (nI pe), .ref aMs, .ref aMl, .int bc, .int rd, .ref aMg, .ref aMb, .int (nI bk), .ref aMo, .int sd, .int ko, .int kpe, .int kmi, .int kbk, .ref aMkr, .ref aMks, .ref aMkb, .long ha])), (aMr, .inl (cI, 18, .inl ro)), (aMs, .inl (cI, 12, .inl ss)), (aMl, .inl (cI, 6, .inl (f_X5_goesBy_Ml nl ro (f_X5_asItIs_Ml nl ro lt) (f_X5_sectionsOf pe ss who))))]) ⟨hx, hb, hml, hown, hts⟩ (c_X5_goesBy l D cI aM aMp aMr aMs aMl aMg aMb aMo aMkr aMks aMkb ofr rd pl nl mi pe kmi kpe bc bk sd ko kbk ha ro (f_X5_asItIs_Ml nl ro lt) (f_X5_sectionsOf pe ss who) hn) (cwV 1 hts gX5_minute_X5_goesBy rfl rfl rfl hd_X5_goesBy ⟨Nat.le_of_ble_eq_true rfl, Nat.le_of_ble_eq_true rfl⟩) hK hP hD hS hA [0, 1, 3] [2] [1, 2, 0, 3] rfl rfl rfl rfl rfl (by decide) rfl rfl rfl 0 rfl rfl rfl rfl hl.1 (rest := []) (st' := []) rfl rfl (Nat.le_of_ble_eq_true rfl) dX5_minute_41 ⟨Nat.zero_le _, Nat.zero_le _⟩ (fun H locs hP hD hS => ?_)
      refine lv_iconst (v := 0) hx hb dX5_minute_44 (by decide) ?_
      refine lv_istore_n (lv' := [(2, .int 0), (0, .ref aM), (1, .int who)]) hx hb dX5_minute_45 rfl hl (by decide) rfl (fun ls hl => ?_)
      have lp46 : ∀ (k46 i1 : Nat), i1 + k46 = nl → ∀ (H : Heap) (locs : List Loc), va_P D vwCl [(aM, .inr (5, [.ref aMp, .int (nI pl), .int (nI nl), .int mi, .int ofr, .ref aMr, .int (nI pe), .ref aMs, .ref aMl, .int bc, .int rd, .ref aMg, .ref aMb, .int (nI bk), .ref aMo, .int sd, .int ko, .int kpe, .int kmi, .int kbk, .ref aMkr, .ref aMks, .ref aMkb, .long ha])), (aMr, .inl (cI, 18, .inl ((f_X5_minute_46_Mr nl pe ro ss lt who i1)))), (aMs, .inl (cI, 12, .inl ss)), (aMl, .inl (cI, 6, .inl (f_X5_goesBy_Ml nl ro (f_X5_asItIs_Ml nl ro lt) (f_X5_sectionsOf pe ss who))))] H → va_D A [(aM, .inr (5, [.ref aMp, .int (nI pl), .int (nI nl), .int mi, .int ofr, .ref aMr, .int (nI pe), .ref aMs, .ref aMl, .int bc, .int rd, .ref aMg, .ref aMb, .int (nI bk), .ref aMo, .int sd, .int ko, .int kpe, .int kmi, .int kbk, .ref aMkr, .ref aMks, .ref aMkb, .long ha])), (aMr, .inl (cI, 18, .inl ((f_X5_minute_46_Mr nl pe ro ss lt who i1)))), (aMs, .inl (cI, 12, .inl ss)), (aMl, .inl (cI, 6, .inl (f_X5_goesBy_Ml nl ro (f_X5_asItIs_Ml nl ro lt) (f_X5_sectionsOf pe ss who))))] → va_S A s.heap H locs → ∀ ls : Array Slot, lv_has ls 3 [(0, .ref aM), (1, .int who), (2, .int (nI i1))] → W p l e rm_X5_minute s m args below meth c H locs 0 0 Q (F0 m 46 ls []) := by
        intro k46
        induction k46 with
        | zero =>
          intro i1 hk46 H locs hP hD hS ls hl
          have hN46 : nl = i1 := by omega
          subst hN46
          refine lv_iload_n hx hb dX5_minute_46 rfl (lv_at hl 2 rfl) ?_
          refine lv_aload_n hx hb dX5_minute_47 rfl (lv_at hl 0 rfl) ?_
          refine va_get (D := D) (ci := 5) (v := .int (nI nl)) (C := RX5) (T := TX5) (N := 24) hx hb hts uX5 hown hK hP 0 rfl rfl 2 (by decide) w2 (fun _ h9 => h9) rfl dX5_minute_48 ?_
          refine lv_icmp_ge (tgt := 76) hx hb dX5_minute_51 (by decide) (fun _ => ?_) (fun c => absurd (nle_t (a := nl) (b := nl) rfl rfl (by omega) (by omega) (by omega)) c)
          refine lv_iconst (v := 0) hx hb dX5_minute_76 (by decide) ?_
          refine lv_istore_n (lv' := [(2, .int 0), (0, .ref aM), (1, .int who)]) hx hb dX5_minute_77 rfl hl (by decide) rfl (fun ls hl => ?_)
          have lp78 : ∀ (k78 i2 : Nat), i2 + k78 = pe → ∀ (H : Heap) (locs : List Loc), va_P D vwCl [(aM, .inr (5, [.ref aMp, .int (nI pl), .int (nI nl), .int mi, .int ofr, .ref aMr, .int (nI pe), .ref aMs, .ref aMl, .int bc, .int rd, .ref aMg, .ref aMb, .int (nI bk), .ref aMo, .int sd, .int ko, .int kpe, .int kmi, .int kbk, .ref aMkr, .ref aMks, .ref aMkb, .long ha])), (aMr, .inl (cI, 18, .inl ((f_X5_minute_46_Mr nl pe ro ss lt who nl)))), (aMs, .inl (cI, 12, .inl ((f_X5_minute_78_Ms nl pe ro ss lt who i2)))), (aMl, .inl (cI, 6, .inl (f_X5_goesBy_Ml nl ro (f_X5_asItIs_Ml nl ro lt) (f_X5_sectionsOf pe ss who))))] H → va_D A [(aM, .inr (5, [.ref aMp, .int (nI pl), .int (nI nl), .int mi, .int ofr, .ref aMr, .int (nI pe), .ref aMs, .ref aMl, .int bc, .int rd, .ref aMg, .ref aMb, .int (nI bk), .ref aMo, .int sd, .int ko, .int kpe, .int kmi, .int kbk, .ref aMkr, .ref aMks, .ref aMkb, .long ha])), (aMr, .inl (cI, 18, .inl ((f_X5_minute_46_Mr nl pe ro ss lt who nl)))), (aMs, .inl (cI, 12, .inl ((f_X5_minute_78_Ms nl pe ro ss lt who i2)))), (aMl, .inl (cI, 6, .inl (f_X5_goesBy_Ml nl ro (f_X5_asItIs_Ml nl ro lt) (f_X5_sectionsOf pe ss who))))] → va_S A s.heap H locs → ∀ ls : Array Slot, lv_has ls 3 [(0, .ref aM), (1, .int who), (2, .int (nI i2))] → W p l e rm_X5_minute s m args below meth c H locs 0 0 Q (F0 m 78 ls []) := by
            intro k78
            induction k78 with
            | zero =>
              intro i2 hk78 H locs hP hD hS ls hl
              have hN78 : pe = i2 := by omega
              subst hN78
              refine lv_iload_n hx hb dX5_minute_78 rfl (lv_at hl 2 rfl) ?_
              refine lv_aload_n hx hb dX5_minute_79 rfl (lv_at hl 0 rfl) ?_
              refine va_get (D := D) (ci := 5) (v := .int (nI pe)) (C := RX5) (T := TX5) (N := 24) hx hb hts uX5 hown hK hP 0 rfl rfl 6 (by decide) w1 (fun _ h9 => h9) rfl dX5_minute_80 ?_
              refine lv_icmp_ge (tgt := 144) hx hb dX5_minute_83 (by decide) (fun _ => ?_) (fun c => absurd (nle_t (a := pe) (b := pe) rfl rfl (by omega) (by omega) (by omega)) c)
              refine lv_aload_n hx hb dX5_minute_144 rfl (lv_at hl 0 rfl) ?_
              refine lv_dup hx hb dX5_minute_145 rfl ?_
              refine va_get (D := D) (ci := 5) (v := .int mi) (C := RX5) (T := TX5) (N := 24) hx hb hts uX5 hown hK hP 0 rfl rfl 3 (by decide) w6 (fun _ h9 => h9) rfl dX5_minute_146 ?_
              refine lv_iconst (v := 1) hx hb dX5_minute_149 (by decide) ?_
              refine lv_iadd hx hb dX5_minute_150 ?_
              refine va_put (D := D) (ci := 5) (v := .int (mi + 1)) (ty := .int) (C := RX5) (T := TX5) (N := 24) hx hb hts uX5 tyX5 tyX5_ok nmX5 hown hK hP hD hS 0 rfl rfl 3 (by decide) w6 (fun _ h9 => h9) rfl (by decide +kernel) rfl rfl (Nat.le_of_ble_eq_true rfl) dX5_minute_151 (fun H locs hP hD hS => ?_)
              have hP : va_P D vwCl [(aM, .inr (5, [.ref aMp, .int (nI pl), .int (nI nl), .int (mi + 1), .int ofr, .ref aMr, .int (nI pe), .ref aMs, .ref aMl, .int bc, .int rd, .ref aMg, .ref aMb, .int (nI bk), .ref aMo, .int sd, .int ko, .int kpe, .int kmi, .int kbk, .ref aMkr, .ref aMks, .ref aMkb, .long ha])), (aMr, .inl (cI, 18, .inl ((f_X5_minute_46_Mr nl pe ro ss lt who nl)))), (aMs, .inl (cI, 12, .inl ((f_X5_minute_78_Ms nl pe ro ss lt who pe)))), (aMl, .inl (cI, 6, .inl (f_X5_goesBy_Ml nl ro (f_X5_asItIs_Ml nl ro lt) (f_X5_sectionsOf pe ss who))))] H := hP
              have hD : va_D A [(aM, .inr (5, [.ref aMp, .int (nI pl), .int (nI nl), .int (mi + 1), .int ofr, .ref aMr, .int (nI pe), .ref aMs, .ref aMl, .int bc, .int rd, .ref aMg, .ref aMb, .int (nI bk), .ref aMo, .int sd, .int ko, .int kpe, .int kmi, .int kbk, .ref aMkr, .ref aMks, .ref aMkb, .long ha])), (aMr, .inl (cI, 18, .inl ((f_X5_minute_46_Mr nl pe ro ss lt who nl)))), (aMs, .inl (cI, 12, .inl ((f_X5_minute_78_Ms nl pe ro ss lt who pe)))), (aMl, .inl (cI, 6, .inl (f_X5_goesBy_Ml nl ro (f_X5_asItIs_Ml nl ro lt) (f_X5_sectionsOf pe ss who))))] := hD
              refine lv_aload_n hx hb dX5_minute_154 rfl (lv_at hl 0 rfl) ?_
              refine rV ⟨hx, hb, hml, hown, hts⟩ (c_X5_darkNow l D cI aM aMp aMr aMs aMl aMg aMb aMo aMkr aMks aMkb ofr rd pl nl (mi + 1) pe kmi kpe bc bk sd ko kbk ha ((f_X5_minute_78_Ms nl pe ro ss lt who pe)) (f_X5_goesBy_Ml nl ro (f_X5_asItIs_Ml nl ro lt) (f_X5_sectionsOf pe ss who)) hpe (fun j hj => by rw [minS]; exact hss j hj)) (cwV 0 hts gX5_minute_X5_darkNow rfl rfl rfl hd_X5_darkNow ⟨Nat.le_of_ble_eq_true rfl, Nat.le_of_ble_eq_true rfl⟩) hK (hP.sub [0, 2, 3] rfl) 0 rfl rfl rfl rfl hl.1 (rest := []) (st' := [.int (f_X5_darkNow pe ((f_X5_minute_78_Ms nl pe ro ss lt who pe)) (f_X5_goesBy_Ml nl ro (f_X5_asItIs_Ml nl ro lt) (f_X5_sectionsOf pe ss who)))]) rfl rfl (Nat.le_of_ble_eq_true rfl) dX5_minute_155 ⟨Nat.zero_le _, Nat.zero_le _⟩ ?_
              have e_M_3 : (f_X5_minute_M_3 nl mi pe who) = (mi + 1) := (by simp only [f_X5_minute_M_3, if_neg c1, if_pos c2])
              have e_Mr : (f_X5_minute_Mr nl pe ro ss lt who) = (f_X5_minute_46_Mr nl pe ro ss lt who nl) := (by simp only [f_X5_minute_Mr, if_neg c1, if_pos c2])
              have e_Ms : (f_X5_minute_Ms nl pe ro ss lt who) = (f_X5_minute_78_Ms nl pe ro ss lt who pe) := (by simp only [f_X5_minute_Ms, if_neg c1, if_pos c2])
              have e_Ml : (f_X5_minute_Ml nl pe ro ss lt who) = (f_X5_goesBy_Ml nl ro (f_X5_asItIs_Ml nl ro lt) (f_X5_sectionsOf pe ss who)) := (by simp only [f_X5_minute_Ml, if_neg c1, if_pos c2])
              exact eXi hx hb hr hlk hQ (by rw [e_M_3, e_Mr, e_Ms, e_Ml]; exact hP) (by rw [e_M_3, e_Mr, e_Ms, e_Ml]; exact hD) hS dX5_minute_158 (Eq.symm (by simp only [f_X5_minute, if_neg c1, if_pos c2]))
            | succ k78 ih78 =>
              intro i2 hk78 H locs hP hD hS ls hl
              refine lv_iload_n hx hb dX5_minute_78 rfl (lv_at hl 2 rfl) ?_
              refine lv_aload_n hx hb dX5_minute_79 rfl (lv_at hl 0 rfl) ?_
              refine va_get (D := D) (ci := 5) (v := .int (nI pe)) (C := RX5) (T := TX5) (N := 24) hx hb hts uX5 hown hK hP 0 rfl rfl 6 (by decide) w1 (fun _ h9 => h9) rfl dX5_minute_80 ?_
              refine lv_icmp_ge (tgt := 144) hx hb dX5_minute_83 (by decide) (fun c => absurd c (nle_f (a := pe) (b := i2) rfl rfl (by omega) (by omega) (by omega))) (fun _ => ?_)
              refine lv_aload_n hx hb dX5_minute_86 rfl (lv_at hl 0 rfl) ?_
              refine va_get (D := D) (ci := 5) (v := .ref aMs) (C := RX5) (T := TX5) (N := 24) hx hb hts uX5 hown hK hP 0 rfl rfl 7 (by decide) w5 (fun _ h9 => h9) rfl dX5_minute_87 ?_
              refine lv_iconst (v := 3) hx hb dX5_minute_90 (by decide) ?_
              refine lv_iload_n hx hb dX5_minute_91 rfl (lv_at hl 2 rfl) ?_
              refine lv_imul hx hb dX5_minute_92 ?_
              refine lv_iconst (v := 1) hx hb dX5_minute_93 (by decide) ?_
              refine lv_iadd hx hb dX5_minute_94 ?_
              refine lv_dup2_11 hx hb dX5_minute_95 rfl rfl ?_
              refine xald hx hb hK hP 2 rfl ((3 * i2) + 1) (ix_add (ix_mul rfl rfl) rfl) (by omega) (by decide) dX5_minute_96 ?_
              refine lv_iload_n hx hb dX5_minute_97 rfl (lv_at hl 1 rfl) ?_
              refine lv_iload_n hx hb dX5_minute_98 rfl (lv_at hl 2 rfl) ?_
              refine lv_ishr hx hb dX5_minute_99 ?_
              refine lv_iconst (v := 1) hx hb dX5_minute_100 (by decide) ?_
              refine lv_iand hx hb dX5_minute_101 ?_
              refine lv_iadd hx hb dX5_minute_102 ?_
              refine xast hx hb hK hP hD hS 2 rfl ((3 * i2) + 1) (ix_add (ix_mul rfl rfl) rfl) (by omega) (by decide) dX5_minute_103 (fun H locs hP hD hS => ?_)
              have hP : va_P D vwCl [(aM, .inr (5, [.ref aMp, .int (nI pl), .int (nI nl), .int mi, .int ofr, .ref aMr, .int (nI pe), .ref aMs, .ref aMl, .int bc, .int rd, .ref aMg, .ref aMb, .int (nI bk), .ref aMo, .int sd, .int ko, .int kpe, .int kmi, .int kbk, .ref aMkr, .ref aMks, .ref aMkb, .long ha])), (aMr, .inl (cI, 18, .inl ((f_X5_minute_46_Mr nl pe ro ss lt who nl)))), (aMs, .inl (cI, 12, .inl (upd (f_X5_minute_78_Ms nl pe ro ss lt who i2) ((3 * i2) + 1) (((f_X5_minute_78_Ms nl pe ro ss lt who i2) ((3 * i2) + 1)) + ((who >>> (nI i2 &&& 31)) &&& 1))))), (aMl, .inl (cI, 6, .inl (f_X5_goesBy_Ml nl ro (f_X5_asItIs_Ml nl ro lt) (f_X5_sectionsOf pe ss who))))] H := hP
              have hD : va_D A [(aM, .inr (5, [.ref aMp, .int (nI pl), .int (nI nl), .int mi, .int ofr, .ref aMr, .int (nI pe), .ref aMs, .ref aMl, .int bc, .int rd, .ref aMg, .ref aMb, .int (nI bk), .ref aMo, .int sd, .int ko, .int kpe, .int kmi, .int kbk, .ref aMkr, .ref aMks, .ref aMkb, .long ha])), (aMr, .inl (cI, 18, .inl ((f_X5_minute_46_Mr nl pe ro ss lt who nl)))), (aMs, .inl (cI, 12, .inl (upd (f_X5_minute_78_Ms nl pe ro ss lt who i2) ((3 * i2) + 1) (((f_X5_minute_78_Ms nl pe ro ss lt who i2) ((3 * i2) + 1)) + ((who >>> (nI i2 &&& 31)) &&& 1))))), (aMl, .inl (cI, 6, .inl (f_X5_goesBy_Ml nl ro (f_X5_asItIs_Ml nl ro lt) (f_X5_sectionsOf pe ss who))))] := hD
              refine lv_aload_n hx hb dX5_minute_104 rfl (lv_at hl 0 rfl) ?_
              refine va_get (D := D) (ci := 5) (v := .ref aMs) (C := RX5) (T := TX5) (N := 24) hx hb hts uX5 hown hK hP 0 rfl rfl 7 (by decide) w5 (fun _ h9 => h9) rfl dX5_minute_105 ?_
              refine lv_iconst (v := 3) hx hb dX5_minute_108 (by decide) ?_
              refine lv_iload_n hx hb dX5_minute_109 rfl (lv_at hl 2 rfl) ?_
              refine lv_imul hx hb dX5_minute_110 ?_
              refine lv_iconst (v := 2) hx hb dX5_minute_111 (by decide) ?_
              refine lv_iadd hx hb dX5_minute_112 ?_
              refine lv_dup2_11 hx hb dX5_minute_113 rfl rfl ?_
              refine xald hx hb hK hP 2 rfl ((3 * i2) + 2) (ix_add (ix_mul rfl rfl) rfl) (by omega) (by decide) dX5_minute_114 ?_
              refine lv_aload_n hx hb dX5_minute_115 rfl (lv_at hl 0 rfl) ?_
              refine va_get (D := D) (ci := 5) (v := .ref aMl) (C := RX5) (T := TX5) (N := 24) hx hb hts uX5 hown hK hP 0 rfl rfl 8 (by decide) w4 (fun _ h9 => h9) rfl dX5_minute_116 ?_
              refine lv_aload_n hx hb dX5_minute_119 rfl (lv_at hl 0 rfl) ?_
              refine va_get (D := D) (ci := 5) (v := .ref aMs) (C := RX5) (T := TX5) (N := 24) hx hb hts uX5 hown hK hP 0 rfl rfl 7 (by decide) w5 (fun _ h9 => h9) rfl dX5_minute_120 ?_
              refine lv_iconst (v := 3) hx hb dX5_minute_123 (by decide) ?_
              refine lv_iload_n hx hb dX5_minute_124 rfl (lv_at hl 2 rfl) ?_
              refine lv_imul hx hb dX5_minute_125 ?_
              refine xald hx hb hK hP 2 rfl (3 * i2) (ix_mul rfl rfl) (by omega) (by decide) dX5_minute_126 ?_
              refine va_iald hx hb hK hP 3 0 rfl rfl (by rw [pk_un (by omega), minS]; exact hss i2 (by omega)) dX5_minute_127 ?_
              refine lv_if_ne (tgt := 135) hx hb dX5_minute_128 (by decide) (fun c3 => ?_) (fun c3 => ?_)
              · refine lv_iconst (v := 0) hx hb dX5_minute_135 (by decide) ?_
                refine lv_iadd hx hb dX5_minute_136 ?_
                refine xast hx hb hK hP hD hS 2 rfl ((3 * i2) + 2) (ix_add (ix_mul rfl rfl) rfl) (by omega) (by decide) dX5_minute_137 (fun H locs hP hD hS => ?_)
                have hP : va_P D vwCl [(aM, .inr (5, [.ref aMp, .int (nI pl), .int (nI nl), .int mi, .int ofr, .ref aMr, .int (nI pe), .ref aMs, .ref aMl, .int bc, .int rd, .ref aMg, .ref aMb, .int (nI bk), .ref aMo, .int sd, .int ko, .int kpe, .int kmi, .int kbk, .ref aMkr, .ref aMks, .ref aMkb, .long ha])), (aMr, .inl (cI, 18, .inl ((f_X5_minute_46_Mr nl pe ro ss lt who nl)))), (aMs, .inl (cI, 12, .inl (upd (upd (f_X5_minute_78_Ms nl pe ro ss lt who i2) ((3 * i2) + 1) (((f_X5_minute_78_Ms nl pe ro ss lt who i2) ((3 * i2) + 1)) + ((who >>> (nI i2 &&& 31)) &&& 1))) ((3 * i2) + 2) (((upd (f_X5_minute_78_Ms nl pe ro ss lt who i2) ((3 * i2) + 1) (((f_X5_minute_78_Ms nl pe ro ss lt who i2) ((3 * i2) + 1)) + ((who >>> (nI i2 &&& 31)) &&& 1))) ((3 * i2) + 2)) + 0)))), (aMl, .inl (cI, 6, .inl (f_X5_goesBy_Ml nl ro (f_X5_asItIs_Ml nl ro lt) (f_X5_sectionsOf pe ss who))))] H := hP
                have hD : va_D A [(aM, .inr (5, [.ref aMp, .int (nI pl), .int (nI nl), .int mi, .int ofr, .ref aMr, .int (nI pe), .ref aMs, .ref aMl, .int bc, .int rd, .ref aMg, .ref aMb, .int (nI bk), .ref aMo, .int sd, .int ko, .int kpe, .int kmi, .int kbk, .ref aMkr, .ref aMks, .ref aMkb, .long ha])), (aMr, .inl (cI, 18, .inl ((f_X5_minute_46_Mr nl pe ro ss lt who nl)))), (aMs, .inl (cI, 12, .inl (upd (upd (f_X5_minute_78_Ms nl pe ro ss lt who i2) ((3 * i2) + 1) (((f_X5_minute_78_Ms nl pe ro ss lt who i2) ((3 * i2) + 1)) + ((who >>> (nI i2 &&& 31)) &&& 1))) ((3 * i2) + 2) (((upd (f_X5_minute_78_Ms nl pe ro ss lt who i2) ((3 * i2) + 1) (((f_X5_minute_78_Ms nl pe ro ss lt who i2) ((3 * i2) + 1)) + ((who >>> (nI i2 &&& 31)) &&& 1))) ((3 * i2) + 2)) + 0)))), (aMl, .inl (cI, 6, .inl (f_X5_goesBy_Ml nl ro (f_X5_asItIs_Ml nl ro lt) (f_X5_sectionsOf pe ss who))))] := hD
                refine lv_iinc (v := nI (i2 + 1)) (lv' := [(2, .int (nI (i2 + 1))), (0, .ref aM), (1, .int who)]) hx hb dX5_minute_138 hl (k := 2) rfl (nI_add i2 1) (by decide) rfl (fun ls hl => ?_)
                refine lv_goto (tgt := 78) hx hb dX5_minute_141 (by decide) ?_
                have e_Ms : (f_X5_minute_78_Ms nl pe ro ss lt who (i2 + 1)) = (upd (upd (f_X5_minute_78_Ms nl pe ro ss lt who i2) ((3 * i2) + 1) (((f_X5_minute_78_Ms nl pe ro ss lt who i2) ((3 * i2) + 1)) + ((who >>> (nI i2 &&& 31)) &&& 1))) ((3 * i2) + 2) (((upd (f_X5_minute_78_Ms nl pe ro ss lt who i2) ((3 * i2) + 1) (((f_X5_minute_78_Ms nl pe ro ss lt who i2) ((3 * i2) + 1)) + ((who >>> (nI i2 &&& 31)) &&& 1))) ((3 * i2) + 2)) + 0)) := (by simp only [f_X5_minute_78_Ms, if_neg c3])
                exact ih78 (i2 + 1) (by omega) _ _ (by rw [e_Ms]; exact hP) (by rw [e_Ms]; exact hD) hS ls (lv_sub hl [1, 2, 0] rfl)
              · refine lv_iconst (v := 1) hx hb dX5_minute_131 (by decide) ?_
                refine lv_goto (tgt := 136) hx hb dX5_minute_132 (by decide) ?_
                refine lv_iadd hx hb dX5_minute_136 ?_
                refine xast hx hb hK hP hD hS 2 rfl ((3 * i2) + 2) (ix_add (ix_mul rfl rfl) rfl) (by omega) (by decide) dX5_minute_137 (fun H locs hP hD hS => ?_)
                have hP : va_P D vwCl [(aM, .inr (5, [.ref aMp, .int (nI pl), .int (nI nl), .int mi, .int ofr, .ref aMr, .int (nI pe), .ref aMs, .ref aMl, .int bc, .int rd, .ref aMg, .ref aMb, .int (nI bk), .ref aMo, .int sd, .int ko, .int kpe, .int kmi, .int kbk, .ref aMkr, .ref aMks, .ref aMkb, .long ha])), (aMr, .inl (cI, 18, .inl ((f_X5_minute_46_Mr nl pe ro ss lt who nl)))), (aMs, .inl (cI, 12, .inl (upd (upd (f_X5_minute_78_Ms nl pe ro ss lt who i2) ((3 * i2) + 1) (((f_X5_minute_78_Ms nl pe ro ss lt who i2) ((3 * i2) + 1)) + ((who >>> (nI i2 &&& 31)) &&& 1))) ((3 * i2) + 2) (((upd (f_X5_minute_78_Ms nl pe ro ss lt who i2) ((3 * i2) + 1) (((f_X5_minute_78_Ms nl pe ro ss lt who i2) ((3 * i2) + 1)) + ((who >>> (nI i2 &&& 31)) &&& 1))) ((3 * i2) + 2)) + 1)))), (aMl, .inl (cI, 6, .inl (f_X5_goesBy_Ml nl ro (f_X5_asItIs_Ml nl ro lt) (f_X5_sectionsOf pe ss who))))] H := hP
                have hD : va_D A [(aM, .inr (5, [.ref aMp, .int (nI pl), .int (nI nl), .int mi, .int ofr, .ref aMr, .int (nI pe), .ref aMs, .ref aMl, .int bc, .int rd, .ref aMg, .ref aMb, .int (nI bk), .ref aMo, .int sd, .int ko, .int kpe, .int kmi, .int kbk, .ref aMkr, .ref aMks, .ref aMkb, .long ha])), (aMr, .inl (cI, 18, .inl ((f_X5_minute_46_Mr nl pe ro ss lt who nl)))), (aMs, .inl (cI, 12, .inl (upd (upd (f_X5_minute_78_Ms nl pe ro ss lt who i2) ((3 * i2) + 1) (((f_X5_minute_78_Ms nl pe ro ss lt who i2) ((3 * i2) + 1)) + ((who >>> (nI i2 &&& 31)) &&& 1))) ((3 * i2) + 2) (((upd (f_X5_minute_78_Ms nl pe ro ss lt who i2) ((3 * i2) + 1) (((f_X5_minute_78_Ms nl pe ro ss lt who i2) ((3 * i2) + 1)) + ((who >>> (nI i2 &&& 31)) &&& 1))) ((3 * i2) + 2)) + 1)))), (aMl, .inl (cI, 6, .inl (f_X5_goesBy_Ml nl ro (f_X5_asItIs_Ml nl ro lt) (f_X5_sectionsOf pe ss who))))] := hD
                refine lv_iinc (v := nI (i2 + 1)) (lv' := [(2, .int (nI (i2 + 1))), (0, .ref aM), (1, .int who)]) hx hb dX5_minute_138 hl (k := 2) rfl (nI_add i2 1) (by decide) rfl (fun ls hl => ?_)
                refine lv_goto (tgt := 78) hx hb dX5_minute_141 (by decide) ?_
                have e_Ms : (f_X5_minute_78_Ms nl pe ro ss lt who (i2 + 1)) = (upd (upd (f_X5_minute_78_Ms nl pe ro ss lt who i2) ((3 * i2) + 1) (((f_X5_minute_78_Ms nl pe ro ss lt who i2) ((3 * i2) + 1)) + ((who >>> (nI i2 &&& 31)) &&& 1))) ((3 * i2) + 2) (((upd (f_X5_minute_78_Ms nl pe ro ss lt who i2) ((3 * i2) + 1) (((f_X5_minute_78_Ms nl pe ro ss lt who i2) ((3 * i2) + 1)) + ((who >>> (nI i2 &&& 31)) &&& 1))) ((3 * i2) + 2)) + 1)) := (by simp only [f_X5_minute_78_Ms, if_pos c3])
                exact ih78 (i2 + 1) (by omega) _ _ (by rw [e_Ms]; exact hP) (by rw [e_Ms]; exact hD) hS ls (lv_sub hl [1, 2, 0] rfl)
          exact lp78 pe 0 (by omega) _ _ hP hD hS ls (lv_sub hl [1, 2, 0] rfl)
        | succ k46 ih46 =>
          intro i1 hk46 H locs hP hD hS ls hl
          refine lv_iload_n hx hb dX5_minute_46 rfl (lv_at hl 2 rfl) ?_
          refine lv_aload_n hx hb dX5_minute_47 rfl (lv_at hl 0 rfl) ?_
          refine va_get (D := D) (ci := 5) (v := .int (nI nl)) (C := RX5) (T := TX5) (N := 24) hx hb hts uX5 hown hK hP 0 rfl rfl 2 (by decide) w2 (fun _ h9 => h9) rfl dX5_minute_48 ?_
          refine lv_icmp_ge (tgt := 76) hx hb dX5_minute_51 (by decide) (fun c => absurd c (nle_f (a := nl) (b := i1) rfl rfl (by omega) (by omega) (by omega))) (fun _ => ?_)
          refine lv_aload_n hx hb dX5_minute_54 rfl (lv_at hl 0 rfl) ?_
          refine va_get (D := D) (ci := 5) (v := .ref aMr) (C := RX5) (T := TX5) (N := 24) hx hb hts uX5 hown hK hP 0 rfl rfl 5 (by decide) w3 (fun _ h9 => h9) rfl dX5_minute_55 ?_
          refine lv_iconst (v := 3) hx hb dX5_minute_58 (by decide) ?_
          refine lv_iload_n hx hb dX5_minute_59 rfl (lv_at hl 2 rfl) ?_
          refine lv_imul hx hb dX5_minute_60 ?_
          refine lv_iconst (v := 2) hx hb dX5_minute_61 (by decide) ?_
          refine lv_iadd hx hb dX5_minute_62 ?_
          refine lv_aload_n hx hb dX5_minute_63 rfl (lv_at hl 0 rfl) ?_
          refine va_get (D := D) (ci := 5) (v := .ref aMl) (C := RX5) (T := TX5) (N := 24) hx hb hts uX5 hown hK hP 0 rfl rfl 8 (by decide) w4 (fun _ h9 => h9) rfl dX5_minute_64 ?_
          refine lv_iload_n hx hb dX5_minute_67 rfl (lv_at hl 2 rfl) ?_
          refine xald hx hb hK hP 3 rfl i1 rfl (by omega) (by decide) dX5_minute_68 ?_
          refine xast hx hb hK hP hD hS 1 rfl ((3 * i1) + 2) (ix_add (ix_mul rfl rfl) rfl) (by omega) (by decide) dX5_minute_69 (fun H locs hP hD hS => ?_)
          have hP : va_P D vwCl [(aM, .inr (5, [.ref aMp, .int (nI pl), .int (nI nl), .int mi, .int ofr, .ref aMr, .int (nI pe), .ref aMs, .ref aMl, .int bc, .int rd, .ref aMg, .ref aMb, .int (nI bk), .ref aMo, .int sd, .int ko, .int kpe, .int kmi, .int kbk, .ref aMkr, .ref aMks, .ref aMkb, .long ha])), (aMr, .inl (cI, 18, .inl (upd (f_X5_minute_46_Mr nl pe ro ss lt who i1) ((3 * i1) + 2) ((f_X5_goesBy_Ml nl ro (f_X5_asItIs_Ml nl ro lt) (f_X5_sectionsOf pe ss who)) i1)))), (aMs, .inl (cI, 12, .inl ss)), (aMl, .inl (cI, 6, .inl (f_X5_goesBy_Ml nl ro (f_X5_asItIs_Ml nl ro lt) (f_X5_sectionsOf pe ss who))))] H := hP
          have hD : va_D A [(aM, .inr (5, [.ref aMp, .int (nI pl), .int (nI nl), .int mi, .int ofr, .ref aMr, .int (nI pe), .ref aMs, .ref aMl, .int bc, .int rd, .ref aMg, .ref aMb, .int (nI bk), .ref aMo, .int sd, .int ko, .int kpe, .int kmi, .int kbk, .ref aMkr, .ref aMks, .ref aMkb, .long ha])), (aMr, .inl (cI, 18, .inl (upd (f_X5_minute_46_Mr nl pe ro ss lt who i1) ((3 * i1) + 2) ((f_X5_goesBy_Ml nl ro (f_X5_asItIs_Ml nl ro lt) (f_X5_sectionsOf pe ss who)) i1)))), (aMs, .inl (cI, 12, .inl ss)), (aMl, .inl (cI, 6, .inl (f_X5_goesBy_Ml nl ro (f_X5_asItIs_Ml nl ro lt) (f_X5_sectionsOf pe ss who))))] := hD
          refine lv_iinc (v := nI (i1 + 1)) (lv' := [(2, .int (nI (i1 + 1))), (0, .ref aM), (1, .int who)]) hx hb dX5_minute_70 hl (k := 2) rfl (nI_add i1 1) (by decide) rfl (fun ls hl => ?_)
          refine lv_goto (tgt := 46) hx hb dX5_minute_73 (by decide) ?_
          have e_Mr : (f_X5_minute_46_Mr nl pe ro ss lt who (i1 + 1)) = (upd (f_X5_minute_46_Mr nl pe ro ss lt who i1) ((3 * i1) + 2) ((f_X5_goesBy_Ml nl ro (f_X5_asItIs_Ml nl ro lt) (f_X5_sectionsOf pe ss who)) i1)) := (by simp only [f_X5_minute_46_Mr])
          exact ih46 (i1 + 1) (by omega) _ _ (by rw [e_Mr]; exact hP) (by rw [e_Mr]; exact hD) hS ls (lv_sub hl [1, 2, 0] rfl)
      exact lp46 nl 0 (by omega) _ _ hP hD hS ls (lv_sub hl [1, 2, 0] rfl)
    · refine lv_bipush (v := (-103)) hx hb dX5_minute_28 (by decide) ?_
      have e_M_3 : (f_X5_minute_M_3 nl mi pe who) = mi := (by simp only [f_X5_minute_M_3, if_neg c1, if_neg c2])
      have e_Mr : (f_X5_minute_Mr nl pe ro ss lt who) = ro := (by simp only [f_X5_minute_Mr, if_neg c1, if_neg c2])
      have e_Ms : (f_X5_minute_Ms nl pe ro ss lt who) = ss := (by simp only [f_X5_minute_Ms, if_neg c1, if_neg c2])
      have e_Ml : (f_X5_minute_Ml nl pe ro ss lt who) = lt := (by simp only [f_X5_minute_Ml, if_neg c1, if_neg c2])
      exact eXi hx hb hr hlk hQ (by rw [e_M_3, e_Mr, e_Ms, e_Ml]; exact hP) (by rw [e_M_3, e_Mr, e_Ms, e_Ml]; exact hD) hS dX5_minute_30 (Eq.symm (by simp only [f_X5_minute, if_neg c1, if_neg c2]))
  · refine lv_bipush (v := (-102)) hx hb dX5_minute_18 (by decide) ?_
    have e_M_3 : (f_X5_minute_M_3 nl mi pe who) = mi := (by simp only [f_X5_minute_M_3, if_pos c1])
    have e_Mr : (f_X5_minute_Mr nl pe ro ss lt who) = ro := (by simp only [f_X5_minute_Mr, if_pos c1])
    have e_Ms : (f_X5_minute_Ms nl pe ro ss lt who) = ss := (by simp only [f_X5_minute_Ms, if_pos c1])
    have e_Ml : (f_X5_minute_Ml nl pe ro ss lt who) = lt := (by simp only [f_X5_minute_Ml, if_pos c1])
    exact eXi hx hb hr hlk hQ (by rw [e_M_3, e_Mr, e_Ms, e_Ml]; exact hP) (by rw [e_M_3, e_Mr, e_Ms, e_Ml]; exact hD) hS dX5_minute_20 (Eq.symm (by simp only [f_X5_minute, if_pos c1]))

def rm_X5_layLeast : Room := { frames := 2, cells := 0, slots := 0, locals := 47 }
def f_X5_layLeast_56_v4 (nl : Nat) (pe : Nat) (ro : Nat → Int32) (ss : Nat → Int32) (i2 : Nat) (mm : Nat) (o34_v4 : Int32) : Nat → Nat → Int32 → Int32 → (Nat → Int32) → Int32
  | 0, _, _, _, _ => 0
  | k56 + 1, i3, x56_v6, x56_v7, x56_Ml => (if nI mm ≤ nI i3 then (if x56_v7 = 0 then o34_v4 else (if o34_v4 = (-1) then x56_v6 else (if o34_v4 ≤ x56_v6 then o34_v4 else x56_v6))) else (if x56_v7 = 0 then o34_v4 else (if (f_X5_darkNow pe ss (f_X5_goesBy_Ml nl ro x56_Ml (f_X5_sectionsOf pe ss (nI (i2 / (2 ^ pe) ^ (mm - (i3 + 1)) % 2 ^ pe))))) = 0 then (f_X5_layLeast_56_v4 nl pe ro ss i2 mm o34_v4 k56 (i3 + 1) (x56_v6 + (f_X5_ones (nI (i2 / (2 ^ pe) ^ (mm - (i3 + 1)) % 2 ^ pe)))) 1 (f_X5_goesBy_Ml nl ro x56_Ml (f_X5_sectionsOf pe ss (nI (i2 / (2 ^ pe) ^ (mm - (i3 + 1)) % 2 ^ pe))))) else (f_X5_layLeast_56_v4 nl pe ro ss i2 mm o34_v4 k56 (i3 + 1) (x56_v6 + (f_X5_ones (nI (i2 / (2 ^ pe) ^ (mm - (i3 + 1)) % 2 ^ pe)))) 0 (f_X5_goesBy_Ml nl ro x56_Ml (f_X5_sectionsOf pe ss (nI (i2 / (2 ^ pe) ^ (mm - (i3 + 1)) % 2 ^ pe))))))))
def f_X5_layLeast_56_Ml (nl : Nat) (pe : Nat) (ro : Nat → Int32) (ss : Nat → Int32) (i2 : Nat) (mm : Nat) : Nat → Nat → Int32 → Int32 → (Nat → Int32) → (Nat → Int32)
  | 0, _, _, _, _ => (fun _ => 0)
  | k56 + 1, i3, x56_v6, x56_v7, x56_Ml => (if nI mm ≤ nI i3 then x56_Ml else (if x56_v7 = 0 then x56_Ml else (if (f_X5_darkNow pe ss (f_X5_goesBy_Ml nl ro x56_Ml (f_X5_sectionsOf pe ss (nI (i2 / (2 ^ pe) ^ (mm - (i3 + 1)) % 2 ^ pe))))) = 0 then (f_X5_layLeast_56_Ml nl pe ro ss i2 mm k56 (i3 + 1) (x56_v6 + (f_X5_ones (nI (i2 / (2 ^ pe) ^ (mm - (i3 + 1)) % 2 ^ pe)))) 1 (f_X5_goesBy_Ml nl ro x56_Ml (f_X5_sectionsOf pe ss (nI (i2 / (2 ^ pe) ^ (mm - (i3 + 1)) % 2 ^ pe))))) else (f_X5_layLeast_56_Ml nl pe ro ss i2 mm k56 (i3 + 1) (x56_v6 + (f_X5_ones (nI (i2 / (2 ^ pe) ^ (mm - (i3 + 1)) % 2 ^ pe)))) 0 (f_X5_goesBy_Ml nl ro x56_Ml (f_X5_sectionsOf pe ss (nI (i2 / (2 ^ pe) ^ (mm - (i3 + 1)) % 2 ^ pe))))))))
def f_X5_layLeast_56_M_9 (nl : Nat) (pe : Nat) (ro : Nat → Int32) (ss : Nat → Int32) (i2 : Nat) (mm : Nat) (o34_M_9 : Int32) (o34_v4 : Int32) : Nat → Nat → Int32 → Int32 → (Nat → Int32) → Int32
  | 0, _, _, _, _ => 0
  | k56 + 1, i3, x56_v6, x56_v7, x56_Ml => (if nI mm ≤ nI i3 then (if x56_v7 = 0 then o34_M_9 else (if o34_v4 = (-1) then nI i2 else (if o34_v4 ≤ x56_v6 then o34_M_9 else nI i2))) else (if x56_v7 = 0 then o34_M_9 else (if (f_X5_darkNow pe ss (f_X5_goesBy_Ml nl ro x56_Ml (f_X5_sectionsOf pe ss (nI (i2 / (2 ^ pe) ^ (mm - (i3 + 1)) % 2 ^ pe))))) = 0 then (f_X5_layLeast_56_M_9 nl pe ro ss i2 mm o34_M_9 o34_v4 k56 (i3 + 1) (x56_v6 + (f_X5_ones (nI (i2 / (2 ^ pe) ^ (mm - (i3 + 1)) % 2 ^ pe)))) 1 (f_X5_goesBy_Ml nl ro x56_Ml (f_X5_sectionsOf pe ss (nI (i2 / (2 ^ pe) ^ (mm - (i3 + 1)) % 2 ^ pe))))) else (f_X5_layLeast_56_M_9 nl pe ro ss i2 mm o34_M_9 o34_v4 k56 (i3 + 1) (x56_v6 + (f_X5_ones (nI (i2 / (2 ^ pe) ^ (mm - (i3 + 1)) % 2 ^ pe)))) 0 (f_X5_goesBy_Ml nl ro x56_Ml (f_X5_sectionsOf pe ss (nI (i2 / (2 ^ pe) ^ (mm - (i3 + 1)) % 2 ^ pe))))))))
def f_X5_layLeast_34_Ml (nl : Nat) (pe : Nat) (ro : Nat → Int32) (ss : Nat → Int32) (lt : Nat → Int32) (mm : Nat) : Nat → (Nat → Int32)
  | 0 => lt
  | i2 + 1 => (f_X5_layLeast_56_Ml nl pe ro ss i2 mm (mm + 1) 0 0 1 (f_X5_asItIs_Ml nl ro ((f_X5_layLeast_34_Ml nl pe ro ss lt mm i2))))
def f_X5_layLeast_Ml (nl : Nat) (pe : Nat) (ro : Nat → Int32) (ss : Nat → Int32) (lt : Nat → Int32) (mm : Nat) : Nat → Int32 := (f_X5_layLeast_34_Ml nl pe ro ss lt mm ((2 ^ pe) ^ mm))
def f_X5_layLeast_34_v4 (nl : Nat) (pe : Nat) (ro : Nat → Int32) (ss : Nat → Int32) (lt : Nat → Int32) (mm : Nat) : Nat → Int32
  | 0 => (-1)
  | i2 + 1 => (f_X5_layLeast_56_v4 nl pe ro ss i2 mm (f_X5_layLeast_34_v4 nl pe ro ss lt mm i2) (mm + 1) 0 0 1 (f_X5_asItIs_Ml nl ro ((f_X5_layLeast_34_Ml nl pe ro ss lt mm i2))))
def f_X5_layLeast_34_M_9 (nl : Nat) (pe : Nat) (bc : Int32) (ro : Nat → Int32) (ss : Nat → Int32) (lt : Nat → Int32) (mm : Nat) : Nat → Int32
  | 0 => bc
  | i2 + 1 => (f_X5_layLeast_56_M_9 nl pe ro ss i2 mm (f_X5_layLeast_34_M_9 nl pe bc ro ss lt mm i2) (f_X5_layLeast_34_v4 nl pe ro ss lt mm i2) (mm + 1) 0 0 1 (f_X5_asItIs_Ml nl ro ((f_X5_layLeast_34_Ml nl pe ro ss lt mm i2))))
def f_X5_layLeast (nl : Nat) (pe : Nat) (ro : Nat → Int32) (ss : Nat → Int32) (lt : Nat → Int32) (mm : Nat) : Int32 := (f_X5_layLeast_34_v4 nl pe ro ss lt mm ((2 ^ pe) ^ mm))
def f_X5_layLeast_M_9 (nl : Nat) (pe : Nat) (bc : Int32) (ro : Nat → Int32) (ss : Nat → Int32) (lt : Nat → Int32) (mm : Nat) : Int32 := (f_X5_layLeast_34_M_9 nl pe bc ro ss lt mm ((2 ^ pe) ^ mm))
theorem hd_X5_layLeast : yX5_layLeast.cls = RX5 ∧ yX5_layLeast.cls ≠ "java/lang/invoke/MethodHandle" ∧ yX5_layLeast.cls ≠ "java/lang/invoke/VarHandle" ∧ (parseMethodDescriptor yX5_layLeast.desc).map (fun d => d.parameters.length) = some 1 := by decide +kernel
set_option maxHeartbeats 4000000 in
set_option maxRecDepth 100000 in
theorem c_X5_layLeast (l : Launch) (D : va_G) (cI : ClassId) (aM aMp aMr aMs aMl aMg aMb aMo aMkr aMks aMkb : Nat) (ofr : Int32) (rd : Int32) (pl : Nat) (nl : Nat) (mi : Int32) (pe : Nat) (kmi : Int32) (kpe : Int32) (bc : Int32) (bk : Nat) (sd : Int32) (ko : Int32) (kbk : Int32) (ha : Int64) (ro : Nat → Int32) (ss : Nat → Int32) (lt : Nat → Int32) (mm : Nat) (hn : nl ≤ 6) (hpe : pe ≤ 4) (hss : ∀ j, j < pe → vp_in (ss (3 * j)) 6) (hm3 : mm ≤ 3) : MetX l yX5_layLeast wsX5_layLeast rm_X5_layLeast D cI [.ref aM, .int (nI mm)] [(aM, .inr (5, [.ref aMp, .int (nI pl), .int (nI nl), .int mi, .int ofr, .ref aMr, .int (nI pe), .ref aMs, .ref aMl, .int bc, .int rd, .ref aMg, .ref aMb, .int (nI bk), .ref aMo, .int sd, .int ko, .int kpe, .int kmi, .int kbk, .ref aMkr, .ref aMks, .ref aMkb, .long ha])), (aMr, .inl (cI, 18, .inl ro)), (aMs, .inl (cI, 12, .inl ss)), (aMl, .inl (cI, 6, .inl lt))] (some (.int (f_X5_layLeast nl pe ro ss lt mm))) [(aM, .inr (5, [.ref aMp, .int (nI pl), .int (nI nl), .int mi, .int ofr, .ref aMr, .int (nI pe), .ref aMs, .ref aMl, .int (f_X5_layLeast_M_9 nl pe bc ro ss lt mm), .int rd, .ref aMg, .ref aMb, .int (nI bk), .ref aMo, .int sd, .int ko, .int kpe, .int kmi, .int kbk, .ref aMkr, .ref aMks, .ref aMkb, .long ha])), (aMr, .inl (cI, 18, .inl ro)), (aMs, .inl (cI, 12, .inl ss)), (aMl, .inl (cI, 6, .inl (f_X5_layLeast_Ml nl pe ro ss lt mm)))] := by
  refine mX (cc := cX5_layLeast) (maxL := 11) (ret := (some .int)) (by decide) rfl (Nat.le_of_ble_eq_true rfl) ?_
  intro p e s m args below meth c Q A hx hb hr hml hown hts hlk hP hK hD hA hS hQ ls hl
  have hown : s.vm.findClass RX5 = some m.cls := hown
  have hl : lv_has ls 11 [(0, .ref aM), (1, .int (nI mm))] := hl
  have w1 := hts (.fieldLink RX5 73 "DarkOfficeModel" "people" "I") (List.mem_of_getElem? (i := 1) rfl)
  have uX5 : ∀ w ∈ wsX50, w ∈ wsX5_layLeast := fun _ h => List.mem_cons_of_mem _ (List.mem_append_right _ h)
  have w2 := hts (.fieldLink RX5 127 "DarkOfficeModel" "bestCode" "I") (List.mem_of_getElem? (i := 2) rfl)
  refine lv_iconst (v := 1) hx hb dX5_layLeast_0 (by decide) ?_
  refine lv_aload_n hx hb dX5_layLeast_1 rfl (lv_at hl 0 rfl) ?_
  refine va_get (D := D) (ci := 5) (v := .int (nI pe)) (C := RX5) (T := TX5) (N := 24) hx hb hts uX5 hown hK hP 0 rfl rfl 6 (by decide) w1 (fun _ h9 => h9) rfl dX5_layLeast_2 ?_
  refine lv_ishl hx hb dX5_layLeast_5 ?_
  refine tpi (y := nI (2 ^ pe)) (one_shl pe (by omega)) ?_
  refine lv_istore_n (lv' := [(2, .int (nI (2 ^ pe))), (0, .ref aM), (1, .int (nI mm))]) hx hb dX5_layLeast_6 rfl hl (by decide) rfl (fun ls hl => ?_)
  have hse := pw_se hpe
  have hco := pw_le (k := mm) hpe hm3
  refine lv_iconst (v := 1) hx hb dX5_layLeast_7 (by decide) ?_
  refine lv_istore_n (lv' := [(3, .int 1), (2, .int (nI (2 ^ pe))), (0, .ref aM), (1, .int (nI mm))]) hx hb dX5_layLeast_8 rfl hl (by decide) rfl (fun ls hl => ?_)
  refine lv_iconst (v := 0) hx hb dX5_layLeast_9 (by decide) ?_
  refine lv_istore (lv' := [(4, .int 0), (3, .int 1), (2, .int (nI (2 ^ pe))), (0, .ref aM), (1, .int (nI mm))]) hx hb dX5_layLeast_10 hl (by decide) rfl (fun ls hl => ?_)
  have lp12 : ∀ (k12 i1 : Nat), i1 + k12 = mm → ∀ (H : Heap) (locs : List Loc), va_P D vwCl [(aM, .inr (5, [.ref aMp, .int (nI pl), .int (nI nl), .int mi, .int ofr, .ref aMr, .int (nI pe), .ref aMs, .ref aMl, .int bc, .int rd, .ref aMg, .ref aMb, .int (nI bk), .ref aMo, .int sd, .int ko, .int kpe, .int kmi, .int kbk, .ref aMkr, .ref aMks, .ref aMkb, .long ha])), (aMr, .inl (cI, 18, .inl ro)), (aMs, .inl (cI, 12, .inl ss)), (aMl, .inl (cI, 6, .inl lt))] H → va_D A [(aM, .inr (5, [.ref aMp, .int (nI pl), .int (nI nl), .int mi, .int ofr, .ref aMr, .int (nI pe), .ref aMs, .ref aMl, .int bc, .int rd, .ref aMg, .ref aMb, .int (nI bk), .ref aMo, .int sd, .int ko, .int kpe, .int kmi, .int kbk, .ref aMkr, .ref aMks, .ref aMkb, .long ha])), (aMr, .inl (cI, 18, .inl ro)), (aMs, .inl (cI, 12, .inl ss)), (aMl, .inl (cI, 6, .inl lt))] → va_S A s.heap H locs → ∀ ls : Array Slot, lv_has ls 11 [(0, .ref aM), (1, .int (nI mm)), (2, .int (nI (2 ^ pe))), (3, .int (nI ((2 ^ pe) ^ i1))), (4, .int (nI i1))] → W p l e rm_X5_layLeast s m args below meth c H locs 0 0 Q (F0 m 12 ls []) := by
    intro k12
    induction k12 with
    | zero =>
      intro i1 hk12 H locs hP hD hS ls hl
      have hN12 : mm = i1 := by omega
      subst hN12
      refine lv_iload hx hb dX5_layLeast_12 (lv_at hl 4 rfl) ?_
      refine lv_iload_n hx hb dX5_layLeast_14 rfl (lv_at hl 1 rfl) ?_
      refine lv_icmp_ge (tgt := 28) hx hb dX5_layLeast_15 (by decide) (fun _ => ?_) (fun c => absurd (nle_t (a := mm) (b := mm) rfl rfl (by omega) (by omega) (by omega)) c)
      refine lv_iconst (v := (-1)) hx hb dX5_layLeast_28 (by decide) ?_
      refine lv_istore (lv' := [(4, .int (-1)), (0, .ref aM), (1, .int (nI mm)), (2, .int (nI (2 ^ pe))), (3, .int (nI ((2 ^ pe) ^ mm)))]) hx hb dX5_layLeast_29 hl (by decide) rfl (fun ls hl => ?_)
      refine lv_iconst (v := 0) hx hb dX5_layLeast_31 (by decide) ?_
      refine lv_istore (lv' := [(5, .int 0), (4, .int (-1)), (0, .ref aM), (1, .int (nI mm)), (2, .int (nI (2 ^ pe))), (3, .int (nI ((2 ^ pe) ^ mm)))]) hx hb dX5_layLeast_32 hl (by decide) rfl (fun ls hl => ?_)
      have lp34 : ∀ (k34 i2 : Nat), i2 + k34 = (2 ^ pe) ^ mm → ∀ (H : Heap) (locs : List Loc), va_P D vwCl [(aM, .inr (5, [.ref aMp, .int (nI pl), .int (nI nl), .int mi, .int ofr, .ref aMr, .int (nI pe), .ref aMs, .ref aMl, .int ((f_X5_layLeast_34_M_9 nl pe bc ro ss lt mm i2)), .int rd, .ref aMg, .ref aMb, .int (nI bk), .ref aMo, .int sd, .int ko, .int kpe, .int kmi, .int kbk, .ref aMkr, .ref aMks, .ref aMkb, .long ha])), (aMr, .inl (cI, 18, .inl ro)), (aMs, .inl (cI, 12, .inl ss)), (aMl, .inl (cI, 6, .inl ((f_X5_layLeast_34_Ml nl pe ro ss lt mm i2))))] H → va_D A [(aM, .inr (5, [.ref aMp, .int (nI pl), .int (nI nl), .int mi, .int ofr, .ref aMr, .int (nI pe), .ref aMs, .ref aMl, .int ((f_X5_layLeast_34_M_9 nl pe bc ro ss lt mm i2)), .int rd, .ref aMg, .ref aMb, .int (nI bk), .ref aMo, .int sd, .int ko, .int kpe, .int kmi, .int kbk, .ref aMkr, .ref aMks, .ref aMkb, .long ha])), (aMr, .inl (cI, 18, .inl ro)), (aMs, .inl (cI, 12, .inl ss)), (aMl, .inl (cI, 6, .inl ((f_X5_layLeast_34_Ml nl pe ro ss lt mm i2))))] → va_S A s.heap H locs → ∀ ls : Array Slot, lv_has ls 11 [(0, .ref aM), (1, .int (nI mm)), (2, .int (nI (2 ^ pe))), (3, .int (nI ((2 ^ pe) ^ mm))), (4, .int ((f_X5_layLeast_34_v4 nl pe ro ss lt mm i2))), (5, .int (nI i2))] → W p l e rm_X5_layLeast s m args below meth c H locs 0 0 Q (F0 m 34 ls []) := by
        intro k34
        induction k34 with
        | zero =>
          intro i2 hk34 H locs hP hD hS ls hl
          have hN34 : (2 ^ pe) ^ mm = i2 := by omega
          subst hN34
          refine lv_iload hx hb dX5_layLeast_34 (lv_at hl 5 rfl) ?_
          refine lv_iload_n hx hb dX5_layLeast_36 rfl (lv_at hl 3 rfl) ?_
          refine lv_icmp_ge (tgt := 156) hx hb dX5_layLeast_37 (by decide) (fun _ => ?_) (fun c => absurd (nle_t (a := (2 ^ pe) ^ mm) (b := ((2 ^ pe) ^ mm)) rfl rfl (by omega) (by omega) (by omega)) c)
          refine lv_iload hx hb dX5_layLeast_156 (lv_at hl 4 rfl) ?_
          have e_M_9 : (f_X5_layLeast_M_9 nl pe bc ro ss lt mm) = (f_X5_layLeast_34_M_9 nl pe bc ro ss lt mm ((2 ^ pe) ^ mm)) := (by simp only [f_X5_layLeast_M_9])
          have e_Ml : (f_X5_layLeast_Ml nl pe ro ss lt mm) = (f_X5_layLeast_34_Ml nl pe ro ss lt mm ((2 ^ pe) ^ mm)) := (by simp only [f_X5_layLeast_Ml])
          exact eXi hx hb hr hlk hQ (by rw [e_M_9, e_Ml]; exact hP) (by rw [e_M_9, e_Ml]; exact hD) hS dX5_layLeast_158 (Eq.symm (by simp only [f_X5_layLeast]))
        | succ k34 ih34 =>
          intro i2 hk34 H locs hP hD hS ls hl
          refine lv_iload hx hb dX5_layLeast_34 (lv_at hl 5 rfl) ?_
          refine lv_iload_n hx hb dX5_layLeast_36 rfl (lv_at hl 3 rfl) ?_
          refine lv_icmp_ge (tgt := 156) hx hb dX5_layLeast_37 (by decide) (fun c => absurd c (nle_f (a := (2 ^ pe) ^ mm) (b := i2) rfl rfl (by omega) (by omega) (by omega))) (fun _ => ?_)
          refine lv_iconst (v := 0) hx hb dX5_layLeast_40 (by decide) ?_
          refine lv_istore (lv' := [(6, .int 0), (0, .ref aM), (1, .int (nI mm)), (2, .int (nI (2 ^ pe))), (3, .int (nI ((2 ^ pe) ^ mm))), (4, .int ((f_X5_layLeast_34_v4 nl pe ro ss lt mm i2))), (5, .int (nI i2))]) hx hb dX5_layLeast_41 hl (by decide) rfl (fun ls hl => ?_)
          refine lv_iconst (v := 1) hx hb dX5_layLeast_43 (by decide) ?_
          refine lv_istore (lv' := [(7, .int 1), (6, .int 0), (0, .ref aM), (1, .int (nI mm)), (2, .int (nI (2 ^ pe))), (3, .int (nI ((2 ^ pe) ^ mm))), (4, .int ((f_X5_layLeast_34_v4 nl pe ro ss lt mm i2))), (5, .int (nI i2))]) hx hb dX5_layLeast_44 hl (by decide) rfl (fun ls hl => ?_)
          refine lv_aload_n hx hb dX5_layLeast_46 rfl (lv_at hl 2 rfl) ?_
          refine xV (w2 := [(aM, .inr (5, [.ref aMp, .int (nI pl), .int (nI nl), .int mi, .int ofr, .ref aMr, .int (nI pe), .ref aMs, .ref aMl, .int ((f_X5_layLeast_34_M_9 nl pe bc ro ss lt mm i2)), .int rd, .ref aMg, .ref aMb, .int (nI bk), .ref aMo, .int sd, .int ko, .int kpe, .int kmi, .int kbk, .ref aMkr, .ref aMks, .ref aMkb, .long ha])), (aMr, .inl (cI, 18, .inl ro)), (aMs, .inl (cI, 12, .inl ss)), (aMl, .inl (cI, 6, .inl (f_X5_asItIs_Ml nl ro ((f_X5_layLeast_34_Ml nl pe ro ss lt mm i2)))))]) ⟨hx, hb, hml, hown, hts⟩ (c_X5_asItIs l D cI aM aMp aMr aMs aMl aMg aMb aMo aMkr aMks aMkb ofr rd pl nl mi pe kmi kpe ((f_X5_layLeast_34_M_9 nl pe bc ro ss lt mm i2)) bk sd ko kbk ha ro ((f_X5_layLeast_34_Ml nl pe ro ss lt mm i2)) hn) (cwV 0 hts gX5_layLeast_X5_asItIs rfl rfl rfl hd_X5_asItIs ⟨Nat.le_of_ble_eq_true rfl, Nat.le_of_ble_eq_true rfl⟩) hK hP hD hS hA [0, 1, 3] [2] [1, 2, 0, 3] rfl rfl rfl rfl rfl (by decide) rfl rfl rfl 0 rfl rfl rfl rfl hl.1 (rest := []) (st' := []) rfl rfl (Nat.le_of_ble_eq_true rfl) dX5_layLeast_47 ⟨Nat.zero_le _, Nat.zero_le _⟩ (fun H locs hP hD hS => ?_)
          refine lv_iload_n hx hb dX5_layLeast_50 rfl (lv_at hl 5 rfl) ?_
          refine lv_istore (lv' := [(8, .int (nI ((2 ^ pe) ^ mm))), (7, .int 1), (6, .int 0), (0, .ref aM), (1, .int (nI mm)), (2, .int (nI (2 ^ pe))), (3, .int (nI ((2 ^ pe) ^ mm))), (4, .int ((f_X5_layLeast_34_v4 nl pe ro ss lt mm i2))), (5, .int (nI i2))]) hx hb dX5_layLeast_51 hl (by decide) rfl (fun ls hl => ?_)
          refine lv_iconst (v := 0) hx hb dX5_layLeast_53 (by decide) ?_
          refine lv_istore (lv' := [(9, .int 0), (8, .int (nI ((2 ^ pe) ^ mm))), (7, .int 1), (6, .int 0), (0, .ref aM), (1, .int (nI mm)), (2, .int (nI (2 ^ pe))), (3, .int (nI ((2 ^ pe) ^ mm))), (4, .int ((f_X5_layLeast_34_v4 nl pe ro ss lt mm i2))), (5, .int (nI i2))]) hx hb dX5_layLeast_54 hl (by decide) rfl (fun ls hl => ?_)
          have lp56 : ∀ (k56 : Nat) (i3 : Nat) (x56_v6 : Int32) (x56_v7 : Int32) (x56_Ml : Nat → Int32), i3 ≤ mm ∧ mm < i3 + k56 → ((f_X5_layLeast_34_v4 nl pe ro ss lt mm (i2 + 1)) = (f_X5_layLeast_56_v4 nl pe ro ss i2 mm (f_X5_layLeast_34_v4 nl pe ro ss lt mm i2) k56 i3 x56_v6 x56_v7 x56_Ml)) → ((f_X5_layLeast_34_Ml nl pe ro ss lt mm (i2 + 1)) = (f_X5_layLeast_56_Ml nl pe ro ss i2 mm k56 i3 x56_v6 x56_v7 x56_Ml)) → ((f_X5_layLeast_34_M_9 nl pe bc ro ss lt mm (i2 + 1)) = (f_X5_layLeast_56_M_9 nl pe ro ss i2 mm (f_X5_layLeast_34_M_9 nl pe bc ro ss lt mm i2) (f_X5_layLeast_34_v4 nl pe ro ss lt mm i2) k56 i3 x56_v6 x56_v7 x56_Ml)) → ∀ (H : Heap) (locs : List Loc), va_P D vwCl [(aM, .inr (5, [.ref aMp, .int (nI pl), .int (nI nl), .int mi, .int ofr, .ref aMr, .int (nI pe), .ref aMs, .ref aMl, .int ((f_X5_layLeast_34_M_9 nl pe bc ro ss lt mm i2)), .int rd, .ref aMg, .ref aMb, .int (nI bk), .ref aMo, .int sd, .int ko, .int kpe, .int kmi, .int kbk, .ref aMkr, .ref aMks, .ref aMkb, .long ha])), (aMr, .inl (cI, 18, .inl ro)), (aMs, .inl (cI, 12, .inl ss)), (aMl, .inl (cI, 6, .inl x56_Ml))] H → va_D A [(aM, .inr (5, [.ref aMp, .int (nI pl), .int (nI nl), .int mi, .int ofr, .ref aMr, .int (nI pe), .ref aMs, .ref aMl, .int ((f_X5_layLeast_34_M_9 nl pe bc ro ss lt mm i2)), .int rd, .ref aMg, .ref aMb, .int (nI bk), .ref aMo, .int sd, .int ko, .int kpe, .int kmi, .int kbk, .ref aMkr, .ref aMks, .ref aMkb, .long ha])), (aMr, .inl (cI, 18, .inl ro)), (aMs, .inl (cI, 12, .inl ss)), (aMl, .inl (cI, 6, .inl x56_Ml))] → va_S A s.heap H locs → ∀ ls : Array Slot, lv_has ls 11 [(0, .ref aM), (1, .int (nI mm)), (2, .int (nI (2 ^ pe))), (3, .int (nI ((2 ^ pe) ^ mm))), (4, .int ((f_X5_layLeast_34_v4 nl pe ro ss lt mm i2))), (5, .int (nI i2)), (6, .int x56_v6), (7, .int x56_v7), (8, .int (nI ((2 ^ pe) ^ (mm - i3)))), (9, .int (nI i3))] → W p l e rm_X5_layLeast s m args below meth c H locs 0 0 Q (F0 m 56 ls []) := by
            intro k56
            induction k56 with
            | zero =>
              intro i3 x56_v6 x56_v7 x56_Ml hh56 h56_v4 h56_Ml h56_M_9 H locs hP hD hS ls hl
              exact absurd hh56 (by omega)
            | succ k56 ih56 =>
              intro i3 x56_v6 x56_v7 x56_Ml hh56 h56_v4 h56_Ml h56_M_9 H locs hP hD hS ls hl
              refine lv_iload hx hb dX5_layLeast_56 (lv_at hl 9 rfl) ?_
              refine lv_iload_n hx hb dX5_layLeast_58 rfl (lv_at hl 1 rfl) ?_
              refine lv_icmp_ge (tgt := 122) hx hb dX5_layLeast_59 (by decide) (fun c1 => ?_) (fun c1 => ?_)
              · have q1 : mm ≤ i3 := nle_d (a := mm) (b := i3) rfl rfl (by omega) (by omega) c1
                refine lv_iload hx hb dX5_layLeast_122 (lv_at hl 7 rfl) ?_
                refine lv_if_eq (tgt := 150) hx hb dX5_layLeast_124 (by decide) (fun c2 => ?_) (fun c2 => ?_)
                · refine lv_iinc (v := nI (i2 + 1)) (lv' := [(5, .int (nI (i2 + 1))), (0, .ref aM), (1, .int (nI mm)), (2, .int (nI (2 ^ pe))), (3, .int (nI ((2 ^ pe) ^ mm))), (4, .int ((f_X5_layLeast_34_v4 nl pe ro ss lt mm i2))), (6, .int x56_v6), (7, .int x56_v7), (8, .int (nI ((2 ^ pe) ^ (mm - i3)))), (9, .int (nI i3))]) hx hb dX5_layLeast_150 hl (k := 5) rfl (nI_add i2 1) (by decide) rfl (fun ls hl => ?_)
                  refine lv_goto (tgt := 34) hx hb dX5_layLeast_153 (by decide) ?_
                  have e_v4 : (f_X5_layLeast_34_v4 nl pe ro ss lt mm (i2 + 1)) = (f_X5_layLeast_34_v4 nl pe ro ss lt mm i2) := (h56_v4.trans (by simp only [f_X5_layLeast_56_v4, if_pos c1, if_pos c2]))
                  have e_Ml : (f_X5_layLeast_34_Ml nl pe ro ss lt mm (i2 + 1)) = x56_Ml := (h56_Ml.trans (by simp only [f_X5_layLeast_56_Ml, if_pos c1, if_pos c2]))
                  have e_M_9 : (f_X5_layLeast_34_M_9 nl pe bc ro ss lt mm (i2 + 1)) = (f_X5_layLeast_34_M_9 nl pe bc ro ss lt mm i2) := (h56_M_9.trans (by simp only [f_X5_layLeast_56_M_9, if_pos c1, if_pos c2]))
                  exact ih34 (i2 + 1) (by omega) _ _ (by rw [e_Ml, e_M_9]; exact hP) (by rw [e_Ml, e_M_9]; exact hD) hS ls (by rw [e_v4]; exact lv_sub hl [1, 2, 3, 4, 5, 0] rfl)
                · refine lv_iload hx hb dX5_layLeast_127 (lv_at hl 4 rfl) ?_
                  refine lv_iconst (v := (-1)) hx hb dX5_layLeast_129 (by decide) ?_
                  refine lv_icmp_eq (tgt := 140) hx hb dX5_layLeast_130 (by decide) (fun c3 => ?_) (fun c3 => ?_)
                  · refine lv_iload hx hb dX5_layLeast_140 (lv_at hl 6 rfl) ?_
                    refine lv_istore (lv' := [(4, .int x56_v6), (0, .ref aM), (1, .int (nI mm)), (2, .int (nI (2 ^ pe))), (3, .int (nI ((2 ^ pe) ^ mm))), (5, .int (nI i2)), (6, .int x56_v6), (7, .int x56_v7), (8, .int (nI ((2 ^ pe) ^ (mm - i3)))), (9, .int (nI i3))]) hx hb dX5_layLeast_142 hl (by decide) rfl (fun ls hl => ?_)
                    refine lv_aload_n hx hb dX5_layLeast_144 rfl (lv_at hl 1 rfl) ?_
                    refine lv_iload hx hb dX5_layLeast_145 (lv_at hl 5 rfl) ?_
                    refine va_put (D := D) (ci := 5) (v := .int (nI i2)) (ty := .int) (C := RX5) (T := TX5) (N := 24) hx hb hts uX5 tyX5 tyX5_ok nmX5 hown hK hP hD hS 0 rfl rfl 9 (by decide) w2 (fun _ h9 => h9) rfl (by decide +kernel) rfl rfl (Nat.le_of_ble_eq_true rfl) dX5_layLeast_147 (fun H locs hP hD hS => ?_)
                    have hP : va_P D vwCl [(aM, .inr (5, [.ref aMp, .int (nI pl), .int (nI nl), .int mi, .int ofr, .ref aMr, .int (nI pe), .ref aMs, .ref aMl, .int (nI i2), .int rd, .ref aMg, .ref aMb, .int (nI bk), .ref aMo, .int sd, .int ko, .int kpe, .int kmi, .int kbk, .ref aMkr, .ref aMks, .ref aMkb, .long ha])), (aMr, .inl (cI, 18, .inl ro)), (aMs, .inl (cI, 12, .inl ss)), (aMl, .inl (cI, 6, .inl x56_Ml))] H := hP
                    have hD : va_D A [(aM, .inr (5, [.ref aMp, .int (nI pl), .int (nI nl), .int mi, .int ofr, .ref aMr, .int (nI pe), .ref aMs, .ref aMl, .int (nI i2), .int rd, .ref aMg, .ref aMb, .int (nI bk), .ref aMo, .int sd, .int ko, .int kpe, .int kmi, .int kbk, .ref aMkr, .ref aMks, .ref aMkb, .long ha])), (aMr, .inl (cI, 18, .inl ro)), (aMs, .inl (cI, 12, .inl ss)), (aMl, .inl (cI, 6, .inl x56_Ml))] := hD
                    refine lv_iinc (v := nI (i2 + 1)) (lv' := [(5, .int (nI (i2 + 1))), (4, .int x56_v6), (0, .ref aM), (1, .int (nI mm)), (2, .int (nI (2 ^ pe))), (3, .int (nI ((2 ^ pe) ^ mm))), (6, .int x56_v6), (7, .int x56_v7), (8, .int (nI ((2 ^ pe) ^ (mm - i3)))), (9, .int (nI i3))]) hx hb dX5_layLeast_150 hl (k := 5) rfl (nI_add i2 1) (by decide) rfl (fun ls hl => ?_)
                    refine lv_goto (tgt := 34) hx hb dX5_layLeast_153 (by decide) ?_
                    have e_v4 : (f_X5_layLeast_34_v4 nl pe ro ss lt mm (i2 + 1)) = x56_v6 := (h56_v4.trans (by simp only [f_X5_layLeast_56_v4, if_pos c1, if_neg c2, if_pos c3]))
                    have e_Ml : (f_X5_layLeast_34_Ml nl pe ro ss lt mm (i2 + 1)) = x56_Ml := (h56_Ml.trans (by simp only [f_X5_layLeast_56_Ml, if_pos c1, if_neg c2, if_pos c3]))
                    have e_M_9 : (f_X5_layLeast_34_M_9 nl pe bc ro ss lt mm (i2 + 1)) = nI i2 := (h56_M_9.trans (by simp only [f_X5_layLeast_56_M_9, if_pos c1, if_neg c2, if_pos c3]))
                    exact ih34 (i2 + 1) (by omega) _ _ (by rw [e_Ml, e_M_9]; exact hP) (by rw [e_Ml, e_M_9]; exact hD) hS ls (by rw [e_v4]; exact lv_sub hl [2, 3, 4, 5, 1, 0] rfl)
                  · refine lv_iload hx hb dX5_layLeast_133 (lv_at hl 6 rfl) ?_
                    refine lv_iload hx hb dX5_layLeast_135 (lv_at hl 4 rfl) ?_
                    refine lv_icmp_ge (tgt := 150) hx hb dX5_layLeast_137 (by decide) (fun c4 => ?_) (fun c4 => ?_)
                    · refine lv_iinc (v := nI (i2 + 1)) (lv' := [(5, .int (nI (i2 + 1))), (0, .ref aM), (1, .int (nI mm)), (2, .int (nI (2 ^ pe))), (3, .int (nI ((2 ^ pe) ^ mm))), (4, .int ((f_X5_layLeast_34_v4 nl pe ro ss lt mm i2))), (6, .int x56_v6), (7, .int x56_v7), (8, .int (nI ((2 ^ pe) ^ (mm - i3)))), (9, .int (nI i3))]) hx hb dX5_layLeast_150 hl (k := 5) rfl (nI_add i2 1) (by decide) rfl (fun ls hl => ?_)
                      refine lv_goto (tgt := 34) hx hb dX5_layLeast_153 (by decide) ?_
                      have e_v4 : (f_X5_layLeast_34_v4 nl pe ro ss lt mm (i2 + 1)) = (f_X5_layLeast_34_v4 nl pe ro ss lt mm i2) := (h56_v4.trans (by simp only [f_X5_layLeast_56_v4, if_pos c1, if_neg c2, if_neg c3, if_pos c4]))
                      have e_Ml : (f_X5_layLeast_34_Ml nl pe ro ss lt mm (i2 + 1)) = x56_Ml := (h56_Ml.trans (by simp only [f_X5_layLeast_56_Ml, if_pos c1, if_neg c2, if_neg c3, if_pos c4]))
                      have e_M_9 : (f_X5_layLeast_34_M_9 nl pe bc ro ss lt mm (i2 + 1)) = (f_X5_layLeast_34_M_9 nl pe bc ro ss lt mm i2) := (h56_M_9.trans (by simp only [f_X5_layLeast_56_M_9, if_pos c1, if_neg c2, if_neg c3, if_pos c4]))
                      exact ih34 (i2 + 1) (by omega) _ _ (by rw [e_Ml, e_M_9]; exact hP) (by rw [e_Ml, e_M_9]; exact hD) hS ls (by rw [e_v4]; exact lv_sub hl [1, 2, 3, 4, 5, 0] rfl)
                    · refine lv_iload hx hb dX5_layLeast_140 (lv_at hl 6 rfl) ?_
                      refine lv_istore (lv' := [(4, .int x56_v6), (0, .ref aM), (1, .int (nI mm)), (2, .int (nI (2 ^ pe))), (3, .int (nI ((2 ^ pe) ^ mm))), (5, .int (nI i2)), (6, .int x56_v6), (7, .int x56_v7), (8, .int (nI ((2 ^ pe) ^ (mm - i3)))), (9, .int (nI i3))]) hx hb dX5_layLeast_142 hl (by decide) rfl (fun ls hl => ?_)
                      refine lv_aload_n hx hb dX5_layLeast_144 rfl (lv_at hl 1 rfl) ?_
                      refine lv_iload hx hb dX5_layLeast_145 (lv_at hl 5 rfl) ?_
                      refine va_put (D := D) (ci := 5) (v := .int (nI i2)) (ty := .int) (C := RX5) (T := TX5) (N := 24) hx hb hts uX5 tyX5 tyX5_ok nmX5 hown hK hP hD hS 0 rfl rfl 9 (by decide) w2 (fun _ h9 => h9) rfl (by decide +kernel) rfl rfl (Nat.le_of_ble_eq_true rfl) dX5_layLeast_147 (fun H locs hP hD hS => ?_)
                      have hP : va_P D vwCl [(aM, .inr (5, [.ref aMp, .int (nI pl), .int (nI nl), .int mi, .int ofr, .ref aMr, .int (nI pe), .ref aMs, .ref aMl, .int (nI i2), .int rd, .ref aMg, .ref aMb, .int (nI bk), .ref aMo, .int sd, .int ko, .int kpe, .int kmi, .int kbk, .ref aMkr, .ref aMks, .ref aMkb, .long ha])), (aMr, .inl (cI, 18, .inl ro)), (aMs, .inl (cI, 12, .inl ss)), (aMl, .inl (cI, 6, .inl x56_Ml))] H := hP
                      have hD : va_D A [(aM, .inr (5, [.ref aMp, .int (nI pl), .int (nI nl), .int mi, .int ofr, .ref aMr, .int (nI pe), .ref aMs, .ref aMl, .int (nI i2), .int rd, .ref aMg, .ref aMb, .int (nI bk), .ref aMo, .int sd, .int ko, .int kpe, .int kmi, .int kbk, .ref aMkr, .ref aMks, .ref aMkb, .long ha])), (aMr, .inl (cI, 18, .inl ro)), (aMs, .inl (cI, 12, .inl ss)), (aMl, .inl (cI, 6, .inl x56_Ml))] := hD
                      refine lv_iinc (v := nI (i2 + 1)) (lv' := [(5, .int (nI (i2 + 1))), (4, .int x56_v6), (0, .ref aM), (1, .int (nI mm)), (2, .int (nI (2 ^ pe))), (3, .int (nI ((2 ^ pe) ^ mm))), (6, .int x56_v6), (7, .int x56_v7), (8, .int (nI ((2 ^ pe) ^ (mm - i3)))), (9, .int (nI i3))]) hx hb dX5_layLeast_150 hl (k := 5) rfl (nI_add i2 1) (by decide) rfl (fun ls hl => ?_)
                      refine lv_goto (tgt := 34) hx hb dX5_layLeast_153 (by decide) ?_
                      have e_v4 : (f_X5_layLeast_34_v4 nl pe ro ss lt mm (i2 + 1)) = x56_v6 := (h56_v4.trans (by simp only [f_X5_layLeast_56_v4, if_pos c1, if_neg c2, if_neg c3, if_neg c4]))
                      have e_Ml : (f_X5_layLeast_34_Ml nl pe ro ss lt mm (i2 + 1)) = x56_Ml := (h56_Ml.trans (by simp only [f_X5_layLeast_56_Ml, if_pos c1, if_neg c2, if_neg c3, if_neg c4]))
                      have e_M_9 : (f_X5_layLeast_34_M_9 nl pe bc ro ss lt mm (i2 + 1)) = nI i2 := (h56_M_9.trans (by simp only [f_X5_layLeast_56_M_9, if_pos c1, if_neg c2, if_neg c3, if_neg c4]))
                      exact ih34 (i2 + 1) (by omega) _ _ (by rw [e_Ml, e_M_9]; exact hP) (by rw [e_Ml, e_M_9]; exact hD) hS ls (by rw [e_v4]; exact lv_sub hl [2, 3, 4, 5, 1, 0] rfl)
              · have q1 : i3 < mm := nle_e (a := mm) (b := i3) rfl rfl (by omega) (by omega) c1
                refine lv_iload hx hb dX5_layLeast_62 (lv_at hl 7 rfl) ?_
                refine lv_if_eq (tgt := 122) hx hb dX5_layLeast_64 (by decide) (fun c5 => ?_) (fun c5 => ?_)
                · refine lv_iload hx hb dX5_layLeast_122 (lv_at hl 7 rfl) ?_
                  refine lv_if_eq (tgt := 150) hx hb dX5_layLeast_124 (by decide) (fun _ => ?_) (fun c => absurd c5 c)
                  refine lv_iinc (v := nI (i2 + 1)) (lv' := [(5, .int (nI (i2 + 1))), (0, .ref aM), (1, .int (nI mm)), (2, .int (nI (2 ^ pe))), (3, .int (nI ((2 ^ pe) ^ mm))), (4, .int ((f_X5_layLeast_34_v4 nl pe ro ss lt mm i2))), (6, .int x56_v6), (7, .int x56_v7), (8, .int (nI ((2 ^ pe) ^ (mm - i3)))), (9, .int (nI i3))]) hx hb dX5_layLeast_150 hl (k := 5) rfl (nI_add i2 1) (by decide) rfl (fun ls hl => ?_)
                  refine lv_goto (tgt := 34) hx hb dX5_layLeast_153 (by decide) ?_
                  have e_v4 : (f_X5_layLeast_34_v4 nl pe ro ss lt mm (i2 + 1)) = (f_X5_layLeast_34_v4 nl pe ro ss lt mm i2) := (h56_v4.trans (by simp only [f_X5_layLeast_56_v4, if_neg c1, if_pos c5]))
                  have e_Ml : (f_X5_layLeast_34_Ml nl pe ro ss lt mm (i2 + 1)) = x56_Ml := (h56_Ml.trans (by simp only [f_X5_layLeast_56_Ml, if_neg c1, if_pos c5]))
                  have e_M_9 : (f_X5_layLeast_34_M_9 nl pe bc ro ss lt mm (i2 + 1)) = (f_X5_layLeast_34_M_9 nl pe bc ro ss lt mm i2) := (h56_M_9.trans (by simp only [f_X5_layLeast_56_M_9, if_neg c1, if_pos c5]))
                  exact ih34 (i2 + 1) (by omega) _ _ (by rw [e_Ml, e_M_9]; exact hP) (by rw [e_Ml, e_M_9]; exact hD) hS ls (by rw [e_v4]; exact lv_sub hl [1, 2, 3, 4, 5, 0] rfl)
                · have hpw := pw_le (k := mm - (i3 + 1)) hpe (by omega)
                  refine lv_iload hx hb dX5_layLeast_67 (lv_at hl 8 rfl) ?_
                  refine lv_iload_n hx hb dX5_layLeast_69 rfl (lv_at hl 2 rfl) ?_
                  refine lv_idiv hx hb dX5_layLeast_70 (nI_ne0 (Nat.pow_pos (by decide)) (by omega)) ?_
                  refine tpi (y := nI ((2 ^ pe) ^ (mm - (i3 + 1)))) (pw_div hpe hm3 (by omega)) ?_
                  refine lv_istore (lv' := [(8, .int (nI ((2 ^ pe) ^ (mm - (i3 + 1))))), (0, .ref aM), (1, .int (nI mm)), (2, .int (nI (2 ^ pe))), (3, .int (nI ((2 ^ pe) ^ mm))), (4, .int ((f_X5_layLeast_34_v4 nl pe ro ss lt mm i2))), (5, .int (nI i2)), (6, .int x56_v6), (7, .int x56_v7), (9, .int (nI i3))]) hx hb dX5_layLeast_71 hl (by decide) rfl (fun ls hl => ?_)
                  refine lv_iload hx hb dX5_layLeast_73 (lv_at hl 6 rfl) ?_
                  refine lv_iload hx hb dX5_layLeast_75 (lv_at hl 0 rfl) ?_
                  refine lv_idiv hx hb dX5_layLeast_77 (nI_ne0 (Nat.pow_pos (Nat.pow_pos (by decide))) (by omega)) ?_
                  refine lv_iload_n hx hb dX5_layLeast_78 rfl (lv_at hl 3 rfl) ?_
                  refine lv_irem hx hb dX5_layLeast_79 (nI_ne0 (Nat.pow_pos (by decide)) (by omega)) ?_
                  refine tpi (y := nI (i2 / (2 ^ pe) ^ (mm - (i3 + 1)) % 2 ^ pe)) (pw_dig hpe (by omega) (by omega)) ?_
                  refine lv_istore (lv' := [(10, .int (nI (i2 / (2 ^ pe) ^ (mm - (i3 + 1)) % 2 ^ pe))), (8, .int (nI ((2 ^ pe) ^ (mm - (i3 + 1))))), (0, .ref aM), (1, .int (nI mm)), (2, .int (nI (2 ^ pe))), (3, .int (nI ((2 ^ pe) ^ mm))), (4, .int ((f_X5_layLeast_34_v4 nl pe ro ss lt mm i2))), (5, .int (nI i2)), (6, .int x56_v6), (7, .int x56_v7), (9, .int (nI i3))]) hx hb dX5_layLeast_80 hl (by decide) rfl (fun ls hl => ?_)
                  refine lv_iload hx hb dX5_layLeast_82 (lv_at hl 8 rfl) ?_
                  refine lv_iload hx hb dX5_layLeast_84 (lv_at hl 0 rfl) ?_
                  refine rS ⟨hx, hb, hml, hown, hts⟩ (c_X5_ones l D cI (nI (i2 / (2 ^ pe) ^ (mm - (i3 + 1)) % 2 ^ pe))) (va_cwS 1 hts gX5_layLeast_X5_ones rfl rfl rfl hd_X5_ones ⟨Nat.le_of_ble_eq_true rfl, Nat.le_of_ble_eq_true rfl⟩) hK (hP.sub [] rfl) rfl hl.1 (rest := [.int x56_v6]) (st' := [.int (f_X5_ones (nI (i2 / (2 ^ pe) ^ (mm - (i3 + 1)) % 2 ^ pe))), .int x56_v6]) rfl rfl (Nat.le_of_ble_eq_true rfl) dX5_layLeast_86 ⟨Nat.zero_le _, Nat.zero_le _⟩ ?_
                  refine lv_iadd hx hb dX5_layLeast_89 ?_
                  refine lv_istore (lv' := [(6, .int (x56_v6 + (f_X5_ones (nI (i2 / (2 ^ pe) ^ (mm - (i3 + 1)) % 2 ^ pe))))), (10, .int (nI (i2 / (2 ^ pe) ^ (mm - (i3 + 1)) % 2 ^ pe))), (8, .int (nI ((2 ^ pe) ^ (mm - (i3 + 1))))), (0, .ref aM), (1, .int (nI mm)), (2, .int (nI (2 ^ pe))), (3, .int (nI ((2 ^ pe) ^ mm))), (4, .int ((f_X5_layLeast_34_v4 nl pe ro ss lt mm i2))), (5, .int (nI i2)), (7, .int x56_v7), (9, .int (nI i3))]) hx hb dX5_layLeast_90 hl (by decide) rfl (fun ls hl => ?_)
                  refine lv_aload_n hx hb dX5_layLeast_92 rfl (lv_at hl 3 rfl) ?_
                  refine lv_aload_n hx hb dX5_layLeast_93 rfl (lv_at hl 3 rfl) ?_
                  refine lv_iload hx hb dX5_layLeast_94 (lv_at hl 1 rfl) ?_
                  refine rV ⟨hx, hb, hml, hown, hts⟩ (c_X5_sectionsOf l D cI aM aMp aMr aMs aMl aMg aMb aMo aMkr aMks aMkb ofr rd pl nl mi pe kmi kpe ((f_X5_layLeast_34_M_9 nl pe bc ro ss lt mm i2)) bk sd ko kbk ha ss (nI (i2 / (2 ^ pe) ^ (mm - (i3 + 1)) % 2 ^ pe)) hpe) (cwV 1 hts gX5_layLeast_X5_sectionsOf rfl rfl rfl hd_X5_sectionsOf ⟨Nat.le_of_ble_eq_true rfl, Nat.le_of_ble_eq_true rfl⟩) hK (hP.sub [0, 2] rfl) 0 rfl rfl rfl rfl hl.1 (rest := [.ref aM]) (st' := [.int (f_X5_sectionsOf pe ss (nI (i2 / (2 ^ pe) ^ (mm - (i3 + 1)) % 2 ^ pe))), .ref aM]) rfl rfl (Nat.le_of_ble_eq_true rfl) dX5_layLeast_96 ⟨Nat.zero_le _, Nat.zero_le _⟩ ?_
                  refine xV (w2 := [(aM, .inr (5, [.ref aMp, .int (nI pl), .int (nI nl), .int mi, .int ofr, .ref aMr, .int (nI pe), .ref aMs, .ref aMl, .int ((f_X5_layLeast_34_M_9 nl pe bc ro ss lt mm i2)), .int rd, .ref aMg, .ref aMb, .int (nI bk), .ref aMo, .int sd, .int ko, .int kpe, .int kmi, .int kbk, .ref aMkr, .ref aMks, .ref aMkb, .long ha])), (aMr, .inl (cI, 18, .inl ro)), (aMs, .inl (cI, 12, .inl ss)), (aMl, .inl (cI, 6, .inl (f_X5_goesBy_Ml nl ro x56_Ml (f_X5_sectionsOf pe ss (nI (i2 / (2 ^ pe) ^ (mm - (i3 + 1)) % 2 ^ pe))))))]) ⟨hx, hb, hml, hown, hts⟩ (c_X5_goesBy l D cI aM aMp aMr aMs aMl aMg aMb aMo aMkr aMks aMkb ofr rd pl nl mi pe kmi kpe ((f_X5_layLeast_34_M_9 nl pe bc ro ss lt mm i2)) bk sd ko kbk ha ro x56_Ml (f_X5_sectionsOf pe ss (nI (i2 / (2 ^ pe) ^ (mm - (i3 + 1)) % 2 ^ pe))) hn) (cwV 1 hts gX5_layLeast_X5_goesBy rfl rfl rfl hd_X5_goesBy ⟨Nat.le_of_ble_eq_true rfl, Nat.le_of_ble_eq_true rfl⟩) hK hP hD hS hA [0, 1, 3] [2] [1, 2, 0, 3] rfl rfl rfl rfl rfl (by decide) rfl rfl rfl 0 rfl rfl rfl rfl hl.1 (rest := []) (st' := []) rfl rfl (Nat.le_of_ble_eq_true rfl) dX5_layLeast_99 ⟨Nat.zero_le _, Nat.zero_le _⟩ (fun H locs hP hD hS => ?_)
                  refine lv_aload_n hx hb dX5_layLeast_102 rfl (lv_at hl 3 rfl) ?_
                  refine rV ⟨hx, hb, hml, hown, hts⟩ (c_X5_darkNow l D cI aM aMp aMr aMs aMl aMg aMb aMo aMkr aMks aMkb ofr rd pl nl mi pe kmi kpe ((f_X5_layLeast_34_M_9 nl pe bc ro ss lt mm i2)) bk sd ko kbk ha ss (f_X5_goesBy_Ml nl ro x56_Ml (f_X5_sectionsOf pe ss (nI (i2 / (2 ^ pe) ^ (mm - (i3 + 1)) % 2 ^ pe)))) hpe hss) (cwV 0 hts gX5_layLeast_X5_darkNow rfl rfl rfl hd_X5_darkNow ⟨Nat.le_of_ble_eq_true rfl, Nat.le_of_ble_eq_true rfl⟩) hK (hP.sub [0, 2, 3] rfl) 0 rfl rfl rfl rfl hl.1 (rest := []) (st' := [.int (f_X5_darkNow pe ss (f_X5_goesBy_Ml nl ro x56_Ml (f_X5_sectionsOf pe ss (nI (i2 / (2 ^ pe) ^ (mm - (i3 + 1)) % 2 ^ pe)))))]) rfl rfl (Nat.le_of_ble_eq_true rfl) dX5_layLeast_103 ⟨Nat.zero_le _, Nat.zero_le _⟩ ?_
                  refine lv_if_ne (tgt := 113) hx hb dX5_layLeast_106 (by decide) (fun c6 => ?_) (fun c6 => ?_)
                  · refine lv_iconst (v := 0) hx hb dX5_layLeast_113 (by decide) ?_
                    refine lv_istore (lv' := [(7, .int 0), (6, .int (x56_v6 + (f_X5_ones (nI (i2 / (2 ^ pe) ^ (mm - (i3 + 1)) % 2 ^ pe))))), (10, .int (nI (i2 / (2 ^ pe) ^ (mm - (i3 + 1)) % 2 ^ pe))), (8, .int (nI ((2 ^ pe) ^ (mm - (i3 + 1))))), (0, .ref aM), (1, .int (nI mm)), (2, .int (nI (2 ^ pe))), (3, .int (nI ((2 ^ pe) ^ mm))), (4, .int ((f_X5_layLeast_34_v4 nl pe ro ss lt mm i2))), (5, .int (nI i2)), (9, .int (nI i3))]) hx hb dX5_layLeast_114 hl (by decide) rfl (fun ls hl => ?_)
                    refine lv_iinc (v := nI (i3 + 1)) (lv' := [(9, .int (nI (i3 + 1))), (7, .int 0), (6, .int (x56_v6 + (f_X5_ones (nI (i2 / (2 ^ pe) ^ (mm - (i3 + 1)) % 2 ^ pe))))), (10, .int (nI (i2 / (2 ^ pe) ^ (mm - (i3 + 1)) % 2 ^ pe))), (8, .int (nI ((2 ^ pe) ^ (mm - (i3 + 1))))), (0, .ref aM), (1, .int (nI mm)), (2, .int (nI (2 ^ pe))), (3, .int (nI ((2 ^ pe) ^ mm))), (4, .int ((f_X5_layLeast_34_v4 nl pe ro ss lt mm i2))), (5, .int (nI i2))]) hx hb dX5_layLeast_116 hl (k := 10) rfl (nI_add i3 1) (by decide) rfl (fun ls hl => ?_)
                    refine lv_goto (tgt := 56) hx hb dX5_layLeast_119 (by decide) ?_
                    exact ih56 (i3 + 1) (x56_v6 + (f_X5_ones (nI (i2 / (2 ^ pe) ^ (mm - (i3 + 1)) % 2 ^ pe)))) 0 (f_X5_goesBy_Ml nl ro x56_Ml (f_X5_sectionsOf pe ss (nI (i2 / (2 ^ pe) ^ (mm - (i3 + 1)) % 2 ^ pe)))) (by omega) (h56_v4.trans (by simp only [f_X5_layLeast_56_v4, if_neg c1, if_neg c5, if_neg c6])) (h56_Ml.trans (by simp only [f_X5_layLeast_56_Ml, if_neg c1, if_neg c5, if_neg c6])) (h56_M_9.trans (by simp only [f_X5_layLeast_56_M_9, if_neg c1, if_neg c5, if_neg c6])) _ _ (hP) (hD) hS ls (lv_sub hl [5, 6, 7, 8, 9, 10, 2, 1, 4, 0] rfl)
                  · refine lv_iconst (v := 1) hx hb dX5_layLeast_109 (by decide) ?_
                    refine lv_goto (tgt := 114) hx hb dX5_layLeast_110 (by decide) ?_
                    refine lv_istore (lv' := [(7, .int 1), (6, .int (x56_v6 + (f_X5_ones (nI (i2 / (2 ^ pe) ^ (mm - (i3 + 1)) % 2 ^ pe))))), (10, .int (nI (i2 / (2 ^ pe) ^ (mm - (i3 + 1)) % 2 ^ pe))), (8, .int (nI ((2 ^ pe) ^ (mm - (i3 + 1))))), (0, .ref aM), (1, .int (nI mm)), (2, .int (nI (2 ^ pe))), (3, .int (nI ((2 ^ pe) ^ mm))), (4, .int ((f_X5_layLeast_34_v4 nl pe ro ss lt mm i2))), (5, .int (nI i2)), (9, .int (nI i3))]) hx hb dX5_layLeast_114 hl (by decide) rfl (fun ls hl => ?_)
                    refine lv_iinc (v := nI (i3 + 1)) (lv' := [(9, .int (nI (i3 + 1))), (7, .int 1), (6, .int (x56_v6 + (f_X5_ones (nI (i2 / (2 ^ pe) ^ (mm - (i3 + 1)) % 2 ^ pe))))), (10, .int (nI (i2 / (2 ^ pe) ^ (mm - (i3 + 1)) % 2 ^ pe))), (8, .int (nI ((2 ^ pe) ^ (mm - (i3 + 1))))), (0, .ref aM), (1, .int (nI mm)), (2, .int (nI (2 ^ pe))), (3, .int (nI ((2 ^ pe) ^ mm))), (4, .int ((f_X5_layLeast_34_v4 nl pe ro ss lt mm i2))), (5, .int (nI i2))]) hx hb dX5_layLeast_116 hl (k := 10) rfl (nI_add i3 1) (by decide) rfl (fun ls hl => ?_)
                    refine lv_goto (tgt := 56) hx hb dX5_layLeast_119 (by decide) ?_
                    exact ih56 (i3 + 1) (x56_v6 + (f_X5_ones (nI (i2 / (2 ^ pe) ^ (mm - (i3 + 1)) % 2 ^ pe)))) 1 (f_X5_goesBy_Ml nl ro x56_Ml (f_X5_sectionsOf pe ss (nI (i2 / (2 ^ pe) ^ (mm - (i3 + 1)) % 2 ^ pe)))) (by omega) (h56_v4.trans (by simp only [f_X5_layLeast_56_v4, if_neg c1, if_neg c5, if_pos c6])) (h56_Ml.trans (by simp only [f_X5_layLeast_56_Ml, if_neg c1, if_neg c5, if_pos c6])) (h56_M_9.trans (by simp only [f_X5_layLeast_56_M_9, if_neg c1, if_neg c5, if_pos c6])) _ _ (hP) (hD) hS ls (lv_sub hl [5, 6, 7, 8, 9, 10, 2, 1, 4, 0] rfl)
          exact lp56 (mm + 1) 0 0 1 (f_X5_asItIs_Ml nl ro ((f_X5_layLeast_34_Ml nl pe ro ss lt mm i2))) (by omega) (by simp only [f_X5_layLeast_34_v4]) (by simp only [f_X5_layLeast_34_Ml]) (by simp only [f_X5_layLeast_34_M_9]) _ _ hP hD hS ls (lv_sub hl [4, 5, 6, 7, 8, 9, 3, 2, 1, 0] rfl)
      exact lp34 ((2 ^ pe) ^ mm) 0 (by omega) _ _ hP hD hS ls (lv_sub hl [2, 3, 4, 5, 1, 0] rfl)
    | succ k12 ih12 =>
      intro i1 hk12 H locs hP hD hS ls hl
      refine lv_iload hx hb dX5_layLeast_12 (lv_at hl 4 rfl) ?_
      refine lv_iload_n hx hb dX5_layLeast_14 rfl (lv_at hl 1 rfl) ?_
      refine lv_icmp_ge (tgt := 28) hx hb dX5_layLeast_15 (by decide) (fun c => absurd c (nle_f (a := mm) (b := i1) rfl rfl (by omega) (by omega) (by omega))) (fun _ => ?_)
      refine lv_iload_n hx hb dX5_layLeast_18 rfl (lv_at hl 3 rfl) ?_
      refine lv_iload_n hx hb dX5_layLeast_19 rfl (lv_at hl 2 rfl) ?_
      refine lv_imul hx hb dX5_layLeast_20 ?_
      refine lv_istore_n (lv' := [(3, .int (nI ((2 ^ pe) ^ i1) * nI (2 ^ pe))), (0, .ref aM), (1, .int (nI mm)), (2, .int (nI (2 ^ pe))), (4, .int (nI i1))]) hx hb dX5_layLeast_21 rfl hl (by decide) rfl (fun ls hl => ?_)
      refine lv_iinc (v := nI (i1 + 1)) (lv' := [(4, .int (nI (i1 + 1))), (3, .int (nI ((2 ^ pe) ^ i1) * nI (2 ^ pe))), (0, .ref aM), (1, .int (nI mm)), (2, .int (nI (2 ^ pe)))]) hx hb dX5_layLeast_22 hl (k := 4) rfl (nI_add i1 1) (by decide) rfl (fun ls hl => ?_)
      refine lv_goto (tgt := 12) hx hb dX5_layLeast_25 (by decide) ?_
      have i_v3 : nI ((2 ^ pe) ^ (i1 + 1)) = (nI ((2 ^ pe) ^ i1) * nI (2 ^ pe)) := (Eq.symm (ix_mul (x := (2 ^ pe) ^ i1) (y := 2 ^ pe) rfl rfl))
      exact ih12 (i1 + 1) (by omega) _ _ (hP) (hD) hS ls (by rw [i_v3]; exact lv_sub hl [2, 3, 4, 1, 0] rfl)
  exact lp12 mm 0 (by omega) _ _ hP hD hS ls (lv_sub hl [3, 4, 2, 1, 0] rfl)

def rm_X5_leastOf : Room := { frames := 3, cells := 0, slots := 0, locals := 77 }
def f_X5_leastOf (nl : Nat) (pe : Nat) (bc : Int32) (ro : Nat → Int32) (ss : Nat → Int32) (lt : Nat → Int32) (mm : Nat) (what : Int32) : Int32 := (if what = 0 then (f_X5_layLeast nl pe ro ss lt mm) else (if nI mm ≤ (what - 10) then (-1) else (((f_X5_layLeast_M_9 nl pe bc ro ss lt mm) >>> ((nI pe * ((nI mm - 1) - (what - 10))) &&& 31)) &&& (((1 : Int32) <<< (nI pe &&& 31)) - 1))))
def f_X5_leastOf_M_9 (nl : Nat) (pe : Nat) (bc : Int32) (ro : Nat → Int32) (ss : Nat → Int32) (lt : Nat → Int32) (mm : Nat) : Int32 := (f_X5_layLeast_M_9 nl pe bc ro ss lt mm)
def f_X5_leastOf_Ml (nl : Nat) (pe : Nat) (ro : Nat → Int32) (ss : Nat → Int32) (lt : Nat → Int32) (mm : Nat) : Nat → Int32 := (f_X5_layLeast_Ml nl pe ro ss lt mm)
theorem hd_X5_leastOf : yX5_leastOf.cls = RX5 ∧ yX5_leastOf.cls ≠ "java/lang/invoke/MethodHandle" ∧ yX5_leastOf.cls ≠ "java/lang/invoke/VarHandle" ∧ (parseMethodDescriptor yX5_leastOf.desc).map (fun d => d.parameters.length) = some 2 := by decide +kernel
set_option maxHeartbeats 4000000 in
set_option maxRecDepth 100000 in
theorem c_X5_leastOf (l : Launch) (D : va_G) (cI : ClassId) (aM aMp aMr aMs aMl aMg aMb aMo aMkr aMks aMkb : Nat) (ofr : Int32) (rd : Int32) (pl : Nat) (nl : Nat) (mi : Int32) (pe : Nat) (kmi : Int32) (kpe : Int32) (bc : Int32) (bk : Nat) (sd : Int32) (ko : Int32) (kbk : Int32) (ha : Int64) (ro : Nat → Int32) (ss : Nat → Int32) (lt : Nat → Int32) (mm : Nat) (what : Int32) (hn : nl ≤ 6) (hpe : pe ≤ 4) (hss : ∀ j, j < pe → vp_in (ss (3 * j)) 6) (hm3 : mm ≤ 3) : MetX l yX5_leastOf wsX5_leastOf rm_X5_leastOf D cI [.ref aM, .int (nI mm), .int what] [(aM, .inr (5, [.ref aMp, .int (nI pl), .int (nI nl), .int mi, .int ofr, .ref aMr, .int (nI pe), .ref aMs, .ref aMl, .int bc, .int rd, .ref aMg, .ref aMb, .int (nI bk), .ref aMo, .int sd, .int ko, .int kpe, .int kmi, .int kbk, .ref aMkr, .ref aMks, .ref aMkb, .long ha])), (aMr, .inl (cI, 18, .inl ro)), (aMs, .inl (cI, 12, .inl ss)), (aMl, .inl (cI, 6, .inl lt))] (some (.int (f_X5_leastOf nl pe bc ro ss lt mm what))) [(aM, .inr (5, [.ref aMp, .int (nI pl), .int (nI nl), .int mi, .int ofr, .ref aMr, .int (nI pe), .ref aMs, .ref aMl, .int (f_X5_leastOf_M_9 nl pe bc ro ss lt mm), .int rd, .ref aMg, .ref aMb, .int (nI bk), .ref aMo, .int sd, .int ko, .int kpe, .int kmi, .int kbk, .ref aMkr, .ref aMks, .ref aMkb, .long ha])), (aMr, .inl (cI, 18, .inl ro)), (aMs, .inl (cI, 12, .inl ss)), (aMl, .inl (cI, 6, .inl (f_X5_leastOf_Ml nl pe ro ss lt mm)))] := by
  refine mX (cc := cX5_leastOf) (maxL := 5) (ret := (some .int)) (by decide) rfl (Nat.le_of_ble_eq_true rfl) ?_
  intro p e s m args below meth c Q A hx hb hr hml hown hts hlk hP hK hD hA hS hQ ls hl
  have hown : s.vm.findClass RX5 = some m.cls := hown
  have hl : lv_has ls 5 [(0, .ref aM), (1, .int (nI mm)), (2, .int what)] := hl
  have w1 := hts (.fieldLink RX5 127 "DarkOfficeModel" "bestCode" "I") (List.mem_of_getElem? (i := 1) rfl)
  have uX5 : ∀ w ∈ wsX50, w ∈ wsX5_leastOf := fun _ h => List.mem_cons_of_mem _ (List.mem_append_right _ h)
  have w2 := hts (.fieldLink RX5 73 "DarkOfficeModel" "people" "I") (List.mem_of_getElem? (i := 2) rfl)
  refine lv_aload_n hx hb dX5_leastOf_0 rfl (lv_at hl 0 rfl) ?_
  refine lv_iload_n hx hb dX5_leastOf_1 rfl (lv_at hl 1 rfl) ?_
  refine xV (w2 := [(aM, .inr (5, [.ref aMp, .int (nI pl), .int (nI nl), .int mi, .int ofr, .ref aMr, .int (nI pe), .ref aMs, .ref aMl, .int (f_X5_layLeast_M_9 nl pe bc ro ss lt mm), .int rd, .ref aMg, .ref aMb, .int (nI bk), .ref aMo, .int sd, .int ko, .int kpe, .int kmi, .int kbk, .ref aMkr, .ref aMks, .ref aMkb, .long ha])), (aMr, .inl (cI, 18, .inl ro)), (aMs, .inl (cI, 12, .inl ss)), (aMl, .inl (cI, 6, .inl (f_X5_layLeast_Ml nl pe ro ss lt mm)))]) ⟨hx, hb, hml, hown, hts⟩ (c_X5_layLeast l D cI aM aMp aMr aMs aMl aMg aMb aMo aMkr aMks aMkb ofr rd pl nl mi pe kmi kpe bc bk sd ko kbk ha ro ss lt mm hn hpe hss hm3) (cwV 1 hts gX5_leastOf_X5_layLeast rfl rfl rfl hd_X5_layLeast ⟨Nat.le_of_ble_eq_true rfl, Nat.le_of_ble_eq_true rfl⟩) hK hP hD hS hA [0, 1, 2, 3] [] [0, 1, 2, 3] rfl rfl rfl rfl rfl (by decide) rfl rfl rfl 0 rfl rfl rfl rfl hl.1 (rest := []) (st' := [.int (f_X5_layLeast nl pe ro ss lt mm)]) rfl rfl (Nat.le_of_ble_eq_true rfl) dX5_leastOf_2 ⟨Nat.zero_le _, Nat.zero_le _⟩ (fun H locs hP hD hS => ?_)
  refine lv_istore_n (lv' := [(3, .int (f_X5_layLeast nl pe ro ss lt mm)), (0, .ref aM), (1, .int (nI mm)), (2, .int what)]) hx hb dX5_leastOf_5 rfl hl (by decide) rfl (fun ls hl => ?_)
  refine lv_iload_n hx hb dX5_leastOf_6 rfl (lv_at hl 3 rfl) ?_
  refine lv_if_ne (tgt := 12) hx hb dX5_leastOf_7 (by decide) (fun c1 => ?_) (fun c1 => ?_)
  · refine lv_iload_n hx hb dX5_leastOf_12 rfl (lv_at hl 3 rfl) ?_
    refine lv_bipush (v := 10) hx hb dX5_leastOf_13 (by decide) ?_
    refine lv_isub hx hb dX5_leastOf_15 ?_
    refine lv_istore (lv' := [(4, .int (what - 10)), (3, .int (f_X5_layLeast nl pe ro ss lt mm)), (0, .ref aM), (1, .int (nI mm)), (2, .int what)]) hx hb dX5_leastOf_16 hl (by decide) rfl (fun ls hl => ?_)
    refine lv_iload hx hb dX5_leastOf_18 (lv_at hl 0 rfl) ?_
    refine lv_iload_n hx hb dX5_leastOf_20 rfl (lv_at hl 3 rfl) ?_
    refine lv_icmp_ge (tgt := 52) hx hb dX5_leastOf_21 (by decide) (fun c2 => ?_) (fun c2 => ?_)
    · refine lv_iconst (v := (-1)) hx hb dX5_leastOf_52 (by decide) ?_
      have e_M_9 : (f_X5_leastOf_M_9 nl pe bc ro ss lt mm) = (f_X5_layLeast_M_9 nl pe bc ro ss lt mm) := (by simp only [f_X5_leastOf_M_9, if_neg c1, if_pos c2])
      have e_Ml : (f_X5_leastOf_Ml nl pe ro ss lt mm) = (f_X5_layLeast_Ml nl pe ro ss lt mm) := (by simp only [f_X5_leastOf_Ml, if_neg c1, if_pos c2])
      exact eXi hx hb hr hlk hQ (by rw [e_M_9, e_Ml]; exact hP) (by rw [e_M_9, e_Ml]; exact hD) hS dX5_leastOf_53 (Eq.symm (by simp only [f_X5_leastOf, if_neg c1, if_pos c2]))
    · refine lv_aload_n hx hb dX5_leastOf_24 rfl (lv_at hl 2 rfl) ?_
      refine va_get (D := D) (ci := 5) (v := .int (f_X5_layLeast_M_9 nl pe bc ro ss lt mm)) (C := RX5) (T := TX5) (N := 24) hx hb hts uX5 hown hK hP 0 rfl rfl 9 (by decide) w1 (fun _ h9 => h9) rfl dX5_leastOf_25 ?_
      refine lv_aload_n hx hb dX5_leastOf_28 rfl (lv_at hl 2 rfl) ?_
      refine va_get (D := D) (ci := 5) (v := .int (nI pe)) (C := RX5) (T := TX5) (N := 24) hx hb hts uX5 hown hK hP 0 rfl rfl 6 (by decide) w2 (fun _ h9 => h9) rfl dX5_leastOf_29 ?_
      refine lv_iload_n hx hb dX5_leastOf_32 rfl (lv_at hl 3 rfl) ?_
      refine lv_iconst (v := 1) hx hb dX5_leastOf_33 (by decide) ?_
      refine lv_isub hx hb dX5_leastOf_34 ?_
      refine lv_iload hx hb dX5_leastOf_35 (lv_at hl 0 rfl) ?_
      refine lv_isub hx hb dX5_leastOf_37 ?_
      refine lv_imul hx hb dX5_leastOf_38 ?_
      refine lv_ishr hx hb dX5_leastOf_39 ?_
      refine lv_iconst (v := 1) hx hb dX5_leastOf_40 (by decide) ?_
      refine lv_aload_n hx hb dX5_leastOf_41 rfl (lv_at hl 2 rfl) ?_
      refine va_get (D := D) (ci := 5) (v := .int (nI pe)) (C := RX5) (T := TX5) (N := 24) hx hb hts uX5 hown hK hP 0 rfl rfl 6 (by decide) w2 (fun _ h9 => h9) rfl dX5_leastOf_42 ?_
      refine lv_ishl hx hb dX5_leastOf_45 ?_
      refine lv_iconst (v := 1) hx hb dX5_leastOf_46 (by decide) ?_
      refine lv_isub hx hb dX5_leastOf_47 ?_
      refine lv_iand hx hb dX5_leastOf_48 ?_
      refine lv_goto (tgt := 53) hx hb dX5_leastOf_49 (by decide) ?_
      have e_M_9 : (f_X5_leastOf_M_9 nl pe bc ro ss lt mm) = (f_X5_layLeast_M_9 nl pe bc ro ss lt mm) := (by simp only [f_X5_leastOf_M_9, if_neg c1, if_neg c2])
      have e_Ml : (f_X5_leastOf_Ml nl pe ro ss lt mm) = (f_X5_layLeast_Ml nl pe ro ss lt mm) := (by simp only [f_X5_leastOf_Ml, if_neg c1, if_neg c2])
      exact eXi hx hb hr hlk hQ (by rw [e_M_9, e_Ml]; exact hP) (by rw [e_M_9, e_Ml]; exact hD) hS dX5_leastOf_53 (Eq.symm (by simp only [f_X5_leastOf, if_neg c1, if_neg c2]))
  · refine lv_iload_n hx hb dX5_leastOf_10 rfl (lv_at hl 0 rfl) ?_
    have e_M_9 : (f_X5_leastOf_M_9 nl pe bc ro ss lt mm) = (f_X5_layLeast_M_9 nl pe bc ro ss lt mm) := (by simp only [f_X5_leastOf_M_9, if_pos c1])
    have e_Ml : (f_X5_leastOf_Ml nl pe ro ss lt mm) = (f_X5_layLeast_Ml nl pe ro ss lt mm) := (by simp only [f_X5_leastOf_Ml, if_pos c1])
    exact eXi hx hb hr hlk hQ (by rw [e_M_9, e_Ml]; exact hP) (by rw [e_M_9, e_Ml]; exact hD) hS dX5_leastOf_11 (Eq.symm (by simp only [f_X5_leastOf, if_pos c1]))

def rm_X5_least : Room := { frames := 4, cells := 0, slots := 0, locals := 101 }
def f_X5_least (nl : Nat) (pe : Nat) (bc : Int32) (ro : Nat → Int32) (ss : Nat → Int32) (lt : Nat → Int32) (many : Int32) (what : Int32) : Int32 := (if (f_X5_in (many.toInt64) 1 3) = 0 then (-102) else (if what = 0 then (if (f_X5_lacks nl) = 0 then (f_X5_leastOf nl pe bc ro ss lt (many.toNatClampNeg) what) else (-103)) else (if (f_X5_in (what.toInt64) 10 12) = 0 then (-102) else (if (f_X5_lacks nl) = 0 then (f_X5_leastOf nl pe bc ro ss lt (many.toNatClampNeg) what) else (-103)))))
def f_X5_least_M_9 (nl : Nat) (pe : Nat) (bc : Int32) (ro : Nat → Int32) (ss : Nat → Int32) (lt : Nat → Int32) (many : Int32) (what : Int32) : Int32 := (if (f_X5_in (many.toInt64) 1 3) = 0 then bc else (if what = 0 then (if (f_X5_lacks nl) = 0 then (f_X5_leastOf_M_9 nl pe bc ro ss lt (many.toNatClampNeg)) else bc) else (if (f_X5_in (what.toInt64) 10 12) = 0 then bc else (if (f_X5_lacks nl) = 0 then (f_X5_leastOf_M_9 nl pe bc ro ss lt (many.toNatClampNeg)) else bc))))
def f_X5_least_Ml (nl : Nat) (pe : Nat) (ro : Nat → Int32) (ss : Nat → Int32) (lt : Nat → Int32) (many : Int32) (what : Int32) : Nat → Int32 := (if (f_X5_in (many.toInt64) 1 3) = 0 then lt else (if what = 0 then (if (f_X5_lacks nl) = 0 then (f_X5_leastOf_Ml nl pe ro ss lt (many.toNatClampNeg)) else lt) else (if (f_X5_in (what.toInt64) 10 12) = 0 then lt else (if (f_X5_lacks nl) = 0 then (f_X5_leastOf_Ml nl pe ro ss lt (many.toNatClampNeg)) else lt))))
theorem hd_X5_least : yX5_least.cls = RX5 ∧ yX5_least.cls ≠ "java/lang/invoke/MethodHandle" ∧ yX5_least.cls ≠ "java/lang/invoke/VarHandle" ∧ (parseMethodDescriptor yX5_least.desc).map (fun d => d.parameters.length) = some 2 := by decide +kernel
set_option maxHeartbeats 4000000 in
set_option maxRecDepth 100000 in
theorem c_X5_least (l : Launch) (D : va_G) (cI : ClassId) (aM aMp aMr aMs aMl aMg aMb aMo aMkr aMks aMkb : Nat) (ofr : Int32) (rd : Int32) (pl : Nat) (nl : Nat) (mi : Int32) (pe : Nat) (kmi : Int32) (kpe : Int32) (bc : Int32) (bk : Nat) (sd : Int32) (ko : Int32) (kbk : Int32) (ha : Int64) (ro : Nat → Int32) (ss : Nat → Int32) (lt : Nat → Int32) (many : Int32) (what : Int32) (hn : nl ≤ 6) (hpe : pe ≤ 4) (hss : ∀ j, j < pe → vp_in (ss (3 * j)) 6) : MetX l yX5_least wsX5_least rm_X5_least D cI [.ref aM, .int many, .int what] [(aM, .inr (5, [.ref aMp, .int (nI pl), .int (nI nl), .int mi, .int ofr, .ref aMr, .int (nI pe), .ref aMs, .ref aMl, .int bc, .int rd, .ref aMg, .ref aMb, .int (nI bk), .ref aMo, .int sd, .int ko, .int kpe, .int kmi, .int kbk, .ref aMkr, .ref aMks, .ref aMkb, .long ha])), (aMr, .inl (cI, 18, .inl ro)), (aMs, .inl (cI, 12, .inl ss)), (aMl, .inl (cI, 6, .inl lt))] (some (.int (f_X5_least nl pe bc ro ss lt many what))) [(aM, .inr (5, [.ref aMp, .int (nI pl), .int (nI nl), .int mi, .int ofr, .ref aMr, .int (nI pe), .ref aMs, .ref aMl, .int (f_X5_least_M_9 nl pe bc ro ss lt many what), .int rd, .ref aMg, .ref aMb, .int (nI bk), .ref aMo, .int sd, .int ko, .int kpe, .int kmi, .int kbk, .ref aMkr, .ref aMks, .ref aMkb, .long ha])), (aMr, .inl (cI, 18, .inl ro)), (aMs, .inl (cI, 12, .inl ss)), (aMl, .inl (cI, 6, .inl (f_X5_least_Ml nl pe ro ss lt many what)))] := by
  refine mX (cc := cX5_least) (maxL := 3) (ret := (some .int)) (by decide) rfl (Nat.le_of_ble_eq_true rfl) ?_
  intro p e s m args below meth c Q A hx hb hr hml hown hts hlk hP hK hD hA hS hQ ls hl
  have hown : s.vm.findClass RX5 = some m.cls := hown
  have hl : lv_has ls 3 [(0, .ref aM), (1, .int many), (2, .int what)] := hl
  have w1 := hts (.constantLong RX5 133 (3)) (List.mem_of_getElem? (i := 1) rfl)
  have w2 := hts (.constantLong RX5 135 (10)) (List.mem_of_getElem? (i := 2) rfl)
  have w3 := hts (.constantLong RX5 137 (12)) (List.mem_of_getElem? (i := 3) rfl)
  refine lv_iload_n hx hb dX5_least_0 rfl (lv_at hl 1 rfl) ?_
  refine lv_i2l (v := many.toInt64) hx hb dX5_least_1 rfl ?_
  refine lv_lconst (v := 1) hx hb dX5_least_2 (by decide) ?_
  refine lv_ldc2 (v := 3) hx hb hown w1 dX5_least_3 ?_
  refine rS ⟨hx, hb, hml, hown, hts⟩ (c_X5_in l D cI (many.toInt64) 1 3) (va_cwS 3 hts gX5_least_X5_in rfl rfl rfl hd_X5_in ⟨Nat.le_of_ble_eq_true rfl, Nat.le_of_ble_eq_true rfl⟩) hK (hP.sub [] rfl) rfl hl.1 (rest := []) (st' := [.int (f_X5_in (many.toInt64) 1 3)]) rfl rfl (Nat.le_of_ble_eq_true rfl) dX5_least_6 ⟨Nat.zero_le _, Nat.zero_le _⟩ ?_
  refine lv_if_eq (tgt := 30) hx hb dX5_least_9 (by decide) (fun c1 => ?_) (fun c1 => ?_)
  · refine lv_bipush (v := (-102)) hx hb dX5_least_30 (by decide) ?_
    have e_M_9 : (f_X5_least_M_9 nl pe bc ro ss lt many what) = bc := (by simp only [f_X5_least_M_9, if_pos c1])
    have e_Ml : (f_X5_least_Ml nl pe ro ss lt many what) = lt := (by simp only [f_X5_least_Ml, if_pos c1])
    exact eXi hx hb hr hlk hQ (by rw [e_M_9, e_Ml]; exact hP) (by rw [e_M_9, e_Ml]; exact hD) hS dX5_least_32 (Eq.symm (by simp only [f_X5_least, if_pos c1]))
  · refine lv_iload_n hx hb dX5_least_12 rfl (lv_at hl 2 rfl) ?_
    refine lv_if_eq (tgt := 33) hx hb dX5_least_13 (by decide) (fun c2 => ?_) (fun c2 => ?_)
    · refine lv_aload_n hx hb dX5_least_33 rfl (lv_at hl 0 rfl) ?_
      refine rV ⟨hx, hb, hml, hown, hts⟩ (c_X5_lacks l D cI aM aMp aMr aMs aMl aMg aMb aMo aMkr aMks aMkb ofr rd pl nl mi pe kmi kpe bc bk sd ko kbk ha hn) (cwV 0 hts gX5_least_X5_lacks rfl rfl rfl hd_X5_lacks ⟨Nat.le_of_ble_eq_true rfl, Nat.le_of_ble_eq_true rfl⟩) hK (hP.sub [0] rfl) 0 rfl rfl rfl rfl hl.1 (rest := []) (st' := [.int (f_X5_lacks nl)]) rfl rfl (Nat.le_of_ble_eq_true rfl) dX5_least_34 ⟨Nat.zero_le _, Nat.zero_le _⟩ ?_
      refine lv_if_eq (tgt := 45) hx hb dX5_least_37 (by decide) (fun c3 => ?_) (fun c3 => ?_)
      · have hm1 := in_nat (v := many) (a := 1) (b := 3) rfl rfl (by decide) (by decide) c1
        have hm : many = nI many.toNatClampNeg := hm1.1
        have hm2 : many.toNatClampNeg ≤ 3 := hm1.2.2
        refine lv_aload_n hx hb dX5_least_45 rfl (lv_at hl 0 rfl) ?_
        refine lv_iload_n hx hb dX5_least_46 rfl (lv_at hl 1 rfl) ?_
        refine tpi (y := nI (many.toNatClampNeg)) hm ?_
        refine lv_iload_n hx hb dX5_least_47 rfl (lv_at hl 2 rfl) ?_
        refine xV (w2 := [(aM, .inr (5, [.ref aMp, .int (nI pl), .int (nI nl), .int mi, .int ofr, .ref aMr, .int (nI pe), .ref aMs, .ref aMl, .int (f_X5_leastOf_M_9 nl pe bc ro ss lt (many.toNatClampNeg)), .int rd, .ref aMg, .ref aMb, .int (nI bk), .ref aMo, .int sd, .int ko, .int kpe, .int kmi, .int kbk, .ref aMkr, .ref aMks, .ref aMkb, .long ha])), (aMr, .inl (cI, 18, .inl ro)), (aMs, .inl (cI, 12, .inl ss)), (aMl, .inl (cI, 6, .inl (f_X5_leastOf_Ml nl pe ro ss lt (many.toNatClampNeg))))]) ⟨hx, hb, hml, hown, hts⟩ (c_X5_leastOf l D cI aM aMp aMr aMs aMl aMg aMb aMo aMkr aMks aMkb ofr rd pl nl mi pe kmi kpe bc bk sd ko kbk ha ro ss lt (many.toNatClampNeg) what hn hpe hss hm2) (cwV 2 hts gX5_least_X5_leastOf rfl rfl rfl hd_X5_leastOf ⟨Nat.le_of_ble_eq_true rfl, Nat.le_of_ble_eq_true rfl⟩) hK hP hD hS hA [0, 1, 2, 3] [] [0, 1, 2, 3] rfl rfl rfl rfl rfl (by decide) rfl rfl rfl 0 rfl rfl rfl rfl hl.1 (rest := []) (st' := [.int (f_X5_leastOf nl pe bc ro ss lt (many.toNatClampNeg) what)]) rfl rfl (Nat.le_of_ble_eq_true rfl) dX5_least_48 ⟨Nat.zero_le _, Nat.zero_le _⟩ (fun H locs hP hD hS => ?_)
        have e_M_9 : (f_X5_least_M_9 nl pe bc ro ss lt many what) = (f_X5_leastOf_M_9 nl pe bc ro ss lt (many.toNatClampNeg)) := (by simp only [f_X5_least_M_9, if_neg c1, if_pos c2, if_pos c3])
        have e_Ml : (f_X5_least_Ml nl pe ro ss lt many what) = (f_X5_leastOf_Ml nl pe ro ss lt (many.toNatClampNeg)) := (by simp only [f_X5_least_Ml, if_neg c1, if_pos c2, if_pos c3])
        exact eXi hx hb hr hlk hQ (by rw [e_M_9, e_Ml]; exact hP) (by rw [e_M_9, e_Ml]; exact hD) hS dX5_least_51 (Eq.symm (by simp only [f_X5_least, if_neg c1, if_pos c2, if_pos c3]))
      · refine lv_bipush (v := (-103)) hx hb dX5_least_40 (by decide) ?_
        refine lv_goto (tgt := 51) hx hb dX5_least_42 (by decide) ?_
        have e_M_9 : (f_X5_least_M_9 nl pe bc ro ss lt many what) = bc := (by simp only [f_X5_least_M_9, if_neg c1, if_pos c2, if_neg c3])
        have e_Ml : (f_X5_least_Ml nl pe ro ss lt many what) = lt := (by simp only [f_X5_least_Ml, if_neg c1, if_pos c2, if_neg c3])
        exact eXi hx hb hr hlk hQ (by rw [e_M_9, e_Ml]; exact hP) (by rw [e_M_9, e_Ml]; exact hD) hS dX5_least_51 (Eq.symm (by simp only [f_X5_least, if_neg c1, if_pos c2, if_neg c3]))
    · refine lv_iload_n hx hb dX5_least_16 rfl (lv_at hl 2 rfl) ?_
      refine lv_i2l (v := what.toInt64) hx hb dX5_least_17 rfl ?_
      refine lv_ldc2 (v := 10) hx hb hown w2 dX5_least_18 ?_
      refine lv_ldc2 (v := 12) hx hb hown w3 dX5_least_21 ?_
      refine rS ⟨hx, hb, hml, hown, hts⟩ (c_X5_in l D cI (what.toInt64) 10 12) (va_cwS 3 hts gX5_least_X5_in rfl rfl rfl hd_X5_in ⟨Nat.le_of_ble_eq_true rfl, Nat.le_of_ble_eq_true rfl⟩) hK (hP.sub [] rfl) rfl hl.1 (rest := []) (st' := [.int (f_X5_in (what.toInt64) 10 12)]) rfl rfl (Nat.le_of_ble_eq_true rfl) dX5_least_24 ⟨Nat.zero_le _, Nat.zero_le _⟩ ?_
      refine lv_if_ne (tgt := 33) hx hb dX5_least_27 (by decide) (fun c4 => ?_) (fun c4 => ?_)
      · refine lv_aload_n hx hb dX5_least_33 rfl (lv_at hl 0 rfl) ?_
        refine rV ⟨hx, hb, hml, hown, hts⟩ (c_X5_lacks l D cI aM aMp aMr aMs aMl aMg aMb aMo aMkr aMks aMkb ofr rd pl nl mi pe kmi kpe bc bk sd ko kbk ha hn) (cwV 0 hts gX5_least_X5_lacks rfl rfl rfl hd_X5_lacks ⟨Nat.le_of_ble_eq_true rfl, Nat.le_of_ble_eq_true rfl⟩) hK (hP.sub [0] rfl) 0 rfl rfl rfl rfl hl.1 (rest := []) (st' := [.int (f_X5_lacks nl)]) rfl rfl (Nat.le_of_ble_eq_true rfl) dX5_least_34 ⟨Nat.zero_le _, Nat.zero_le _⟩ ?_
        refine lv_if_eq (tgt := 45) hx hb dX5_least_37 (by decide) (fun c5 => ?_) (fun c5 => ?_)
        · have hm1 := in_nat (v := many) (a := 1) (b := 3) rfl rfl (by decide) (by decide) c1
          have hm : many = nI many.toNatClampNeg := hm1.1
          have hm2 : many.toNatClampNeg ≤ 3 := hm1.2.2
          refine lv_aload_n hx hb dX5_least_45 rfl (lv_at hl 0 rfl) ?_
          refine lv_iload_n hx hb dX5_least_46 rfl (lv_at hl 1 rfl) ?_
          refine tpi (y := nI (many.toNatClampNeg)) hm ?_
          refine lv_iload_n hx hb dX5_least_47 rfl (lv_at hl 2 rfl) ?_
          refine xV (w2 := [(aM, .inr (5, [.ref aMp, .int (nI pl), .int (nI nl), .int mi, .int ofr, .ref aMr, .int (nI pe), .ref aMs, .ref aMl, .int (f_X5_leastOf_M_9 nl pe bc ro ss lt (many.toNatClampNeg)), .int rd, .ref aMg, .ref aMb, .int (nI bk), .ref aMo, .int sd, .int ko, .int kpe, .int kmi, .int kbk, .ref aMkr, .ref aMks, .ref aMkb, .long ha])), (aMr, .inl (cI, 18, .inl ro)), (aMs, .inl (cI, 12, .inl ss)), (aMl, .inl (cI, 6, .inl (f_X5_leastOf_Ml nl pe ro ss lt (many.toNatClampNeg))))]) ⟨hx, hb, hml, hown, hts⟩ (c_X5_leastOf l D cI aM aMp aMr aMs aMl aMg aMb aMo aMkr aMks aMkb ofr rd pl nl mi pe kmi kpe bc bk sd ko kbk ha ro ss lt (many.toNatClampNeg) what hn hpe hss hm2) (cwV 2 hts gX5_least_X5_leastOf rfl rfl rfl hd_X5_leastOf ⟨Nat.le_of_ble_eq_true rfl, Nat.le_of_ble_eq_true rfl⟩) hK hP hD hS hA [0, 1, 2, 3] [] [0, 1, 2, 3] rfl rfl rfl rfl rfl (by decide) rfl rfl rfl 0 rfl rfl rfl rfl hl.1 (rest := []) (st' := [.int (f_X5_leastOf nl pe bc ro ss lt (many.toNatClampNeg) what)]) rfl rfl (Nat.le_of_ble_eq_true rfl) dX5_least_48 ⟨Nat.zero_le _, Nat.zero_le _⟩ (fun H locs hP hD hS => ?_)
          have e_M_9 : (f_X5_least_M_9 nl pe bc ro ss lt many what) = (f_X5_leastOf_M_9 nl pe bc ro ss lt (many.toNatClampNeg)) := (by simp only [f_X5_least_M_9, if_neg c1, if_neg c2, if_neg c4, if_pos c5])
          have e_Ml : (f_X5_least_Ml nl pe ro ss lt many what) = (f_X5_leastOf_Ml nl pe ro ss lt (many.toNatClampNeg)) := (by simp only [f_X5_least_Ml, if_neg c1, if_neg c2, if_neg c4, if_pos c5])
          exact eXi hx hb hr hlk hQ (by rw [e_M_9, e_Ml]; exact hP) (by rw [e_M_9, e_Ml]; exact hD) hS dX5_least_51 (Eq.symm (by simp only [f_X5_least, if_neg c1, if_neg c2, if_neg c4, if_pos c5]))
        · refine lv_bipush (v := (-103)) hx hb dX5_least_40 (by decide) ?_
          refine lv_goto (tgt := 51) hx hb dX5_least_42 (by decide) ?_
          have e_M_9 : (f_X5_least_M_9 nl pe bc ro ss lt many what) = bc := (by simp only [f_X5_least_M_9, if_neg c1, if_neg c2, if_neg c4, if_neg c5])
          have e_Ml : (f_X5_least_Ml nl pe ro ss lt many what) = lt := (by simp only [f_X5_least_Ml, if_neg c1, if_neg c2, if_neg c4, if_neg c5])
          exact eXi hx hb hr hlk hQ (by rw [e_M_9, e_Ml]; exact hP) (by rw [e_M_9, e_Ml]; exact hD) hS dX5_least_51 (Eq.symm (by simp only [f_X5_least, if_neg c1, if_neg c2, if_neg c4, if_neg c5]))
      · refine lv_bipush (v := (-102)) hx hb dX5_least_30 (by decide) ?_
        have e_M_9 : (f_X5_least_M_9 nl pe bc ro ss lt many what) = bc := (by simp only [f_X5_least_M_9, if_neg c1, if_neg c2, if_pos c4])
        have e_Ml : (f_X5_least_Ml nl pe ro ss lt many what) = lt := (by simp only [f_X5_least_Ml, if_neg c1, if_neg c2, if_pos c4])
        exact eXi hx hb hr hlk hQ (by rw [e_M_9, e_Ml]; exact hP) (by rw [e_M_9, e_Ml]; exact hD) hS dX5_least_32 (Eq.symm (by simp only [f_X5_least, if_neg c1, if_neg c2, if_pos c4]))

def rm_X5_areAllLit : Room := { frames := 0, cells := 0, slots := 0, locals := 0 }
def f_X5_areAllLit_4_v1 (lt : Nat → Int32) : Nat → Int32
  | 0 => 1
  | i1 + 1 => (if (f_X5_areAllLit_4_v1 lt i1) = 0 then 0 else (if (lt i1) ≤ 0 then 0 else 1))
def f_X5_areAllLit (nl : Nat) (lt : Nat → Int32) : Int32 := (f_X5_areAllLit_4_v1 lt nl)
theorem all01 (lt : Nat → Int32) : ∀ i, f_X5_areAllLit_4_v1 lt i = 0 ∨ f_X5_areAllLit_4_v1 lt i = 1
  | 0 => Or.inr rfl
  | i + 1 => by
    rw [f_X5_areAllLit_4_v1]
    (repeat' split) <;> first | exact Or.inl rfl | exact Or.inr rfl
theorem hd_X5_areAllLit : yX5_areAllLit.cls = RX5 ∧ yX5_areAllLit.cls ≠ "java/lang/invoke/MethodHandle" ∧ yX5_areAllLit.cls ≠ "java/lang/invoke/VarHandle" ∧ (parseMethodDescriptor yX5_areAllLit.desc).map (fun d => d.parameters.length) = some 0 := by decide +kernel
set_option maxHeartbeats 4000000 in
set_option maxRecDepth 100000 in
theorem c_X5_areAllLit (l : Launch) (D : va_G) (cI : ClassId) (aM aMp aMr aMs aMl aMg aMb aMo aMkr aMks aMkb : Nat) (ofr : Int32) (rd : Int32) (pl : Nat) (nl : Nat) (mi : Int32) (pe : Nat) (kmi : Int32) (kpe : Int32) (bc : Int32) (bk : Nat) (sd : Int32) (ko : Int32) (kbk : Int32) (ha : Int64) (lt : Nat → Int32) (hn : nl ≤ 6) : MetR l yX5_areAllLit wsX5_areAllLit rm_X5_areAllLit D cI [.ref aM] [(aM, .inr (5, [.ref aMp, .int (nI pl), .int (nI nl), .int mi, .int ofr, .ref aMr, .int (nI pe), .ref aMs, .ref aMl, .int bc, .int rd, .ref aMg, .ref aMb, .int (nI bk), .ref aMo, .int sd, .int ko, .int kpe, .int kmi, .int kbk, .ref aMkr, .ref aMks, .ref aMkb, .long ha])), (aMl, .inl (cI, 6, .inl lt))] (some (.int (f_X5_areAllLit nl lt))) := by
  refine mR (cc := cX5_areAllLit) (maxL := 3) (ret := (some .boolean)) (by decide) rfl (Nat.le_of_ble_eq_true rfl) ?_
  intro p e s m args below meth c Q hx hb hr hml hown hts hlk hP hK hQ ls hl
  have hown : s.vm.findClass RX5 = some m.cls := hown
  have hl : lv_has ls 3 [(0, .ref aM)] := hl
  have w1 := hts (.fieldLink RX5 67 "DarkOfficeModel" "lamps" "I") (List.mem_of_getElem? (i := 1) rfl)
  have uX5 : ∀ w ∈ wsX50, w ∈ wsX5_areAllLit := fun _ h => List.mem_cons_of_mem _ (List.mem_append_right _ h)
  have w2 := hts (.fieldLink RX5 19 "DarkOfficeModel" "lit" "[I") (List.mem_of_getElem? (i := 2) rfl)
  refine lv_iconst (v := 1) hx hb dX5_areAllLit_0 (by decide) ?_
  refine lv_istore_n (lv' := [(1, .int 1), (0, .ref aM)]) hx hb dX5_areAllLit_1 rfl hl (by decide) rfl (fun ls hl => ?_)
  refine lv_iconst (v := 0) hx hb dX5_areAllLit_2 (by decide) ?_
  refine lv_istore_n (lv' := [(2, .int 0), (1, .int 1), (0, .ref aM)]) hx hb dX5_areAllLit_3 rfl hl (by decide) rfl (fun ls hl => ?_)
  have lp4 : ∀ (k4 i1 : Nat), i1 + k4 = nl → ∀ ls : Array Slot, lv_has ls 3 [(0, .ref aM), (1, .int ((f_X5_areAllLit_4_v1 lt i1))), (2, .int (nI i1))] → W p l e rm_X5_areAllLit s m args below meth c s.heap [] 0 0 Q (F0 m 4 ls []) := by
    intro k4
    induction k4 with
    | zero =>
      intro i1 hk4 ls hl
      have hN4 : nl = i1 := by omega
      subst hN4
      refine lv_iload_n hx hb dX5_areAllLit_4 rfl (lv_at hl 2 rfl) ?_
      refine lv_aload_n hx hb dX5_areAllLit_5 rfl (lv_at hl 0 rfl) ?_
      refine va_get (D := D) (ci := 5) (v := .int (nI nl)) (C := RX5) (T := TX5) (N := 24) hx hb hts uX5 hown hK hP 0 rfl rfl 2 (by decide) w1 (fun _ h9 => h9) rfl dX5_areAllLit_6 ?_
      refine lv_icmp_ge (tgt := 37) hx hb dX5_areAllLit_9 (by decide) (fun _ => ?_) (fun c => absurd (nle_t (a := nl) (b := nl) rfl rfl (by omega) (by omega) (by omega)) c)
      refine lv_iload_n hx hb dX5_areAllLit_37 rfl (lv_at hl 1 rfl) ?_
      exact eRz hx hb hr hlk hQ dX5_areAllLit_38 (nar01 (all01 _ _)) (Eq.symm (by simp only [f_X5_areAllLit]))
    | succ k4 ih4 =>
      intro i1 hk4 ls hl
      refine lv_iload_n hx hb dX5_areAllLit_4 rfl (lv_at hl 2 rfl) ?_
      refine lv_aload_n hx hb dX5_areAllLit_5 rfl (lv_at hl 0 rfl) ?_
      refine va_get (D := D) (ci := 5) (v := .int (nI nl)) (C := RX5) (T := TX5) (N := 24) hx hb hts uX5 hown hK hP 0 rfl rfl 2 (by decide) w1 (fun _ h9 => h9) rfl dX5_areAllLit_6 ?_
      refine lv_icmp_ge (tgt := 37) hx hb dX5_areAllLit_9 (by decide) (fun c => absurd c (nle_f (a := nl) (b := i1) rfl rfl (by omega) (by omega) (by omega))) (fun _ => ?_)
      refine lv_iload_n hx hb dX5_areAllLit_12 rfl (lv_at hl 1 rfl) ?_
      refine lv_if_eq (tgt := 29) hx hb dX5_areAllLit_13 (by decide) (fun c1 => ?_) (fun c1 => ?_)
      · refine lv_iconst (v := 0) hx hb dX5_areAllLit_29 (by decide) ?_
        refine lv_istore_n (lv' := [(1, .int 0), (0, .ref aM), (2, .int (nI i1))]) hx hb dX5_areAllLit_30 rfl hl (by decide) rfl (fun ls hl => ?_)
        refine lv_iinc (v := nI (i1 + 1)) (lv' := [(2, .int (nI (i1 + 1))), (1, .int 0), (0, .ref aM)]) hx hb dX5_areAllLit_31 hl (k := 2) rfl (nI_add i1 1) (by decide) rfl (fun ls hl => ?_)
        refine lv_goto (tgt := 4) hx hb dX5_areAllLit_34 (by decide) ?_
        have e_v1 : (f_X5_areAllLit_4_v1 lt (i1 + 1)) = 0 := (by simp only [f_X5_areAllLit_4_v1, if_pos c1])
        exact ih4 (i1 + 1) (by omega) ls (by rw [e_v1]; exact lv_sub hl [2, 1, 0] rfl)
      · refine lv_aload_n hx hb dX5_areAllLit_16 rfl (lv_at hl 0 rfl) ?_
        refine va_get (D := D) (ci := 5) (v := .ref aMl) (C := RX5) (T := TX5) (N := 24) hx hb hts uX5 hown hK hP 0 rfl rfl 8 (by decide) w2 (fun _ h9 => h9) rfl dX5_areAllLit_17 ?_
        refine lv_iload_n hx hb dX5_areAllLit_20 rfl (lv_at hl 2 rfl) ?_
        refine xald hx hb hK hP 1 rfl i1 rfl (by omega) (by decide) dX5_areAllLit_21 ?_
        refine lv_if_le (tgt := 29) hx hb dX5_areAllLit_22 (by decide) (fun c2 => ?_) (fun c2 => ?_)
        · refine lv_iconst (v := 0) hx hb dX5_areAllLit_29 (by decide) ?_
          refine lv_istore_n (lv' := [(1, .int 0), (0, .ref aM), (2, .int (nI i1))]) hx hb dX5_areAllLit_30 rfl hl (by decide) rfl (fun ls hl => ?_)
          refine lv_iinc (v := nI (i1 + 1)) (lv' := [(2, .int (nI (i1 + 1))), (1, .int 0), (0, .ref aM)]) hx hb dX5_areAllLit_31 hl (k := 2) rfl (nI_add i1 1) (by decide) rfl (fun ls hl => ?_)
          refine lv_goto (tgt := 4) hx hb dX5_areAllLit_34 (by decide) ?_
          have e_v1 : (f_X5_areAllLit_4_v1 lt (i1 + 1)) = 0 := (by simp only [f_X5_areAllLit_4_v1, if_neg c1, if_pos c2])
          exact ih4 (i1 + 1) (by omega) ls (by rw [e_v1]; exact lv_sub hl [2, 1, 0] rfl)
        · refine lv_iconst (v := 1) hx hb dX5_areAllLit_25 (by decide) ?_
          refine lv_goto (tgt := 30) hx hb dX5_areAllLit_26 (by decide) ?_
          refine lv_istore_n (lv' := [(1, .int 1), (0, .ref aM), (2, .int (nI i1))]) hx hb dX5_areAllLit_30 rfl hl (by decide) rfl (fun ls hl => ?_)
          refine lv_iinc (v := nI (i1 + 1)) (lv' := [(2, .int (nI (i1 + 1))), (1, .int 1), (0, .ref aM)]) hx hb dX5_areAllLit_31 hl (k := 2) rfl (nI_add i1 1) (by decide) rfl (fun ls hl => ?_)
          refine lv_goto (tgt := 4) hx hb dX5_areAllLit_34 (by decide) ?_
          have e_v1 : (f_X5_areAllLit_4_v1 lt (i1 + 1)) = 1 := (by simp only [f_X5_areAllLit_4_v1, if_neg c1, if_neg c2])
          exact ih4 (i1 + 1) (by omega) ls (by rw [e_v1]; exact lv_sub hl [2, 1, 0] rfl)
  exact lp4 nl 0 (by omega) ls (lv_sub hl [2, 1, 0] rfl)

theorem allR01 (nl : Nat) (lt : Nat → Int32) : f_X5_areAllLit nl lt = 0 ∨ f_X5_areAllLit nl lt = 1 := all01 lt nl

def rm_X5_isRound : Room := { frames := 2, cells := 0, slots := 0, locals := 47 }
def f_X5_isRound_46_r (nl : Nat) (ro : Nat → Int32) (mm : Nat) : Nat → Nat → Int32 → (Nat → Int32) → (Nat → Int32) → Int32
  | 0, _, _, _, _ => 0
  | k46 + 1, i2, x46_v5, x46_Ml, x46_Mg => (if nI mm ≤ nI i2 then (f_X5_areAllLit nl x46_Ml) else (if (f_X5_isLamp nl x46_v5) = 0 then 0 else (if x46_v5 = 0 then (if (nI mm - 1) ≤ nI i2 then (f_X5_isRound_46_r nl ro mm k46 (i2 + 1) (x46_v5 + 0) (f_X5_goesBy_Ml nl ro x46_Ml ((1 : Int32) <<< (x46_v5 &&& 31))) (upd x46_Mg (mm - 1) 1)) else (f_X5_isRound_46_r nl ro mm k46 (i2 + 1) (x46_v5 + (((upd x46_Mg (mm - 1) 1) i2) - 1)) (f_X5_goesBy_Ml nl ro x46_Ml ((1 : Int32) <<< (x46_v5 &&& 31))) (upd x46_Mg (mm - 1) 1))) else (if (nI mm - 1) ≤ nI i2 then (f_X5_isRound_46_r nl ro mm k46 (i2 + 1) (x46_v5 + 0) (f_X5_goesBy_Ml nl ro x46_Ml ((1 : Int32) <<< (x46_v5 &&& 31))) (upd x46_Mg (mm - 1) 0)) else (f_X5_isRound_46_r nl ro mm k46 (i2 + 1) (x46_v5 + (((upd x46_Mg (mm - 1) 0) i2) - 1)) (f_X5_goesBy_Ml nl ro x46_Ml ((1 : Int32) <<< (x46_v5 &&& 31))) (upd x46_Mg (mm - 1) 0))))))
def f_X5_isRound_46_Ml (nl : Nat) (ro : Nat → Int32) (mm : Nat) : Nat → Nat → Int32 → (Nat → Int32) → (Nat → Int32) → (Nat → Int32)
  | 0, _, _, _, _ => (fun _ => 0)
  | k46 + 1, i2, x46_v5, x46_Ml, x46_Mg => (if nI mm ≤ nI i2 then x46_Ml else (if (f_X5_isLamp nl x46_v5) = 0 then x46_Ml else (if x46_v5 = 0 then (if (nI mm - 1) ≤ nI i2 then (f_X5_isRound_46_Ml nl ro mm k46 (i2 + 1) (x46_v5 + 0) (f_X5_goesBy_Ml nl ro x46_Ml ((1 : Int32) <<< (x46_v5 &&& 31))) (upd x46_Mg (mm - 1) 1)) else (f_X5_isRound_46_Ml nl ro mm k46 (i2 + 1) (x46_v5 + (((upd x46_Mg (mm - 1) 1) i2) - 1)) (f_X5_goesBy_Ml nl ro x46_Ml ((1 : Int32) <<< (x46_v5 &&& 31))) (upd x46_Mg (mm - 1) 1))) else (if (nI mm - 1) ≤ nI i2 then (f_X5_isRound_46_Ml nl ro mm k46 (i2 + 1) (x46_v5 + 0) (f_X5_goesBy_Ml nl ro x46_Ml ((1 : Int32) <<< (x46_v5 &&& 31))) (upd x46_Mg (mm - 1) 0)) else (f_X5_isRound_46_Ml nl ro mm k46 (i2 + 1) (x46_v5 + (((upd x46_Mg (mm - 1) 0) i2) - 1)) (f_X5_goesBy_Ml nl ro x46_Ml ((1 : Int32) <<< (x46_v5 &&& 31))) (upd x46_Mg (mm - 1) 0))))))
def f_X5_isRound_46_Mg (nl : Nat) (ro : Nat → Int32) (mm : Nat) : Nat → Nat → Int32 → (Nat → Int32) → (Nat → Int32) → (Nat → Int32)
  | 0, _, _, _, _ => (fun _ => 0)
  | k46 + 1, i2, x46_v5, x46_Ml, x46_Mg => (if nI mm ≤ nI i2 then x46_Mg else (if (f_X5_isLamp nl x46_v5) = 0 then x46_Mg else (if x46_v5 = 0 then (if (nI mm - 1) ≤ nI i2 then (f_X5_isRound_46_Mg nl ro mm k46 (i2 + 1) (x46_v5 + 0) (f_X5_goesBy_Ml nl ro x46_Ml ((1 : Int32) <<< (x46_v5 &&& 31))) (upd x46_Mg (mm - 1) 1)) else (f_X5_isRound_46_Mg nl ro mm k46 (i2 + 1) (x46_v5 + (((upd x46_Mg (mm - 1) 1) i2) - 1)) (f_X5_goesBy_Ml nl ro x46_Ml ((1 : Int32) <<< (x46_v5 &&& 31))) (upd x46_Mg (mm - 1) 1))) else (if (nI mm - 1) ≤ nI i2 then (f_X5_isRound_46_Mg nl ro mm k46 (i2 + 1) (x46_v5 + 0) (f_X5_goesBy_Ml nl ro x46_Ml ((1 : Int32) <<< (x46_v5 &&& 31))) (upd x46_Mg (mm - 1) 0)) else (f_X5_isRound_46_Mg nl ro mm k46 (i2 + 1) (x46_v5 + (((upd x46_Mg (mm - 1) 0) i2) - 1)) (f_X5_goesBy_Ml nl ro x46_Ml ((1 : Int32) <<< (x46_v5 &&& 31))) (upd x46_Mg (mm - 1) 0))))))
def f_X5_isRound_8_r (nl : Nat) (ro : Nat → Int32) (lt : Nat → Int32) (mm : Nat) (sect : Int32) : Nat → Nat → Int32 → (Nat → Int32) → Int32
  | 0, _, _, _ => 0
  | k8 + 1, i1, x8_v4, x8_Mg => (if (dI i1) < 0 then (f_X5_isRound_46_r nl ro mm (mm + 1) 0 sect (f_X5_asItIs_Ml nl ro lt) x8_Mg) else (f_X5_isRound_8_r nl ro lt mm sect k8 (i1 - 1) (x8_v4 / 3) (upd x8_Mg (i1 - 1) (x8_v4 - x8_v4 / 3 * 3))))
def f_X5_isRound_8_Ml (nl : Nat) (ro : Nat → Int32) (lt : Nat → Int32) (mm : Nat) (sect : Int32) : Nat → Nat → Int32 → (Nat → Int32) → (Nat → Int32)
  | 0, _, _, _ => (fun _ => 0)
  | k8 + 1, i1, x8_v4, x8_Mg => (if (dI i1) < 0 then (f_X5_isRound_46_Ml nl ro mm (mm + 1) 0 sect (f_X5_asItIs_Ml nl ro lt) x8_Mg) else (f_X5_isRound_8_Ml nl ro lt mm sect k8 (i1 - 1) (x8_v4 / 3) (upd x8_Mg (i1 - 1) (x8_v4 - x8_v4 / 3 * 3))))
def f_X5_isRound_8_Mg (nl : Nat) (ro : Nat → Int32) (lt : Nat → Int32) (mm : Nat) (sect : Int32) : Nat → Nat → Int32 → (Nat → Int32) → (Nat → Int32)
  | 0, _, _, _ => (fun _ => 0)
  | k8 + 1, i1, x8_v4, x8_Mg => (if (dI i1) < 0 then (f_X5_isRound_46_Mg nl ro mm (mm + 1) 0 sect (f_X5_asItIs_Ml nl ro lt) x8_Mg) else (f_X5_isRound_8_Mg nl ro lt mm sect k8 (i1 - 1) (x8_v4 / 3) (upd x8_Mg (i1 - 1) (x8_v4 - x8_v4 / 3 * 3))))
def f_X5_isRound (nl : Nat) (ro : Nat → Int32) (lt : Nat → Int32) (go : Nat → Int32) (code : Int32) (mm : Nat) (sect : Int32) : Int32 := (f_X5_isRound_8_r nl ro lt mm sect mm (mm - 1) code go)
def f_X5_isRound_Ml (nl : Nat) (ro : Nat → Int32) (lt : Nat → Int32) (go : Nat → Int32) (code : Int32) (mm : Nat) (sect : Int32) : Nat → Int32 := (f_X5_isRound_8_Ml nl ro lt mm sect mm (mm - 1) code go)
def f_X5_isRound_Mg (nl : Nat) (ro : Nat → Int32) (lt : Nat → Int32) (go : Nat → Int32) (code : Int32) (mm : Nat) (sect : Int32) : Nat → Int32 := (f_X5_isRound_8_Mg nl ro lt mm sect mm (mm - 1) code go)
theorem hd_X5_isRound : yX5_isRound.cls = RX5 ∧ yX5_isRound.cls ≠ "java/lang/invoke/MethodHandle" ∧ yX5_isRound.cls ≠ "java/lang/invoke/VarHandle" ∧ (parseMethodDescriptor yX5_isRound.desc).map (fun d => d.parameters.length) = some 3 := by decide +kernel
set_option maxHeartbeats 4000000 in
set_option maxRecDepth 100000 in
theorem c_X5_isRound (l : Launch) (D : va_G) (cI : ClassId) (aM aMp aMr aMs aMl aMg aMb aMo aMkr aMks aMkb : Nat) (ofr : Int32) (rd : Int32) (pl : Nat) (nl : Nat) (mi : Int32) (pe : Nat) (kmi : Int32) (kpe : Int32) (bc : Int32) (bk : Nat) (sd : Int32) (ko : Int32) (kbk : Int32) (ha : Int64) (ro : Nat → Int32) (lt : Nat → Int32) (go : Nat → Int32) (code : Int32) (mm : Nat) (sect : Int32) (hn : nl ≤ 6) (hm7 : mm ≤ 7) (hm1 : 1 ≤ mm) : MetX l yX5_isRound wsX5_isRound rm_X5_isRound D cI [.ref aM, .int sect, .int (nI mm), .int code] [(aM, .inr (5, [.ref aMp, .int (nI pl), .int (nI nl), .int mi, .int ofr, .ref aMr, .int (nI pe), .ref aMs, .ref aMl, .int bc, .int rd, .ref aMg, .ref aMb, .int (nI bk), .ref aMo, .int sd, .int ko, .int kpe, .int kmi, .int kbk, .ref aMkr, .ref aMks, .ref aMkb, .long ha])), (aMr, .inl (cI, 18, .inl ro)), (aMl, .inl (cI, 6, .inl lt)), (aMg, .inl (cI, 7, .inl go))] (some (.int (f_X5_isRound nl ro lt go code mm sect))) [(aM, .inr (5, [.ref aMp, .int (nI pl), .int (nI nl), .int mi, .int ofr, .ref aMr, .int (nI pe), .ref aMs, .ref aMl, .int bc, .int rd, .ref aMg, .ref aMb, .int (nI bk), .ref aMo, .int sd, .int ko, .int kpe, .int kmi, .int kbk, .ref aMkr, .ref aMks, .ref aMkb, .long ha])), (aMr, .inl (cI, 18, .inl ro)), (aMl, .inl (cI, 6, .inl (f_X5_isRound_Ml nl ro lt go code mm sect))), (aMg, .inl (cI, 7, .inl (f_X5_isRound_Mg nl ro lt go code mm sect)))] := by
  refine mX (cc := cX5_isRound) (maxL := 7) (ret := (some .boolean)) (by decide) rfl (Nat.le_of_ble_eq_true rfl) ?_
  intro p e s m args below meth c Q A hx hb hr hml hown hts hlk hP hK hD hA hS hQ ls hl
  have hown : s.vm.findClass RX5 = some m.cls := hown
  have hl : lv_has ls 7 [(0, .ref aM), (1, .int sect), (2, .int (nI mm)), (3, .int code)] := hl
  have w1 := hts (.fieldLink RX5 22 "DarkOfficeModel" "going" "[I") (List.mem_of_getElem? (i := 1) rfl)
  have uX5 : ∀ w ∈ wsX50, w ∈ wsX5_isRound := fun _ h => List.mem_cons_of_mem _ (List.mem_append_right _ h)
  refine lv_iload_n hx hb dX5_isRound_0 rfl (lv_at hl 3 rfl) ?_
  refine lv_istore (lv' := [(4, .int code), (0, .ref aM), (1, .int sect), (2, .int (nI mm)), (3, .int code)]) hx hb dX5_isRound_1 hl (by decide) rfl (fun ls hl => ?_)
  refine lv_iload_n hx hb dX5_isRound_3 rfl (lv_at hl 3 rfl) ?_
  refine lv_iconst (v := 2) hx hb dX5_isRound_4 (by decide) ?_
  refine lv_isub hx hb dX5_isRound_5 ?_
  refine tpi (y := (dI (mm - 1))) (many2 mm hm7 hm1) ?_
  refine lv_istore (lv' := [(5, .int (dI (mm - 1))), (4, .int code), (0, .ref aM), (1, .int sect), (2, .int (nI mm)), (3, .int code)]) hx hb dX5_isRound_6 hl (by decide) rfl (fun ls hl => ?_)
  have lp8 : ∀ (k8 : Nat) (i1 : Nat) (x8_v4 : Int32) (x8_Mg : Nat → Int32), i1 < k8 ∧ i1 < mm → ((f_X5_isRound nl ro lt go code mm sect) = (f_X5_isRound_8_r nl ro lt mm sect k8 i1 x8_v4 x8_Mg)) → ((f_X5_isRound_Ml nl ro lt go code mm sect) = (f_X5_isRound_8_Ml nl ro lt mm sect k8 i1 x8_v4 x8_Mg)) → ((f_X5_isRound_Mg nl ro lt go code mm sect) = (f_X5_isRound_8_Mg nl ro lt mm sect k8 i1 x8_v4 x8_Mg)) → ∀ (H : Heap) (locs : List Loc), va_P D vwCl [(aM, .inr (5, [.ref aMp, .int (nI pl), .int (nI nl), .int mi, .int ofr, .ref aMr, .int (nI pe), .ref aMs, .ref aMl, .int bc, .int rd, .ref aMg, .ref aMb, .int (nI bk), .ref aMo, .int sd, .int ko, .int kpe, .int kmi, .int kbk, .ref aMkr, .ref aMks, .ref aMkb, .long ha])), (aMr, .inl (cI, 18, .inl ro)), (aMl, .inl (cI, 6, .inl lt)), (aMg, .inl (cI, 7, .inl x8_Mg))] H → va_D A [(aM, .inr (5, [.ref aMp, .int (nI pl), .int (nI nl), .int mi, .int ofr, .ref aMr, .int (nI pe), .ref aMs, .ref aMl, .int bc, .int rd, .ref aMg, .ref aMb, .int (nI bk), .ref aMo, .int sd, .int ko, .int kpe, .int kmi, .int kbk, .ref aMkr, .ref aMks, .ref aMkb, .long ha])), (aMr, .inl (cI, 18, .inl ro)), (aMl, .inl (cI, 6, .inl lt)), (aMg, .inl (cI, 7, .inl x8_Mg))] → va_S A s.heap H locs → ∀ ls : Array Slot, lv_has ls 7 [(0, .ref aM), (1, .int sect), (2, .int (nI mm)), (4, .int x8_v4), (5, .int (dI i1))] → W p l e rm_X5_isRound s m args below meth c H locs 0 0 Q (F0 m 8 ls []) := by
    intro k8
    induction k8 with
    | zero =>
      intro i1 x8_v4 x8_Mg hh8 h8_r h8_Ml h8_Mg H locs hP hD hS ls hl
      exact absurd hh8 (by omega)
    | succ k8 ih8 =>
      intro i1 x8_v4 x8_Mg hh8 h8_r h8_Ml h8_Mg H locs hP hD hS ls hl
      refine lv_iload hx hb dX5_isRound_8 (lv_at hl 4 rfl) ?_
      refine lv_if_lt (tgt := 36) hx hb dX5_isRound_10 (by decide) (fun c1 => ?_) (fun c1 => ?_)
      · refine lv_aload_n hx hb dX5_isRound_36 rfl (lv_at hl 0 rfl) ?_
        refine xV (w2 := [(aM, .inr (5, [.ref aMp, .int (nI pl), .int (nI nl), .int mi, .int ofr, .ref aMr, .int (nI pe), .ref aMs, .ref aMl, .int bc, .int rd, .ref aMg, .ref aMb, .int (nI bk), .ref aMo, .int sd, .int ko, .int kpe, .int kmi, .int kbk, .ref aMkr, .ref aMks, .ref aMkb, .long ha])), (aMr, .inl (cI, 18, .inl ro)), (aMl, .inl (cI, 6, .inl (f_X5_asItIs_Ml nl ro lt))), (aMg, .inl (cI, 7, .inl x8_Mg))]) ⟨hx, hb, hml, hown, hts⟩ (c_X5_asItIs l D cI aM aMp aMr aMs aMl aMg aMb aMo aMkr aMks aMkb ofr rd pl nl mi pe kmi kpe bc bk sd ko kbk ha ro lt hn) (cwV 0 hts gX5_isRound_X5_asItIs rfl rfl rfl hd_X5_asItIs ⟨Nat.le_of_ble_eq_true rfl, Nat.le_of_ble_eq_true rfl⟩) hK hP hD hS hA [0, 1, 2] [3] [1, 2, 3, 0] rfl rfl rfl rfl rfl (by decide) rfl rfl rfl 0 rfl rfl rfl rfl hl.1 (rest := []) (st' := []) rfl rfl (Nat.le_of_ble_eq_true rfl) dX5_isRound_37 ⟨Nat.zero_le _, Nat.zero_le _⟩ (fun H locs hP hD hS => ?_)
        refine lv_iload_n hx hb dX5_isRound_40 rfl (lv_at hl 1 rfl) ?_
        refine lv_istore (lv' := [(5, .int sect), (0, .ref aM), (1, .int sect), (2, .int (nI mm)), (4, .int x8_v4)]) hx hb dX5_isRound_41 hl (by decide) rfl (fun ls hl => ?_)
        refine lv_iconst (v := 0) hx hb dX5_isRound_43 (by decide) ?_
        refine lv_istore (lv' := [(6, .int 0), (5, .int sect), (0, .ref aM), (1, .int sect), (2, .int (nI mm)), (4, .int x8_v4)]) hx hb dX5_isRound_44 hl (by decide) rfl (fun ls hl => ?_)
        have lp46 : ∀ (k46 : Nat) (i2 : Nat) (x46_v5 : Int32) (x46_Ml : Nat → Int32) (x46_Mg : Nat → Int32), i2 ≤ mm ∧ mm < i2 + k46 → ((f_X5_isRound nl ro lt go code mm sect) = (f_X5_isRound_46_r nl ro mm k46 i2 x46_v5 x46_Ml x46_Mg)) → ((f_X5_isRound_Ml nl ro lt go code mm sect) = (f_X5_isRound_46_Ml nl ro mm k46 i2 x46_v5 x46_Ml x46_Mg)) → ((f_X5_isRound_Mg nl ro lt go code mm sect) = (f_X5_isRound_46_Mg nl ro mm k46 i2 x46_v5 x46_Ml x46_Mg)) → ∀ (H : Heap) (locs : List Loc), va_P D vwCl [(aM, .inr (5, [.ref aMp, .int (nI pl), .int (nI nl), .int mi, .int ofr, .ref aMr, .int (nI pe), .ref aMs, .ref aMl, .int bc, .int rd, .ref aMg, .ref aMb, .int (nI bk), .ref aMo, .int sd, .int ko, .int kpe, .int kmi, .int kbk, .ref aMkr, .ref aMks, .ref aMkb, .long ha])), (aMr, .inl (cI, 18, .inl ro)), (aMl, .inl (cI, 6, .inl x46_Ml)), (aMg, .inl (cI, 7, .inl x46_Mg))] H → va_D A [(aM, .inr (5, [.ref aMp, .int (nI pl), .int (nI nl), .int mi, .int ofr, .ref aMr, .int (nI pe), .ref aMs, .ref aMl, .int bc, .int rd, .ref aMg, .ref aMb, .int (nI bk), .ref aMo, .int sd, .int ko, .int kpe, .int kmi, .int kbk, .ref aMkr, .ref aMks, .ref aMkb, .long ha])), (aMr, .inl (cI, 18, .inl ro)), (aMl, .inl (cI, 6, .inl x46_Ml)), (aMg, .inl (cI, 7, .inl x46_Mg))] → va_S A s.heap H locs → ∀ ls : Array Slot, lv_has ls 7 [(0, .ref aM), (2, .int (nI mm)), (5, .int x46_v5), (6, .int (nI i2))] → W p l e rm_X5_isRound s m args below meth c H locs 0 0 Q (F0 m 46 ls []) := by
          intro k46
          induction k46 with
          | zero =>
            intro i2 x46_v5 x46_Ml x46_Mg hh46 h46_r h46_Ml h46_Mg H locs hP hD hS ls hl
            exact absurd hh46 (by omega)
          | succ k46 ih46 =>
            intro i2 x46_v5 x46_Ml x46_Mg hh46 h46_r h46_Ml h46_Mg H locs hP hD hS ls hl
            refine lv_iload hx hb dX5_isRound_46 (lv_at hl 3 rfl) ?_
            refine lv_iload_n hx hb dX5_isRound_48 rfl (lv_at hl 1 rfl) ?_
            refine lv_icmp_ge (tgt := 121) hx hb dX5_isRound_49 (by decide) (fun c2 => ?_) (fun c2 => ?_)
            · have q2 : mm ≤ i2 := nle_d (a := mm) (b := i2) rfl rfl (by omega) (by omega) c2
              refine lv_aload_n hx hb dX5_isRound_121 rfl (lv_at hl 0 rfl) ?_
              refine rV ⟨hx, hb, hml, hown, hts⟩ (c_X5_areAllLit l D cI aM aMp aMr aMs aMl aMg aMb aMo aMkr aMks aMkb ofr rd pl nl mi pe kmi kpe bc bk sd ko kbk ha x46_Ml hn) (cwV 0 hts gX5_isRound_X5_areAllLit rfl rfl rfl hd_X5_areAllLit ⟨Nat.le_of_ble_eq_true rfl, Nat.le_of_ble_eq_true rfl⟩) hK (hP.sub [0, 2] rfl) 0 rfl rfl rfl rfl hl.1 (rest := []) (st' := [.int (f_X5_areAllLit nl x46_Ml)]) rfl rfl (Nat.le_of_ble_eq_true rfl) dX5_isRound_122 ⟨Nat.zero_le _, Nat.zero_le _⟩ ?_
              have e_Ml : (f_X5_isRound_Ml nl ro lt go code mm sect) = x46_Ml := (h46_Ml.trans (by simp only [f_X5_isRound_46_Ml, if_pos c2]))
              have e_Mg : (f_X5_isRound_Mg nl ro lt go code mm sect) = x46_Mg := (h46_Mg.trans (by simp only [f_X5_isRound_46_Mg, if_pos c2]))
              exact eXz hx hb hr hlk hQ (by rw [e_Ml, e_Mg]; exact hP) (by rw [e_Ml, e_Mg]; exact hD) hS dX5_isRound_125 (nar01 (allR01 _ _)) (Eq.symm (h46_r.trans (by simp only [f_X5_isRound_46_r, if_pos c2])))
            · have q2 : i2 < mm := nle_e (a := mm) (b := i2) rfl rfl (by omega) (by omega) c2
              refine lv_aload_n hx hb dX5_isRound_52 rfl (lv_at hl 0 rfl) ?_
              refine lv_iload hx hb dX5_isRound_53 (lv_at hl 2 rfl) ?_
              refine rV ⟨hx, hb, hml, hown, hts⟩ (c_X5_isLamp l D cI aM aMp aMr aMs aMl aMg aMb aMo aMkr aMks aMkb ofr rd pl nl mi pe kmi kpe bc bk sd ko kbk ha x46_v5) (cwV 1 hts gX5_isRound_X5_isLamp rfl rfl rfl hd_X5_isLamp ⟨Nat.le_of_ble_eq_true rfl, Nat.le_of_ble_eq_true rfl⟩) hK (hP.sub [0] rfl) 0 rfl rfl rfl rfl hl.1 (rest := []) (st' := [.int (f_X5_isLamp nl x46_v5)]) rfl rfl (Nat.le_of_ble_eq_true rfl) dX5_isRound_55 ⟨Nat.zero_le _, Nat.zero_le _⟩ ?_
              refine lv_if_ne (tgt := 63) hx hb dX5_isRound_58 (by decide) (fun c3 => ?_) (fun c3 => ?_)
              · refine lv_aload_n hx hb dX5_isRound_63 rfl (lv_at hl 0 rfl) ?_
                refine lv_iconst (v := 1) hx hb dX5_isRound_64 (by decide) ?_
                refine lv_iload hx hb dX5_isRound_65 (lv_at hl 2 rfl) ?_
                refine lv_ishl hx hb dX5_isRound_67 ?_
                refine xV (w2 := [(aM, .inr (5, [.ref aMp, .int (nI pl), .int (nI nl), .int mi, .int ofr, .ref aMr, .int (nI pe), .ref aMs, .ref aMl, .int bc, .int rd, .ref aMg, .ref aMb, .int (nI bk), .ref aMo, .int sd, .int ko, .int kpe, .int kmi, .int kbk, .ref aMkr, .ref aMks, .ref aMkb, .long ha])), (aMr, .inl (cI, 18, .inl ro)), (aMl, .inl (cI, 6, .inl (f_X5_goesBy_Ml nl ro x46_Ml ((1 : Int32) <<< (x46_v5 &&& 31))))), (aMg, .inl (cI, 7, .inl x46_Mg))]) ⟨hx, hb, hml, hown, hts⟩ (c_X5_goesBy l D cI aM aMp aMr aMs aMl aMg aMb aMo aMkr aMks aMkb ofr rd pl nl mi pe kmi kpe bc bk sd ko kbk ha ro x46_Ml ((1 : Int32) <<< (x46_v5 &&& 31)) hn) (cwV 1 hts gX5_isRound_X5_goesBy rfl rfl rfl hd_X5_goesBy ⟨Nat.le_of_ble_eq_true rfl, Nat.le_of_ble_eq_true rfl⟩) hK hP hD hS hA [0, 1, 2] [3] [1, 2, 3, 0] rfl rfl rfl rfl rfl (by decide) rfl rfl rfl 0 rfl rfl rfl rfl hl.1 (rest := []) (st' := []) rfl rfl (Nat.le_of_ble_eq_true rfl) dX5_isRound_68 ⟨Nat.zero_le _, Nat.zero_le _⟩ (fun H locs hP hD hS => ?_)
                refine lv_aload_n hx hb dX5_isRound_71 rfl (lv_at hl 0 rfl) ?_
                refine va_get (D := D) (ci := 5) (v := .ref aMg) (C := RX5) (T := TX5) (N := 24) hx hb hts uX5 hown hK hP 0 rfl rfl 11 (by decide) w1 (fun _ h9 => h9) rfl dX5_isRound_72 ?_
                refine lv_iload_n hx hb dX5_isRound_75 rfl (lv_at hl 1 rfl) ?_
                refine lv_iconst (v := 1) hx hb dX5_isRound_76 (by decide) ?_
                refine lv_isub hx hb dX5_isRound_77 ?_
                refine lv_iload hx hb dX5_isRound_78 (lv_at hl 2 rfl) ?_
                refine lv_if_ne (tgt := 87) hx hb dX5_isRound_80 (by decide) (fun c4 => ?_) (fun c4 => ?_)
                · refine lv_iconst (v := 0) hx hb dX5_isRound_87 (by decide) ?_
                  refine xast hx hb hK hP hD hS 3 rfl (mm - 1) (ix_sub (by omega) rfl rfl) (by omega) (by decide) dX5_isRound_88 (fun H locs hP hD hS => ?_)
                  have hP : va_P D vwCl [(aM, .inr (5, [.ref aMp, .int (nI pl), .int (nI nl), .int mi, .int ofr, .ref aMr, .int (nI pe), .ref aMs, .ref aMl, .int bc, .int rd, .ref aMg, .ref aMb, .int (nI bk), .ref aMo, .int sd, .int ko, .int kpe, .int kmi, .int kbk, .ref aMkr, .ref aMks, .ref aMkb, .long ha])), (aMr, .inl (cI, 18, .inl ro)), (aMl, .inl (cI, 6, .inl (f_X5_goesBy_Ml nl ro x46_Ml ((1 : Int32) <<< (x46_v5 &&& 31))))), (aMg, .inl (cI, 7, .inl (upd x46_Mg (mm - 1) 0)))] H := hP
                  have hD : va_D A [(aM, .inr (5, [.ref aMp, .int (nI pl), .int (nI nl), .int mi, .int ofr, .ref aMr, .int (nI pe), .ref aMs, .ref aMl, .int bc, .int rd, .ref aMg, .ref aMb, .int (nI bk), .ref aMo, .int sd, .int ko, .int kpe, .int kmi, .int kbk, .ref aMkr, .ref aMks, .ref aMkb, .long ha])), (aMr, .inl (cI, 18, .inl ro)), (aMl, .inl (cI, 6, .inl (f_X5_goesBy_Ml nl ro x46_Ml ((1 : Int32) <<< (x46_v5 &&& 31))))), (aMg, .inl (cI, 7, .inl (upd x46_Mg (mm - 1) 0)))] := hD
                  refine lv_iload hx hb dX5_isRound_89 (lv_at hl 2 rfl) ?_
                  refine lv_iload hx hb dX5_isRound_91 (lv_at hl 3 rfl) ?_
                  refine lv_iload_n hx hb dX5_isRound_93 rfl (lv_at hl 1 rfl) ?_
                  refine lv_iconst (v := 1) hx hb dX5_isRound_94 (by decide) ?_
                  refine lv_isub hx hb dX5_isRound_95 ?_
                  refine lv_icmp_ge (tgt := 111) hx hb dX5_isRound_96 (by decide) (fun c5 => ?_) (fun c5 => ?_)
                  · refine lv_iconst (v := 0) hx hb dX5_isRound_111 (by decide) ?_
                    refine lv_iadd hx hb dX5_isRound_112 ?_
                    refine lv_istore (lv' := [(5, .int (x46_v5 + 0)), (0, .ref aM), (2, .int (nI mm)), (6, .int (nI i2))]) hx hb dX5_isRound_113 hl (by decide) rfl (fun ls hl => ?_)
                    refine lv_iinc (v := nI (i2 + 1)) (lv' := [(6, .int (nI (i2 + 1))), (5, .int (x46_v5 + 0)), (0, .ref aM), (2, .int (nI mm))]) hx hb dX5_isRound_115 hl (k := 3) rfl (nI_add i2 1) (by decide) rfl (fun ls hl => ?_)
                    refine lv_goto (tgt := 46) hx hb dX5_isRound_118 (by decide) ?_
                    exact ih46 (i2 + 1) (x46_v5 + 0) (f_X5_goesBy_Ml nl ro x46_Ml ((1 : Int32) <<< (x46_v5 &&& 31))) (upd x46_Mg (mm - 1) 0) (by omega) (h46_r.trans (by simp only [f_X5_isRound_46_r, if_neg c2, if_neg c3, if_neg c4, if_pos c5])) (h46_Ml.trans (by simp only [f_X5_isRound_46_Ml, if_neg c2, if_neg c3, if_neg c4, if_pos c5])) (h46_Mg.trans (by simp only [f_X5_isRound_46_Mg, if_neg c2, if_neg c3, if_neg c4, if_pos c5])) _ _ (hP) (hD) hS ls (lv_sub hl [2, 3, 1, 0] rfl)
                  · refine lv_aload_n hx hb dX5_isRound_99 rfl (lv_at hl 0 rfl) ?_
                    refine va_get (D := D) (ci := 5) (v := .ref aMg) (C := RX5) (T := TX5) (N := 24) hx hb hts uX5 hown hK hP 0 rfl rfl 11 (by decide) w1 (fun _ h9 => h9) rfl dX5_isRound_100 ?_
                    refine lv_iload hx hb dX5_isRound_103 (lv_at hl 3 rfl) ?_
                    refine xald hx hb hK hP 3 rfl i2 rfl (by omega) (by decide) dX5_isRound_105 ?_
                    refine lv_iconst (v := 1) hx hb dX5_isRound_106 (by decide) ?_
                    refine lv_isub hx hb dX5_isRound_107 ?_
                    refine lv_goto (tgt := 112) hx hb dX5_isRound_108 (by decide) ?_
                    refine lv_iadd hx hb dX5_isRound_112 ?_
                    refine lv_istore (lv' := [(5, .int (x46_v5 + (((upd x46_Mg (mm - 1) 0) i2) - 1))), (0, .ref aM), (2, .int (nI mm)), (6, .int (nI i2))]) hx hb dX5_isRound_113 hl (by decide) rfl (fun ls hl => ?_)
                    refine lv_iinc (v := nI (i2 + 1)) (lv' := [(6, .int (nI (i2 + 1))), (5, .int (x46_v5 + (((upd x46_Mg (mm - 1) 0) i2) - 1))), (0, .ref aM), (2, .int (nI mm))]) hx hb dX5_isRound_115 hl (k := 3) rfl (nI_add i2 1) (by decide) rfl (fun ls hl => ?_)
                    refine lv_goto (tgt := 46) hx hb dX5_isRound_118 (by decide) ?_
                    exact ih46 (i2 + 1) (x46_v5 + (((upd x46_Mg (mm - 1) 0) i2) - 1)) (f_X5_goesBy_Ml nl ro x46_Ml ((1 : Int32) <<< (x46_v5 &&& 31))) (upd x46_Mg (mm - 1) 0) (by omega) (h46_r.trans (by simp only [f_X5_isRound_46_r, if_neg c2, if_neg c3, if_neg c4, if_neg c5])) (h46_Ml.trans (by simp only [f_X5_isRound_46_Ml, if_neg c2, if_neg c3, if_neg c4, if_neg c5])) (h46_Mg.trans (by simp only [f_X5_isRound_46_Mg, if_neg c2, if_neg c3, if_neg c4, if_neg c5])) _ _ (hP) (hD) hS ls (lv_sub hl [2, 3, 1, 0] rfl)
                · refine lv_iconst (v := 1) hx hb dX5_isRound_83 (by decide) ?_
                  refine lv_goto (tgt := 88) hx hb dX5_isRound_84 (by decide) ?_
                  refine xast hx hb hK hP hD hS 3 rfl (mm - 1) (ix_sub (by omega) rfl rfl) (by omega) (by decide) dX5_isRound_88 (fun H locs hP hD hS => ?_)
                  have hP : va_P D vwCl [(aM, .inr (5, [.ref aMp, .int (nI pl), .int (nI nl), .int mi, .int ofr, .ref aMr, .int (nI pe), .ref aMs, .ref aMl, .int bc, .int rd, .ref aMg, .ref aMb, .int (nI bk), .ref aMo, .int sd, .int ko, .int kpe, .int kmi, .int kbk, .ref aMkr, .ref aMks, .ref aMkb, .long ha])), (aMr, .inl (cI, 18, .inl ro)), (aMl, .inl (cI, 6, .inl (f_X5_goesBy_Ml nl ro x46_Ml ((1 : Int32) <<< (x46_v5 &&& 31))))), (aMg, .inl (cI, 7, .inl (upd x46_Mg (mm - 1) 1)))] H := hP
                  have hD : va_D A [(aM, .inr (5, [.ref aMp, .int (nI pl), .int (nI nl), .int mi, .int ofr, .ref aMr, .int (nI pe), .ref aMs, .ref aMl, .int bc, .int rd, .ref aMg, .ref aMb, .int (nI bk), .ref aMo, .int sd, .int ko, .int kpe, .int kmi, .int kbk, .ref aMkr, .ref aMks, .ref aMkb, .long ha])), (aMr, .inl (cI, 18, .inl ro)), (aMl, .inl (cI, 6, .inl (f_X5_goesBy_Ml nl ro x46_Ml ((1 : Int32) <<< (x46_v5 &&& 31))))), (aMg, .inl (cI, 7, .inl (upd x46_Mg (mm - 1) 1)))] := hD
                  refine lv_iload hx hb dX5_isRound_89 (lv_at hl 2 rfl) ?_
                  refine lv_iload hx hb dX5_isRound_91 (lv_at hl 3 rfl) ?_
                  refine lv_iload_n hx hb dX5_isRound_93 rfl (lv_at hl 1 rfl) ?_
                  refine lv_iconst (v := 1) hx hb dX5_isRound_94 (by decide) ?_
                  refine lv_isub hx hb dX5_isRound_95 ?_
                  refine lv_icmp_ge (tgt := 111) hx hb dX5_isRound_96 (by decide) (fun c6 => ?_) (fun c6 => ?_)
                  · refine lv_iconst (v := 0) hx hb dX5_isRound_111 (by decide) ?_
                    refine lv_iadd hx hb dX5_isRound_112 ?_
                    refine lv_istore (lv' := [(5, .int (x46_v5 + 0)), (0, .ref aM), (2, .int (nI mm)), (6, .int (nI i2))]) hx hb dX5_isRound_113 hl (by decide) rfl (fun ls hl => ?_)
                    refine lv_iinc (v := nI (i2 + 1)) (lv' := [(6, .int (nI (i2 + 1))), (5, .int (x46_v5 + 0)), (0, .ref aM), (2, .int (nI mm))]) hx hb dX5_isRound_115 hl (k := 3) rfl (nI_add i2 1) (by decide) rfl (fun ls hl => ?_)
                    refine lv_goto (tgt := 46) hx hb dX5_isRound_118 (by decide) ?_
                    exact ih46 (i2 + 1) (x46_v5 + 0) (f_X5_goesBy_Ml nl ro x46_Ml ((1 : Int32) <<< (x46_v5 &&& 31))) (upd x46_Mg (mm - 1) 1) (by omega) (h46_r.trans (by simp only [f_X5_isRound_46_r, if_neg c2, if_neg c3, if_pos c4, if_pos c6])) (h46_Ml.trans (by simp only [f_X5_isRound_46_Ml, if_neg c2, if_neg c3, if_pos c4, if_pos c6])) (h46_Mg.trans (by simp only [f_X5_isRound_46_Mg, if_neg c2, if_neg c3, if_pos c4, if_pos c6])) _ _ (hP) (hD) hS ls (lv_sub hl [2, 3, 1, 0] rfl)
                  · refine lv_aload_n hx hb dX5_isRound_99 rfl (lv_at hl 0 rfl) ?_
                    refine va_get (D := D) (ci := 5) (v := .ref aMg) (C := RX5) (T := TX5) (N := 24) hx hb hts uX5 hown hK hP 0 rfl rfl 11 (by decide) w1 (fun _ h9 => h9) rfl dX5_isRound_100 ?_
                    refine lv_iload hx hb dX5_isRound_103 (lv_at hl 3 rfl) ?_
                    refine xald hx hb hK hP 3 rfl i2 rfl (by omega) (by decide) dX5_isRound_105 ?_
                    refine lv_iconst (v := 1) hx hb dX5_isRound_106 (by decide) ?_
                    refine lv_isub hx hb dX5_isRound_107 ?_
                    refine lv_goto (tgt := 112) hx hb dX5_isRound_108 (by decide) ?_
                    refine lv_iadd hx hb dX5_isRound_112 ?_
                    refine lv_istore (lv' := [(5, .int (x46_v5 + (((upd x46_Mg (mm - 1) 1) i2) - 1))), (0, .ref aM), (2, .int (nI mm)), (6, .int (nI i2))]) hx hb dX5_isRound_113 hl (by decide) rfl (fun ls hl => ?_)
                    refine lv_iinc (v := nI (i2 + 1)) (lv' := [(6, .int (nI (i2 + 1))), (5, .int (x46_v5 + (((upd x46_Mg (mm - 1) 1) i2) - 1))), (0, .ref aM), (2, .int (nI mm))]) hx hb dX5_isRound_115 hl (k := 3) rfl (nI_add i2 1) (by decide) rfl (fun ls hl => ?_)
                    refine lv_goto (tgt := 46) hx hb dX5_isRound_118 (by decide) ?_
                    exact ih46 (i2 + 1) (x46_v5 + (((upd x46_Mg (mm - 1) 1) i2) - 1)) (f_X5_goesBy_Ml nl ro x46_Ml ((1 : Int32) <<< (x46_v5 &&& 31))) (upd x46_Mg (mm - 1) 1) (by omega) (h46_r.trans (by simp only [f_X5_isRound_46_r, if_neg c2, if_neg c3, if_pos c4, if_neg c6])) (h46_Ml.trans (by simp only [f_X5_isRound_46_Ml, if_neg c2, if_neg c3, if_pos c4, if_neg c6])) (h46_Mg.trans (by simp only [f_X5_isRound_46_Mg, if_neg c2, if_neg c3, if_pos c4, if_neg c6])) _ _ (hP) (hD) hS ls (lv_sub hl [2, 3, 1, 0] rfl)
              · refine lv_iconst (v := 0) hx hb dX5_isRound_61 (by decide) ?_
                have e_Ml : (f_X5_isRound_Ml nl ro lt go code mm sect) = x46_Ml := (h46_Ml.trans (by simp only [f_X5_isRound_46_Ml, if_neg c2, if_pos c3]))
                have e_Mg : (f_X5_isRound_Mg nl ro lt go code mm sect) = x46_Mg := (h46_Mg.trans (by simp only [f_X5_isRound_46_Mg, if_neg c2, if_pos c3]))
                exact eXz hx hb hr hlk hQ (by rw [e_Ml, e_Mg]; exact hP) (by rw [e_Ml, e_Mg]; exact hD) hS dX5_isRound_62 rfl (Eq.symm (h46_r.trans (by simp only [f_X5_isRound_46_r, if_neg c2, if_pos c3])))
        exact lp46 (mm + 1) 0 sect (f_X5_asItIs_Ml nl ro lt) x8_Mg (by omega) (h8_r.trans (by simp only [f_X5_isRound_8_r, if_pos c1])) (h8_Ml.trans (by simp only [f_X5_isRound_8_Ml, if_pos c1])) (h8_Mg.trans (by simp only [f_X5_isRound_8_Mg, if_pos c1])) _ _ hP hD hS ls (lv_sub hl [2, 4, 1, 0] rfl)
      · have hd1 := dI_pos c1
        refine lv_aload_n hx hb dX5_isRound_13 rfl (lv_at hl 0 rfl) ?_
        refine va_get (D := D) (ci := 5) (v := .ref aMg) (C := RX5) (T := TX5) (N := 24) hx hb hts uX5 hown hK hP 0 rfl rfl 11 (by decide) w1 (fun _ h9 => h9) rfl dX5_isRound_14 ?_
        refine lv_iload hx hb dX5_isRound_17 (lv_at hl 4 rfl) ?_
        refine tpi (y := nI (i1 - 1)) (dI_eq c1) ?_
        refine lv_iload hx hb dX5_isRound_19 (lv_at hl 3 rfl) ?_
        refine lv_iconst (v := 3) hx hb dX5_isRound_21 (by decide) ?_
        refine lv_irem hx hb dX5_isRound_22 (by decide) ?_
        refine xast hx hb hK hP hD hS 3 rfl (i1 - 1) rfl (by omega) (by decide) dX5_isRound_23 (fun H locs hP hD hS => ?_)
        have hP : va_P D vwCl [(aM, .inr (5, [.ref aMp, .int (nI pl), .int (nI nl), .int mi, .int ofr, .ref aMr, .int (nI pe), .ref aMs, .ref aMl, .int bc, .int rd, .ref aMg, .ref aMb, .int (nI bk), .ref aMo, .int sd, .int ko, .int kpe, .int kmi, .int kbk, .ref aMkr, .ref aMks, .ref aMkb, .long ha])), (aMr, .inl (cI, 18, .inl ro)), (aMl, .inl (cI, 6, .inl lt)), (aMg, .inl (cI, 7, .inl (upd x8_Mg (i1 - 1) (x8_v4 - x8_v4 / 3 * 3))))] H := hP
        have hD : va_D A [(aM, .inr (5, [.ref aMp, .int (nI pl), .int (nI nl), .int mi, .int ofr, .ref aMr, .int (nI pe), .ref aMs, .ref aMl, .int bc, .int rd, .ref aMg, .ref aMb, .int (nI bk), .ref aMo, .int sd, .int ko, .int kpe, .int kmi, .int kbk, .ref aMkr, .ref aMks, .ref aMkb, .long ha])), (aMr, .inl (cI, 18, .inl ro)), (aMl, .inl (cI, 6, .inl lt)), (aMg, .inl (cI, 7, .inl (upd x8_Mg (i1 - 1) (x8_v4 - x8_v4 / 3 * 3))))] := hD
        refine lv_iload hx hb dX5_isRound_24 (lv_at hl 3 rfl) ?_
        refine lv_iconst (v := 3) hx hb dX5_isRound_26 (by decide) ?_
        refine lv_idiv hx hb dX5_isRound_27 (by decide) ?_
        refine lv_istore (lv' := [(4, .int (x8_v4 / 3)), (0, .ref aM), (1, .int sect), (2, .int (nI mm)), (5, .int (dI i1))]) hx hb dX5_isRound_28 hl (by decide) rfl (fun ls hl => ?_)
        refine lv_iinc (v := (dI (i1 - 1))) (lv' := [(5, .int (dI (i1 - 1))), (4, .int (x8_v4 / 3)), (0, .ref aM), (1, .int sect), (2, .int (nI mm))]) hx hb dX5_isRound_30 hl (k := 4) rfl (dI_pred c1) (by decide) rfl (fun ls hl => ?_)
        refine lv_goto (tgt := 8) hx hb dX5_isRound_33 (by decide) ?_
        exact ih8 (i1 - 1) (x8_v4 / 3) (upd x8_Mg (i1 - 1) (x8_v4 - x8_v4 / 3 * 3)) (by omega) (h8_r.trans (by simp only [f_X5_isRound_8_r, if_neg c1])) (h8_Ml.trans (by simp only [f_X5_isRound_8_Ml, if_neg c1])) (h8_Mg.trans (by simp only [f_X5_isRound_8_Mg, if_neg c1])) _ _ (hP) (hD) hS ls (lv_sub hl [2, 3, 4, 1, 0] rfl)
  exact lp8 mm (mm - 1) code go (by omega) (by simp only [f_X5_isRound]) (by simp only [f_X5_isRound_Ml]) (by simp only [f_X5_isRound_Mg]) _ _ hP hD hS ls (lv_sub hl [2, 3, 4, 1, 0] rfl)

theorem pw3_le : ∀ k, k ≤ 6 → 3 ^ k ≤ 729 := by decide +kernel

def rm_X5_layRound : Room := { frames := 3, cells := 0, slots := 0, locals := 73 }
def f_X5_layRound_13_r (nl : Nat) (ro : Nat → Int32) (i1 : Nat) (sect : Int32) (q13_r : (Nat → Int32) → (Nat → Int32) → Int32) : Nat → Nat → (Nat → Int32) → (Nat → Int32) → Int32
  | 0, _, _, _ => 0
  | k13 + 1, i2, x13_Ml, x13_Mg => (if nI (3 ^ i1) ≤ nI i2 then (q13_r x13_Ml x13_Mg) else (if (f_X5_isRound nl ro x13_Ml x13_Mg (nI i2) (i1 + 1) sect) = 0 then (f_X5_layRound_13_r nl ro i1 sect q13_r k13 (i2 + 1) (f_X5_isRound_Ml nl ro x13_Ml x13_Mg (nI i2) (i1 + 1) sect) (f_X5_isRound_Mg nl ro x13_Ml x13_Mg (nI i2) (i1 + 1) sect)) else nI (i1 + 1)))
def f_X5_layRound_13_Ml (nl : Nat) (ro : Nat → Int32) (i1 : Nat) (sect : Int32) (q13_Ml : (Nat → Int32) → (Nat → Int32) → (Nat → Int32)) : Nat → Nat → (Nat → Int32) → (Nat → Int32) → (Nat → Int32)
  | 0, _, _, _ => (fun _ => 0)
  | k13 + 1, i2, x13_Ml, x13_Mg => (if nI (3 ^ i1) ≤ nI i2 then (q13_Ml x13_Ml x13_Mg) else (if (f_X5_isRound nl ro x13_Ml x13_Mg (nI i2) (i1 + 1) sect) = 0 then (f_X5_layRound_13_Ml nl ro i1 sect q13_Ml k13 (i2 + 1) (f_X5_isRound_Ml nl ro x13_Ml x13_Mg (nI i2) (i1 + 1) sect) (f_X5_isRound_Mg nl ro x13_Ml x13_Mg (nI i2) (i1 + 1) sect)) else (f_X5_isRound_Ml nl ro x13_Ml x13_Mg (nI i2) (i1 + 1) sect)))
def f_X5_layRound_13_Mg (nl : Nat) (ro : Nat → Int32) (i1 : Nat) (sect : Int32) (q13_Mg : (Nat → Int32) → (Nat → Int32) → (Nat → Int32)) : Nat → Nat → (Nat → Int32) → (Nat → Int32) → (Nat → Int32)
  | 0, _, _, _ => (fun _ => 0)
  | k13 + 1, i2, x13_Ml, x13_Mg => (if nI (3 ^ i1) ≤ nI i2 then (q13_Mg x13_Ml x13_Mg) else (if (f_X5_isRound nl ro x13_Ml x13_Mg (nI i2) (i1 + 1) sect) = 0 then (f_X5_layRound_13_Mg nl ro i1 sect q13_Mg k13 (i2 + 1) (f_X5_isRound_Ml nl ro x13_Ml x13_Mg (nI i2) (i1 + 1) sect) (f_X5_isRound_Mg nl ro x13_Ml x13_Mg (nI i2) (i1 + 1) sect)) else (f_X5_isRound_Mg nl ro x13_Ml x13_Mg (nI i2) (i1 + 1) sect)))
def f_X5_layRound_13_Mb (nl : Nat) (ro : Nat → Int32) (bg : Nat → Int32) (i1 : Nat) (sect : Int32) (q13_Mb : (Nat → Int32) → (Nat → Int32) → (Nat → Int32)) : Nat → Nat → (Nat → Int32) → (Nat → Int32) → (Nat → Int32)
  | 0, _, _, _ => (fun _ => 0)
  | k13 + 1, i2, x13_Ml, x13_Mg => (if nI (3 ^ i1) ≤ nI i2 then (q13_Mb x13_Ml x13_Mg) else (if (f_X5_isRound nl ro x13_Ml x13_Mg (nI i2) (i1 + 1) sect) = 0 then (f_X5_layRound_13_Mb nl ro bg i1 sect q13_Mb k13 (i2 + 1) (f_X5_isRound_Ml nl ro x13_Ml x13_Mg (nI i2) (i1 + 1) sect) (f_X5_isRound_Mg nl ro x13_Ml x13_Mg (nI i2) (i1 + 1) sect)) else (f_X5_copy_G (f_X5_isRound_Mg nl ro x13_Ml x13_Mg (nI i2) (i1 + 1) sect) bg 7)))
def f_X5_layRound_4_r (nl : Nat) (ro : Nat → Int32) (sect : Int32) : Nat → Nat → (Nat → Int32) → (Nat → Int32) → Int32
  | 0, _, _, _ => 0
  | k4 + 1, i1, x4_Ml, x4_Mg => (if 8 ≤ nI (i1 + 1) then (-1) else (f_X5_layRound_13_r nl ro i1 sect (fun (y13_Ml : Nat → Int32) (y13_Mg : Nat → Int32) => (f_X5_layRound_4_r nl ro sect k4 (i1 + 1) y13_Ml y13_Mg)) (3 ^ i1 + 1) 0 x4_Ml x4_Mg))
def f_X5_layRound_4_Ml (nl : Nat) (ro : Nat → Int32) (sect : Int32) : Nat → Nat → (Nat → Int32) → (Nat → Int32) → (Nat → Int32)
  | 0, _, _, _ => (fun _ => 0)
  | k4 + 1, i1, x4_Ml, x4_Mg => (if 8 ≤ nI (i1 + 1) then x4_Ml else (f_X5_layRound_13_Ml nl ro i1 sect (fun (y13_Ml : Nat → Int32) (y13_Mg : Nat → Int32) => (f_X5_layRound_4_Ml nl ro sect k4 (i1 + 1) y13_Ml y13_Mg)) (3 ^ i1 + 1) 0 x4_Ml x4_Mg))
def f_X5_layRound_4_Mg (nl : Nat) (ro : Nat → Int32) (sect : Int32) : Nat → Nat → (Nat → Int32) → (Nat → Int32) → (Nat → Int32)
  | 0, _, _, _ => (fun _ => 0)
  | k4 + 1, i1, x4_Ml, x4_Mg => (if 8 ≤ nI (i1 + 1) then x4_Mg else (f_X5_layRound_13_Mg nl ro i1 sect (fun (y13_Ml : Nat → Int32) (y13_Mg : Nat → Int32) => (f_X5_layRound_4_Mg nl ro sect k4 (i1 + 1) y13_Ml y13_Mg)) (3 ^ i1 + 1) 0 x4_Ml x4_Mg))
def f_X5_layRound_4_Mb (nl : Nat) (ro : Nat → Int32) (bg : Nat → Int32) (sect : Int32) : Nat → Nat → (Nat → Int32) → (Nat → Int32) → (Nat → Int32)
  | 0, _, _, _ => (fun _ => 0)
  | k4 + 1, i1, x4_Ml, x4_Mg => (if 8 ≤ nI (i1 + 1) then bg else (f_X5_layRound_13_Mb nl ro bg i1 sect (fun (y13_Ml : Nat → Int32) (y13_Mg : Nat → Int32) => (f_X5_layRound_4_Mb nl ro bg sect k4 (i1 + 1) y13_Ml y13_Mg)) (3 ^ i1 + 1) 0 x4_Ml x4_Mg))
def f_X5_layRound (nl : Nat) (ro : Nat → Int32) (lt : Nat → Int32) (go : Nat → Int32) (sect : Int32) : Int32 := (f_X5_layRound_4_r nl ro sect 8 0 lt go)
def f_X5_layRound_Ml (nl : Nat) (ro : Nat → Int32) (lt : Nat → Int32) (go : Nat → Int32) (sect : Int32) : Nat → Int32 := (f_X5_layRound_4_Ml nl ro sect 8 0 lt go)
def f_X5_layRound_Mg (nl : Nat) (ro : Nat → Int32) (lt : Nat → Int32) (go : Nat → Int32) (sect : Int32) : Nat → Int32 := (f_X5_layRound_4_Mg nl ro sect 8 0 lt go)
def f_X5_layRound_Mb (nl : Nat) (ro : Nat → Int32) (lt : Nat → Int32) (go : Nat → Int32) (bg : Nat → Int32) (sect : Int32) : Nat → Int32 := (f_X5_layRound_4_Mb nl ro bg sect 8 0 lt go)
theorem hd_X5_layRound : yX5_layRound.cls = RX5 ∧ yX5_layRound.cls ≠ "java/lang/invoke/MethodHandle" ∧ yX5_layRound.cls ≠ "java/lang/invoke/VarHandle" ∧ (parseMethodDescriptor yX5_layRound.desc).map (fun d => d.parameters.length) = some 1 := by decide +kernel
set_option maxHeartbeats 4000000 in
set_option maxRecDepth 100000 in
theorem c_X5_layRound (l : Launch) (D : va_G) (cI : ClassId) (aM aMp aMr aMs aMl aMg aMb aMo aMkr aMks aMkb : Nat) (ofr : Int32) (rd : Int32) (pl : Nat) (nl : Nat) (mi : Int32) (pe : Nat) (kmi : Int32) (kpe : Int32) (bc : Int32) (bk : Nat) (sd : Int32) (ko : Int32) (kbk : Int32) (ha : Int64) (ro : Nat → Int32) (lt : Nat → Int32) (go : Nat → Int32) (bg : Nat → Int32) (sect : Int32) (hn : nl ≤ 6) : MetX l yX5_layRound wsX5_layRound rm_X5_layRound D cI [.ref aM, .int sect] [(aM, .inr (5, [.ref aMp, .int (nI pl), .int (nI nl), .int mi, .int ofr, .ref aMr, .int (nI pe), .ref aMs, .ref aMl, .int bc, .int rd, .ref aMg, .ref aMb, .int (nI bk), .ref aMo, .int sd, .int ko, .int kpe, .int kmi, .int kbk, .ref aMkr, .ref aMks, .ref aMkb, .long ha])), (aMr, .inl (cI, 18, .inl ro)), (aMl, .inl (cI, 6, .inl lt)), (aMg, .inl (cI, 7, .inl go)), (aMb, .inl (cI, 7, .inl bg))] (some (.int (f_X5_layRound nl ro lt go sect))) [(aM, .inr (5, [.ref aMp, .int (nI pl), .int (nI nl), .int mi, .int ofr, .ref aMr, .int (nI pe), .ref aMs, .ref aMl, .int bc, .int rd, .ref aMg, .ref aMb, .int (nI bk), .ref aMo, .int sd, .int ko, .int kpe, .int kmi, .int kbk, .ref aMkr, .ref aMks, .ref aMkb, .long ha])), (aMr, .inl (cI, 18, .inl ro)), (aMl, .inl (cI, 6, .inl (f_X5_layRound_Ml nl ro lt go sect))), (aMg, .inl (cI, 7, .inl (f_X5_layRound_Mg nl ro lt go sect))), (aMb, .inl (cI, 7, .inl (f_X5_layRound_Mb nl ro lt go bg sect)))] := by
  refine mX (cc := cX5_layRound) (maxL := 5) (ret := (some .int)) (by decide) rfl (Nat.le_of_ble_eq_true rfl) ?_
  intro p e s m args below meth c Q A hx hb hr hml hown hts hlk hP hK hD hA hS hQ ls hl
  have hown : s.vm.findClass RX5 = some m.cls := hown
  have hl : lv_has ls 5 [(0, .ref aM), (1, .int sect)] := hl
  have w1 := hts (.fieldLink RX5 22 "DarkOfficeModel" "going" "[I") (List.mem_of_getElem? (i := 1) rfl)
  have uX5 : ∀ w ∈ wsX50, w ∈ wsX5_layRound := fun _ h => List.mem_cons_of_mem _ (List.mem_append_right _ h)
  have w2 := hts (.fieldLink RX5 25 "DarkOfficeModel" "bestGoing" "[I") (List.mem_of_getElem? (i := 2) rfl)
  refine lv_iconst (v := 1) hx hb dX5_layRound_0 (by decide) ?_
  refine lv_istore_n (lv' := [(2, .int 1), (0, .ref aM), (1, .int sect)]) hx hb dX5_layRound_1 rfl hl (by decide) rfl (fun ls hl => ?_)
  refine lv_iconst (v := 1) hx hb dX5_layRound_2 (by decide) ?_
  refine lv_istore_n (lv' := [(3, .int 1), (2, .int 1), (0, .ref aM), (1, .int sect)]) hx hb dX5_layRound_3 rfl hl (by decide) rfl (fun ls hl => ?_)
  have lp4 : ∀ (k4 : Nat) (i1 : Nat) (x4_Ml : Nat → Int32) (x4_Mg : Nat → Int32), i1 ≤ 7 ∧ 7 < i1 + k4 → ((f_X5_layRound nl ro lt go sect) = (f_X5_layRound_4_r nl ro sect k4 i1 x4_Ml x4_Mg)) → ((f_X5_layRound_Ml nl ro lt go sect) = (f_X5_layRound_4_Ml nl ro sect k4 i1 x4_Ml x4_Mg)) → ((f_X5_layRound_Mg nl ro lt go sect) = (f_X5_layRound_4_Mg nl ro sect k4 i1 x4_Ml x4_Mg)) → ((f_X5_layRound_Mb nl ro lt go bg sect) = (f_X5_layRound_4_Mb nl ro bg sect k4 i1 x4_Ml x4_Mg)) → ∀ (H : Heap) (locs : List Loc), va_P D vwCl [(aM, .inr (5, [.ref aMp, .int (nI pl), .int (nI nl), .int mi, .int ofr, .ref aMr, .int (nI pe), .ref aMs, .ref aMl, .int bc, .int rd, .ref aMg, .ref aMb, .int (nI bk), .ref aMo, .int sd, .int ko, .int kpe, .int kmi, .int kbk, .ref aMkr, .ref aMks, .ref aMkb, .long ha])), (aMr, .inl (cI, 18, .inl ro)), (aMl, .inl (cI, 6, .inl x4_Ml)), (aMg, .inl (cI, 7, .inl x4_Mg)), (aMb, .inl (cI, 7, .inl bg))] H → va_D A [(aM, .inr (5, [.ref aMp, .int (nI pl), .int (nI nl), .int mi, .int ofr, .ref aMr, .int (nI pe), .ref aMs, .ref aMl, .int bc, .int rd, .ref aMg, .ref aMb, .int (nI bk), .ref aMo, .int sd, .int ko, .int kpe, .int kmi, .int kbk, .ref aMkr, .ref aMks, .ref aMkb, .long ha])), (aMr, .inl (cI, 18, .inl ro)), (aMl, .inl (cI, 6, .inl x4_Ml)), (aMg, .inl (cI, 7, .inl x4_Mg)), (aMb, .inl (cI, 7, .inl bg))] → va_S A s.heap H locs → ∀ ls : Array Slot, lv_has ls 5 [(0, .ref aM), (1, .int sect), (2, .int (nI (3 ^ i1))), (3, .int (nI (i1 + 1)))] → W p l e rm_X5_layRound s m args below meth c H locs 0 0 Q (F0 m 4 ls []) := by
    intro k4
    induction k4 with
    | zero =>
      intro i1 x4_Ml x4_Mg hh4 h4_r h4_Ml h4_Mg h4_Mb H locs hP hD hS ls hl
      exact absurd hh4 (by omega)
    | succ k4 ih4 =>
      intro i1 x4_Ml x4_Mg hh4 h4_r h4_Ml h4_Mg h4_Mb H locs hP hD hS ls hl
      refine lv_iload_n hx hb dX5_layRound_4 rfl (lv_at hl 3 rfl) ?_
      refine lv_bipush (v := 8) hx hb dX5_layRound_5 (by decide) ?_
      refine lv_icmp_ge (tgt := 59) hx hb dX5_layRound_7 (by decide) (fun c1 => ?_) (fun c1 => ?_)
      · have q1 : 8 ≤ i1 + 1 := nle_d (a := 8) (b := i1 + 1) rfl rfl (by omega) (by omega) c1
        refine lv_iconst (v := (-1)) hx hb dX5_layRound_59 (by decide) ?_
        have e_Ml : (f_X5_layRound_Ml nl ro lt go sect) = x4_Ml := (h4_Ml.trans (by simp only [f_X5_layRound_4_Ml, if_pos c1]))
        have e_Mg : (f_X5_layRound_Mg nl ro lt go sect) = x4_Mg := (h4_Mg.trans (by simp only [f_X5_layRound_4_Mg, if_pos c1]))
        have e_Mb : (f_X5_layRound_Mb nl ro lt go bg sect) = bg := (h4_Mb.trans (by simp only [f_X5_layRound_4_Mb, if_pos c1]))
        exact eXi hx hb hr hlk hQ (by rw [e_Ml, e_Mg, e_Mb]; exact hP) (by rw [e_Ml, e_Mg, e_Mb]; exact hD) hS dX5_layRound_60 (Eq.symm (h4_r.trans (by simp only [f_X5_layRound_4_r, if_pos c1])))
      · have q1 : i1 + 1 < 8 := nle_e (a := 8) (b := i1 + 1) rfl rfl (by omega) (by omega) c1
        have h3p := pw3_le i1 (by omega)
        refine lv_iconst (v := 0) hx hb dX5_layRound_10 (by decide) ?_
        refine lv_istore (lv' := [(4, .int 0), (0, .ref aM), (1, .int sect), (2, .int (nI (3 ^ i1))), (3, .int (nI (i1 + 1)))]) hx hb dX5_layRound_11 hl (by decide) rfl (fun ls hl => ?_)
        have lp13 : ∀ (k13 : Nat) (i2 : Nat) (x13_Ml : Nat → Int32) (x13_Mg : Nat → Int32), i2 ≤ 3 ^ i1 ∧ 3 ^ i1 < i2 + k13 → ((f_X5_layRound nl ro lt go sect) = (f_X5_layRound_13_r nl ro i1 sect (fun (y13_Ml : Nat → Int32) (y13_Mg : Nat → Int32) => (f_X5_layRound_4_r nl ro sect k4 (i1 + 1) y13_Ml y13_Mg)) k13 i2 x13_Ml x13_Mg)) → ((f_X5_layRound_Ml nl ro lt go sect) = (f_X5_layRound_13_Ml nl ro i1 sect (fun (y13_Ml : Nat → Int32) (y13_Mg : Nat → Int32) => (f_X5_layRound_4_Ml nl ro sect k4 (i1 + 1) y13_Ml y13_Mg)) k13 i2 x13_Ml x13_Mg)) → ((f_X5_layRound_Mg nl ro lt go sect) = (f_X5_layRound_13_Mg nl ro i1 sect (fun (y13_Ml : Nat → Int32) (y13_Mg : Nat → Int32) => (f_X5_layRound_4_Mg nl ro sect k4 (i1 + 1) y13_Ml y13_Mg)) k13 i2 x13_Ml x13_Mg)) → ((f_X5_layRound_Mb nl ro lt go bg sect) = (f_X5_layRound_13_Mb nl ro bg i1 sect (fun (y13_Ml : Nat → Int32) (y13_Mg : Nat → Int32) => (f_X5_layRound_4_Mb nl ro bg sect k4 (i1 + 1) y13_Ml y13_Mg)) k13 i2 x13_Ml x13_Mg)) → ∀ (H : Heap) (locs : List Loc), va_P D vwCl [(aM, .inr (5, [.ref aMp, .int (nI pl), .int (nI nl), .int mi, .int ofr, .ref aMr, .int (nI pe), .ref aMs, .ref aMl, .int bc, .int rd, .ref aMg, .ref aMb, .int (nI bk), .ref aMo, .int sd, .int ko, .int kpe, .int kmi, .int kbk, .ref aMkr, .ref aMks, .ref aMkb, .long ha])), (aMr, .inl (cI, 18, .inl ro)), (aMl, .inl (cI, 6, .inl x13_Ml)), (aMg, .inl (cI, 7, .inl x13_Mg)), (aMb, .inl (cI, 7, .inl bg))] H → va_D A [(aM, .inr (5, [.ref aMp, .int (nI pl), .int (nI nl), .int mi, .int ofr, .ref aMr, .int (nI pe), .ref aMs, .ref aMl, .int bc, .int rd, .ref aMg, .ref aMb, .int (nI bk), .ref aMo, .int sd, .int ko, .int kpe, .int kmi, .int kbk, .ref aMkr, .ref aMks, .ref aMkb, .long ha])), (aMr, .inl (cI, 18, .inl ro)), (aMl, .inl (cI, 6, .inl x13_Ml)), (aMg, .inl (cI, 7, .inl x13_Mg)), (aMb, .inl (cI, 7, .inl bg))] → va_S A s.heap H locs → ∀ ls : Array Slot, lv_has ls 5 [(0, .ref aM), (1, .int sect), (2, .int (nI (3 ^ i1))), (3, .int (nI (i1 + 1))), (4, .int (nI i2))] → W p l e rm_X5_layRound s m args below meth c H locs 0 0 Q (F0 m 13 ls []) := by
          intro k13
          induction k13 with
          | zero =>
            intro i2 x13_Ml x13_Mg hh13 h13_r h13_Ml h13_Mg h13_Mb H locs hP hD hS ls hl
            exact absurd hh13 (by omega)
          | succ k13 ih13 =>
            intro i2 x13_Ml x13_Mg hh13 h13_r h13_Ml h13_Mg h13_Mb H locs hP hD hS ls hl
            refine lv_iload hx hb dX5_layRound_13 (lv_at hl 4 rfl) ?_
            refine lv_iload_n hx hb dX5_layRound_15 rfl (lv_at hl 2 rfl) ?_
            refine lv_icmp_ge (tgt := 49) hx hb dX5_layRound_16 (by decide) (fun c2 => ?_) (fun c2 => ?_)
            · have q2 : 3 ^ i1 ≤ i2 := nle_d (a := 3 ^ i1) (b := i2) rfl rfl (by omega) (by omega) c2
              refine lv_iload_n hx hb dX5_layRound_49 rfl (lv_at hl 2 rfl) ?_
              refine lv_iconst (v := 3) hx hb dX5_layRound_50 (by decide) ?_
              refine lv_imul hx hb dX5_layRound_51 ?_
              refine lv_istore_n (lv' := [(2, .int (nI (3 ^ i1) * 3)), (0, .ref aM), (1, .int sect), (3, .int (nI (i1 + 1))), (4, .int (nI i2))]) hx hb dX5_layRound_52 rfl hl (by decide) rfl (fun ls hl => ?_)
              refine lv_iinc (v := nI ((i1 + 1) + 1)) (lv' := [(3, .int (nI ((i1 + 1) + 1))), (2, .int (nI (3 ^ i1) * 3)), (0, .ref aM), (1, .int sect), (4, .int (nI i2))]) hx hb dX5_layRound_53 hl (k := 3) rfl (nI_add (i1 + 1) 1) (by decide) rfl (fun ls hl => ?_)
              refine lv_goto (tgt := 4) hx hb dX5_layRound_56 (by decide) ?_
              have i_v2 : nI (3 ^ (i1 + 1)) = (nI (3 ^ i1) * 3) := (Eq.symm (ix_mul (x := 3 ^ i1) (y := 3) rfl rfl))
              exact ih4 (i1 + 1) x13_Ml x13_Mg (by omega) (h13_r.trans (by simp only [f_X5_layRound_13_r, if_pos c2])) (h13_Ml.trans (by simp only [f_X5_layRound_13_Ml, if_pos c2])) (h13_Mg.trans (by simp only [f_X5_layRound_13_Mg, if_pos c2])) (h13_Mb.trans (by simp only [f_X5_layRound_13_Mb, if_pos c2])) _ _ (hP) (hD) hS ls (by rw [i_v2]; exact lv_sub hl [2, 3, 1, 0] rfl)
            · have q2 : i2 < 3 ^ i1 := nle_e (a := 3 ^ i1) (b := i2) rfl rfl (by omega) (by omega) c2
              refine lv_aload_n hx hb dX5_layRound_19 rfl (lv_at hl 0 rfl) ?_
              refine lv_iload_n hx hb dX5_layRound_20 rfl (lv_at hl 1 rfl) ?_
              refine lv_iload_n hx hb dX5_layRound_21 rfl (lv_at hl 3 rfl) ?_
              refine lv_iload hx hb dX5_layRound_22 (lv_at hl 4 rfl) ?_
              refine xV (w2 := [(aM, .inr (5, [.ref aMp, .int (nI pl), .int (nI nl), .int mi, .int ofr, .ref aMr, .int (nI pe), .ref aMs, .ref aMl, .int bc, .int rd, .ref aMg, .ref aMb, .int (nI bk), .ref aMo, .int sd, .int ko, .int kpe, .int kmi, .int kbk, .ref aMkr, .ref aMks, .ref aMkb, .long ha])), (aMr, .inl (cI, 18, .inl ro)), (aMl, .inl (cI, 6, .inl (f_X5_isRound_Ml nl ro x13_Ml x13_Mg (nI i2) (i1 + 1) sect))), (aMg, .inl (cI, 7, .inl (f_X5_isRound_Mg nl ro x13_Ml x13_Mg (nI i2) (i1 + 1) sect))), (aMb, .inl (cI, 7, .inl bg))]) ⟨hx, hb, hml, hown, hts⟩ (c_X5_isRound l D cI aM aMp aMr aMs aMl aMg aMb aMo aMkr aMks aMkb ofr rd pl nl mi pe kmi kpe bc bk sd ko kbk ha ro x13_Ml x13_Mg (nI i2) (i1 + 1) sect hn (by omega) (by omega)) (cwV 3 hts gX5_layRound_X5_isRound rfl rfl rfl hd_X5_isRound ⟨Nat.le_of_ble_eq_true rfl, Nat.le_of_ble_eq_true rfl⟩) hK hP hD hS hA [0, 1, 2, 3] [4] [1, 2, 3, 4, 0] rfl rfl rfl rfl rfl (by decide) rfl rfl rfl 0 rfl rfl rfl rfl hl.1 (rest := []) (st' := [.int (f_X5_isRound nl ro x13_Ml x13_Mg (nI i2) (i1 + 1) sect)]) rfl rfl (Nat.le_of_ble_eq_true rfl) dX5_layRound_24 ⟨Nat.zero_le _, Nat.zero_le _⟩ (fun H locs hP hD hS => ?_)
              refine lv_if_eq (tgt := 43) hx hb dX5_layRound_27 (by decide) (fun c3 => ?_) (fun c3 => ?_)
              · refine lv_iinc (v := nI (i2 + 1)) (lv' := [(4, .int (nI (i2 + 1))), (0, .ref aM), (1, .int sect), (2, .int (nI (3 ^ i1))), (3, .int (nI (i1 + 1)))]) hx hb dX5_layRound_43 hl (k := 4) rfl (nI_add i2 1) (by decide) rfl (fun ls hl => ?_)
                refine lv_goto (tgt := 13) hx hb dX5_layRound_46 (by decide) ?_
                exact ih13 (i2 + 1) (f_X5_isRound_Ml nl ro x13_Ml x13_Mg (nI i2) (i1 + 1) sect) (f_X5_isRound_Mg nl ro x13_Ml x13_Mg (nI i2) (i1 + 1) sect) (by omega) (h13_r.trans (by simp only [f_X5_layRound_13_r, if_neg c2, if_pos c3])) (h13_Ml.trans (by simp only [f_X5_layRound_13_Ml, if_neg c2, if_pos c3])) (h13_Mg.trans (by simp only [f_X5_layRound_13_Mg, if_neg c2, if_pos c3])) (h13_Mb.trans (by simp only [f_X5_layRound_13_Mb, if_neg c2, if_pos c3])) _ _ (hP) (hD) hS ls (lv_sub hl [1, 2, 3, 4, 0] rfl)
              · refine lv_aload_n hx hb dX5_layRound_30 rfl (lv_at hl 0 rfl) ?_
                refine va_get (D := D) (ci := 5) (v := .ref aMg) (C := RX5) (T := TX5) (N := 24) hx hb hts uX5 hown hK hP 0 rfl rfl 11 (by decide) w1 (fun _ h9 => h9) rfl dX5_layRound_31 ?_
                refine lv_aload_n hx hb dX5_layRound_34 rfl (lv_at hl 0 rfl) ?_
                refine va_get (D := D) (ci := 5) (v := .ref aMb) (C := RX5) (T := TX5) (N := 24) hx hb hts uX5 hown hK hP 0 rfl rfl 12 (by decide) w2 (fun _ h9 => h9) rfl dX5_layRound_35 ?_
                refine xS (w2 := [(aM, .inr (5, [.ref aMp, .int (nI pl), .int (nI nl), .int mi, .int ofr, .ref aMr, .int (nI pe), .ref aMs, .ref aMl, .int bc, .int rd, .ref aMg, .ref aMb, .int (nI bk), .ref aMo, .int sd, .int ko, .int kpe, .int kmi, .int kbk, .ref aMkr, .ref aMks, .ref aMkb, .long ha])), (aMr, .inl (cI, 18, .inl ro)), (aMl, .inl (cI, 6, .inl (f_X5_isRound_Ml nl ro x13_Ml x13_Mg (nI i2) (i1 + 1) sect))), (aMg, .inl (cI, 7, .inl (f_X5_isRound_Mg nl ro x13_Ml x13_Mg (nI i2) (i1 + 1) sect))), (aMb, .inl (cI, 7, .inl (f_X5_copy_G (f_X5_isRound_Mg nl ro x13_Ml x13_Mg (nI i2) (i1 + 1) sect) bg 7)))]) ⟨hx, hb, hml, hown, hts⟩ (c_X5_copy l D cI aMg aMb (f_X5_isRound_Mg nl ro x13_Ml x13_Mg (nI i2) (i1 + 1) sect) bg 7 7 (by decide) (by decide)) (va_cwS 2 hts gX5_layRound_X5_copy rfl rfl rfl hd_X5_copy ⟨Nat.le_of_ble_eq_true rfl, Nat.le_of_ble_eq_true rfl⟩) hK hP hD hS hA [3, 4] [0, 1, 2] [0, 1, 2, 3, 4] rfl rfl rfl rfl rfl (by decide) rfl rfl rfl rfl hl.1 (rest := []) (st' := []) rfl rfl (Nat.le_of_ble_eq_true rfl) dX5_layRound_38 ⟨Nat.zero_le _, Nat.zero_le _⟩ (fun H locs hP hD hS => ?_)
                refine lv_iload_n hx hb dX5_layRound_41 rfl (lv_at hl 3 rfl) ?_
                have e_Ml : (f_X5_layRound_Ml nl ro lt go sect) = (f_X5_isRound_Ml nl ro x13_Ml x13_Mg (nI i2) (i1 + 1) sect) := (h13_Ml.trans (by simp only [f_X5_layRound_13_Ml, if_neg c2, if_neg c3]))
                have e_Mg : (f_X5_layRound_Mg nl ro lt go sect) = (f_X5_isRound_Mg nl ro x13_Ml x13_Mg (nI i2) (i1 + 1) sect) := (h13_Mg.trans (by simp only [f_X5_layRound_13_Mg, if_neg c2, if_neg c3]))
                have e_Mb : (f_X5_layRound_Mb nl ro lt go bg sect) = (f_X5_copy_G (f_X5_isRound_Mg nl ro x13_Ml x13_Mg (nI i2) (i1 + 1) sect) bg 7) := (h13_Mb.trans (by simp only [f_X5_layRound_13_Mb, if_neg c2, if_neg c3]))
                exact eXi hx hb hr hlk hQ (by rw [e_Ml, e_Mg, e_Mb]; exact hP) (by rw [e_Ml, e_Mg, e_Mb]; exact hD) hS dX5_layRound_42 (Eq.symm (h13_r.trans (by simp only [f_X5_layRound_13_r, if_neg c2, if_neg c3])))
        exact lp13 (3 ^ i1 + 1) 0 x4_Ml x4_Mg ⟨Nat.zero_le _, by rw [Nat.zero_add]; exact Nat.lt_succ_self _⟩ (h4_r.trans (by simp only [f_X5_layRound_4_r, if_neg c1])) (h4_Ml.trans (by simp only [f_X5_layRound_4_Ml, if_neg c1])) (h4_Mg.trans (by simp only [f_X5_layRound_4_Mg, if_neg c1])) (h4_Mb.trans (by simp only [f_X5_layRound_4_Mb, if_neg c1])) _ _ hP hD hS ls (lv_sub hl [1, 2, 3, 4, 0] rfl)
  exact lp4 8 0 lt go (by omega) (by simp only [f_X5_layRound]) (by simp only [f_X5_layRound_Ml]) (by simp only [f_X5_layRound_Mg]) (by simp only [f_X5_layRound_Mb]) _ _ hP hD hS ls (lv_sub hl [2, 3, 1, 0] rfl)

theorem vin_what {x : Int32} (h : ¬ f_X5_in x.toInt64 10 16 = 0) : vp_in (x - 10) 7 := by
  obtain ⟨h1, h2, h3⟩ := in_nat (a := 10) (b := 16) rfl rfl (by decide) (by decide) h
  rw [h1, show (nI x.toNatClampNeg - 10 : Int32) = nI (x.toNatClampNeg - 10) from ix_sub (y := 10) h2 rfl rfl]
  exact vp_in_nI (by omega) (by decide)

def rm_X5_round : Room := { frames := 4, cells := 0, slots := 0, locals := 97 }
def f_X5_round (rd : Int32) (nl : Nat) (ro : Nat → Int32) (lt : Nat → Int32) (go : Nat → Int32) (bg : Nat → Int32) (sect : Int32) (what : Int32) : Int32 := (if (f_X5_isLamp nl sect) = 0 then (-101) else (if what = 0 then (if rd = 20 then (-103) else (f_X5_layRound nl ro lt go sect)) else (if (f_X5_in (what.toInt64) 10 16) = 0 then (-102) else (if rd = 20 then (-103) else (if (f_X5_layRound nl ro lt go sect) = (-1) then (f_X5_layRound nl ro lt go sect) else (if (f_X5_layRound nl ro lt go sect) ≤ (what - 10) then (-1) else ((f_X5_layRound_Mb nl ro lt go bg sect) (what - 10).toNatClampNeg)))))))
def f_X5_round_M_10 (rd : Int32) (nl : Nat) (sect : Int32) (what : Int32) : Int32 := (if (f_X5_isLamp nl sect) = 0 then rd else (if what = 0 then (if rd = 20 then rd else (rd + 1)) else (if (f_X5_in (what.toInt64) 10 16) = 0 then rd else (if rd = 20 then rd else (rd + 1)))))
def f_X5_round_Ml (rd : Int32) (nl : Nat) (ro : Nat → Int32) (lt : Nat → Int32) (go : Nat → Int32) (sect : Int32) (what : Int32) : Nat → Int32 := (if (f_X5_isLamp nl sect) = 0 then lt else (if what = 0 then (if rd = 20 then lt else (f_X5_layRound_Ml nl ro lt go sect)) else (if (f_X5_in (what.toInt64) 10 16) = 0 then lt else (if rd = 20 then lt else (f_X5_layRound_Ml nl ro lt go sect)))))
def f_X5_round_Mg (rd : Int32) (nl : Nat) (ro : Nat → Int32) (lt : Nat → Int32) (go : Nat → Int32) (sect : Int32) (what : Int32) : Nat → Int32 := (if (f_X5_isLamp nl sect) = 0 then go else (if what = 0 then (if rd = 20 then go else (f_X5_layRound_Mg nl ro lt go sect)) else (if (f_X5_in (what.toInt64) 10 16) = 0 then go else (if rd = 20 then go else (f_X5_layRound_Mg nl ro lt go sect)))))
def f_X5_round_Mb (rd : Int32) (nl : Nat) (ro : Nat → Int32) (lt : Nat → Int32) (go : Nat → Int32) (bg : Nat → Int32) (sect : Int32) (what : Int32) : Nat → Int32 := (if (f_X5_isLamp nl sect) = 0 then bg else (if what = 0 then (if rd = 20 then bg else (f_X5_layRound_Mb nl ro lt go bg sect)) else (if (f_X5_in (what.toInt64) 10 16) = 0 then bg else (if rd = 20 then bg else (f_X5_layRound_Mb nl ro lt go bg sect)))))
theorem hd_X5_round : yX5_round.cls = RX5 ∧ yX5_round.cls ≠ "java/lang/invoke/MethodHandle" ∧ yX5_round.cls ≠ "java/lang/invoke/VarHandle" ∧ (parseMethodDescriptor yX5_round.desc).map (fun d => d.parameters.length) = some 2 := by decide +kernel
set_option maxHeartbeats 4000000 in
set_option maxRecDepth 100000 in
theorem c_X5_round (l : Launch) (D : va_G) (cI : ClassId) (aM aMp aMr aMs aMl aMg aMb aMo aMkr aMks aMkb : Nat) (ofr : Int32) (rd : Int32) (pl : Nat) (nl : Nat) (mi : Int32) (pe : Nat) (kmi : Int32) (kpe : Int32) (bc : Int32) (bk : Nat) (sd : Int32) (ko : Int32) (kbk : Int32) (ha : Int64) (ro : Nat → Int32) (lt : Nat → Int32) (go : Nat → Int32) (bg : Nat → Int32) (sect : Int32) (what : Int32) (hn : nl ≤ 6) : MetX l yX5_round wsX5_round rm_X5_round D cI [.ref aM, .int sect, .int what] [(aM, .inr (5, [.ref aMp, .int (nI pl), .int (nI nl), .int mi, .int ofr, .ref aMr, .int (nI pe), .ref aMs, .ref aMl, .int bc, .int rd, .ref aMg, .ref aMb, .int (nI bk), .ref aMo, .int sd, .int ko, .int kpe, .int kmi, .int kbk, .ref aMkr, .ref aMks, .ref aMkb, .long ha])), (aMr, .inl (cI, 18, .inl ro)), (aMl, .inl (cI, 6, .inl lt)), (aMg, .inl (cI, 7, .inl go)), (aMb, .inl (cI, 7, .inl bg))] (some (.int (f_X5_round rd nl ro lt go bg sect what))) [(aM, .inr (5, [.ref aMp, .int (nI pl), .int (nI nl), .int mi, .int ofr, .ref aMr, .int (nI pe), .ref aMs, .ref aMl, .int bc, .int (f_X5_round_M_10 rd nl sect what), .ref aMg, .ref aMb, .int (nI bk), .ref aMo, .int sd, .int ko, .int kpe, .int kmi, .int kbk, .ref aMkr, .ref aMks, .ref aMkb, .long ha])), (aMr, .inl (cI, 18, .inl ro)), (aMl, .inl (cI, 6, .inl (f_X5_round_Ml rd nl ro lt go sect what))), (aMg, .inl (cI, 7, .inl (f_X5_round_Mg rd nl ro lt go sect what))), (aMb, .inl (cI, 7, .inl (f_X5_round_Mb rd nl ro lt go bg sect what)))] := by
  refine mX (cc := cX5_round) (maxL := 4) (ret := (some .int)) (by decide) rfl (Nat.le_of_ble_eq_true rfl) ?_
  intro p e s m args below meth c Q A hx hb hr hml hown hts hlk hP hK hD hA hS hQ ls hl
  have hown : s.vm.findClass RX5 = some m.cls := hown
  have hl : lv_has ls 4 [(0, .ref aM), (1, .int sect), (2, .int what)] := hl
  have w3 := hts (.fieldLink RX5 155 "DarkOfficeModel" "roundMany" "I") (List.mem_of_getElem? (i := 3) rfl)
  have uX5 : ∀ w ∈ wsX50, w ∈ wsX5_round := fun _ h => List.mem_cons_of_mem _ (List.mem_append_right _ h)
  have w1 := hts (.constantLong RX5 135 (10)) (List.mem_of_getElem? (i := 1) rfl)
  have w2 := hts (.constantLong RX5 153 (16)) (List.mem_of_getElem? (i := 2) rfl)
  have w4 := hts (.fieldLink RX5 25 "DarkOfficeModel" "bestGoing" "[I") (List.mem_of_getElem? (i := 4) rfl)
  refine lv_aload_n hx hb dX5_round_0 rfl (lv_at hl 0 rfl) ?_
  refine lv_iload_n hx hb dX5_round_1 rfl (lv_at hl 1 rfl) ?_
  refine rV ⟨hx, hb, hml, hown, hts⟩ (c_X5_isLamp l D cI aM aMp aMr aMs aMl aMg aMb aMo aMkr aMks aMkb ofr rd pl nl mi pe kmi kpe bc bk sd ko kbk ha sect) (cwV 1 hts gX5_round_X5_isLamp rfl rfl rfl hd_X5_isLamp ⟨Nat.le_of_ble_eq_true rfl, Nat.le_of_ble_eq_true rfl⟩) hK (hP.sub [0] rfl) 0 rfl rfl rfl rfl hl.1 (rest := []) (st' := [.int (f_X5_isLamp nl sect)]) rfl rfl (Nat.le_of_ble_eq_true rfl) dX5_round_2 ⟨Nat.zero_le _, Nat.zero_le _⟩ ?_
  refine lv_if_ne (tgt := 11) hx hb dX5_round_5 (by decide) (fun c1 => ?_) (fun c1 => ?_)
  · refine lv_iload_n hx hb dX5_round_11 rfl (lv_at hl 2 rfl) ?_
    refine lv_if_eq (tgt := 32) hx hb dX5_round_12 (by decide) (fun c2 => ?_) (fun c2 => ?_)
    · refine lv_aload_n hx hb dX5_round_32 rfl (lv_at hl 0 rfl) ?_
      refine va_get (D := D) (ci := 5) (v := .int rd) (C := RX5) (T := TX5) (N := 24) hx hb hts uX5 hown hK hP 0 rfl rfl 10 (by decide) w3 (fun _ h9 => h9) rfl dX5_round_33 ?_
      refine lv_bipush (v := 20) hx hb dX5_round_36 (by decide) ?_
      refine lv_icmp_ne (tgt := 44) hx hb dX5_round_38 (by decide) (fun c3 => ?_) (fun c3 => ?_)
      · refine lv_aload_n hx hb dX5_round_44 rfl (lv_at hl 0 rfl) ?_
        refine lv_dup hx hb dX5_round_45 rfl ?_
        refine va_get (D := D) (ci := 5) (v := .int rd) (C := RX5) (T := TX5) (N := 24) hx hb hts uX5 hown hK hP 0 rfl rfl 10 (by decide) w3 (fun _ h9 => h9) rfl dX5_round_46 ?_
        refine lv_iconst (v := 1) hx hb dX5_round_49 (by decide) ?_
        refine lv_iadd hx hb dX5_round_50 ?_
        refine va_put (D := D) (ci := 5) (v := .int (rd + 1)) (ty := .int) (C := RX5) (T := TX5) (N := 24) hx hb hts uX5 tyX5 tyX5_ok nmX5 hown hK hP hD hS 0 rfl rfl 10 (by decide) w3 (fun _ h9 => h9) rfl (by decide +kernel) rfl rfl (Nat.le_of_ble_eq_true rfl) dX5_round_51 (fun H locs hP hD hS => ?_)
        have hP : va_P D vwCl [(aM, .inr (5, [.ref aMp, .int (nI pl), .int (nI nl), .int mi, .int ofr, .ref aMr, .int (nI pe), .ref aMs, .ref aMl, .int bc, .int (rd + 1), .ref aMg, .ref aMb, .int (nI bk), .ref aMo, .int sd, .int ko, .int kpe, .int kmi, .int kbk, .ref aMkr, .ref aMks, .ref aMkb, .long ha])), (aMr, .inl (cI, 18, .inl ro)), (aMl, .inl (cI, 6, .inl lt)), (aMg, .inl (cI, 7, .inl go)), (aMb, .inl (cI, 7, .inl bg))] H := hP
        have hD : va_D A [(aM, .inr (5, [.ref aMp, .int (nI pl), .int (nI nl), .int mi, .int ofr, .ref aMr, .int (nI pe), .ref aMs, .ref aMl, .int bc, .int (rd + 1), .ref aMg, .ref aMb, .int (nI bk), .ref aMo, .int sd, .int ko, .int kpe, .int kmi, .int kbk, .ref aMkr, .ref aMks, .ref aMkb, .long ha])), (aMr, .inl (cI, 18, .inl ro)), (aMl, .inl (cI, 6, .inl lt)), (aMg, .inl (cI, 7, .inl go)), (aMb, .inl (cI, 7, .inl bg))] := hD
        refine lv_aload_n hx hb dX5_round_54 rfl (lv_at hl 0 rfl) ?_
        refine lv_iload_n hx hb dX5_round_55 rfl (lv_at hl 1 rfl) ?_
        refine xV (w2 := [(aM, .inr (5, [.ref aMp, .int (nI pl), .int (nI nl), .int mi, .int ofr, .ref aMr, .int (nI pe), .ref aMs, .ref aMl, .int bc, .int (rd + 1), .ref aMg, .ref aMb, .int (nI bk), .ref aMo, .int sd, .int ko, .int kpe, .int kmi, .int kbk, .ref aMkr, .ref aMks, .ref aMkb, .long ha])), (aMr, .inl (cI, 18, .inl ro)), (aMl, .inl (cI, 6, .inl (f_X5_layRound_Ml nl ro lt go sect))), (aMg, .inl (cI, 7, .inl (f_X5_layRound_Mg nl ro lt go sect))), (aMb, .inl (cI, 7, .inl (f_X5_layRound_Mb nl ro lt go bg sect)))]) ⟨hx, hb, hml, hown, hts⟩ (c_X5_layRound l D cI aM aMp aMr aMs aMl aMg aMb aMo aMkr aMks aMkb ofr (rd + 1) pl nl mi pe kmi kpe bc bk sd ko kbk ha ro lt go bg sect hn) (cwV 1 hts gX5_round_X5_layRound rfl rfl rfl hd_X5_layRound ⟨Nat.le_of_ble_eq_true rfl, Nat.le_of_ble_eq_true rfl⟩) hK hP hD hS hA [0, 1, 2, 3, 4] [] [0, 1, 2, 3, 4] rfl rfl rfl rfl rfl (by decide) rfl rfl rfl 0 rfl rfl rfl rfl hl.1 (rest := []) (st' := [.int (f_X5_layRound nl ro lt go sect)]) rfl rfl (Nat.le_of_ble_eq_true rfl) dX5_round_56 ⟨Nat.zero_le _, Nat.zero_le _⟩ (fun H locs hP hD hS => ?_)
        refine lv_istore_n (lv' := [(3, .int (f_X5_layRound nl ro lt go sect)), (0, .ref aM), (1, .int sect), (2, .int what)]) hx hb dX5_round_59 rfl hl (by decide) rfl (fun ls hl => ?_)
        refine lv_iload_n hx hb dX5_round_60 rfl (lv_at hl 3 rfl) ?_
        refine lv_if_eq (tgt := 69) hx hb dX5_round_61 (by decide) (fun _ => ?_) (fun c => absurd c2 c)
        refine lv_iload_n hx hb dX5_round_69 rfl (lv_at hl 0 rfl) ?_
        refine lv_goto (tgt := 94) hx hb dX5_round_70 (by decide) ?_
        have e_M_10 : (f_X5_round_M_10 rd nl sect what) = (rd + 1) := (by simp only [f_X5_round_M_10, if_neg c1, if_pos c2, if_neg c3])
        have e_Ml : (f_X5_round_Ml rd nl ro lt go sect what) = (f_X5_layRound_Ml nl ro lt go sect) := (by simp only [f_X5_round_Ml, if_neg c1, if_pos c2, if_neg c3])
        have e_Mg : (f_X5_round_Mg rd nl ro lt go sect what) = (f_X5_layRound_Mg nl ro lt go sect) := (by simp only [f_X5_round_Mg, if_neg c1, if_pos c2, if_neg c3])
        have e_Mb : (f_X5_round_Mb rd nl ro lt go bg sect what) = (f_X5_layRound_Mb nl ro lt go bg sect) := (by simp only [f_X5_round_Mb, if_neg c1, if_pos c2, if_neg c3])
        exact eXi hx hb hr hlk hQ (by rw [e_M_10, e_Ml, e_Mg, e_Mb]; exact hP) (by rw [e_M_10, e_Ml, e_Mg, e_Mb]; exact hD) hS dX5_round_94 (Eq.symm (by simp only [f_X5_round, if_neg c1, if_pos c2, if_neg c3]))
      · refine lv_bipush (v := (-103)) hx hb dX5_round_41 (by decide) ?_
        have e_M_10 : (f_X5_round_M_10 rd nl sect what) = rd := (by simp only [f_X5_round_M_10, if_neg c1, if_pos c2, if_pos c3])
        have e_Ml : (f_X5_round_Ml rd nl ro lt go sect what) = lt := (by simp only [f_X5_round_Ml, if_neg c1, if_pos c2, if_pos c3])
        have e_Mg : (f_X5_round_Mg rd nl ro lt go sect what) = go := (by simp only [f_X5_round_Mg, if_neg c1, if_pos c2, if_pos c3])
        have e_Mb : (f_X5_round_Mb rd nl ro lt go bg sect what) = bg := (by simp only [f_X5_round_Mb, if_neg c1, if_pos c2, if_pos c3])
        exact eXi hx hb hr hlk hQ (by rw [e_M_10, e_Ml, e_Mg, e_Mb]; exact hP) (by rw [e_M_10, e_Ml, e_Mg, e_Mb]; exact hD) hS dX5_round_43 (Eq.symm (by simp only [f_X5_round, if_neg c1, if_pos c2, if_pos c3]))
    · refine lv_iload_n hx hb dX5_round_15 rfl (lv_at hl 2 rfl) ?_
      refine lv_i2l (v := what.toInt64) hx hb dX5_round_16 rfl ?_
      refine lv_ldc2 (v := 10) hx hb hown w1 dX5_round_17 ?_
      refine lv_ldc2 (v := 16) hx hb hown w2 dX5_round_20 ?_
      refine rS ⟨hx, hb, hml, hown, hts⟩ (c_X5_in l D cI (what.toInt64) 10 16) (va_cwS 3 hts gX5_round_X5_in rfl rfl rfl hd_X5_in ⟨Nat.le_of_ble_eq_true rfl, Nat.le_of_ble_eq_true rfl⟩) hK (hP.sub [] rfl) rfl hl.1 (rest := []) (st' := [.int (f_X5_in (what.toInt64) 10 16)]) rfl rfl (Nat.le_of_ble_eq_true rfl) dX5_round_23 ⟨Nat.zero_le _, Nat.zero_le _⟩ ?_
      refine lv_if_ne (tgt := 32) hx hb dX5_round_26 (by decide) (fun c4 => ?_) (fun c4 => ?_)
      · refine lv_aload_n hx hb dX5_round_32 rfl (lv_at hl 0 rfl) ?_
        refine va_get (D := D) (ci := 5) (v := .int rd) (C := RX5) (T := TX5) (N := 24) hx hb hts uX5 hown hK hP 0 rfl rfl 10 (by decide) w3 (fun _ h9 => h9) rfl dX5_round_33 ?_
        refine lv_bipush (v := 20) hx hb dX5_round_36 (by decide) ?_
        refine lv_icmp_ne (tgt := 44) hx hb dX5_round_38 (by decide) (fun c5 => ?_) (fun c5 => ?_)
        · refine lv_aload_n hx hb dX5_round_44 rfl (lv_at hl 0 rfl) ?_
          refine lv_dup hx hb dX5_round_45 rfl ?_
          refine va_get (D := D) (ci := 5) (v := .int rd) (C := RX5) (T := TX5) (N := 24) hx hb hts uX5 hown hK hP 0 rfl rfl 10 (by decide) w3 (fun _ h9 => h9) rfl dX5_round_46 ?_
          refine lv_iconst (v := 1) hx hb dX5_round_49 (by decide) ?_
          refine lv_iadd hx hb dX5_round_50 ?_
          refine va_put (D := D) (ci := 5) (v := .int (rd + 1)) (ty := .int) (C := RX5) (T := TX5) (N := 24) hx hb hts uX5 tyX5 tyX5_ok nmX5 hown hK hP hD hS 0 rfl rfl 10 (by decide) w3 (fun _ h9 => h9) rfl (by decide +kernel) rfl rfl (Nat.le_of_ble_eq_true rfl) dX5_round_51 (fun H locs hP hD hS => ?_)
          have hP : va_P D vwCl [(aM, .inr (5, [.ref aMp, .int (nI pl), .int (nI nl), .int mi, .int ofr, .ref aMr, .int (nI pe), .ref aMs, .ref aMl, .int bc, .int (rd + 1), .ref aMg, .ref aMb, .int (nI bk), .ref aMo, .int sd, .int ko, .int kpe, .int kmi, .int kbk, .ref aMkr, .ref aMks, .ref aMkb, .long ha])), (aMr, .inl (cI, 18, .inl ro)), (aMl, .inl (cI, 6, .inl lt)), (aMg, .inl (cI, 7, .inl go)), (aMb, .inl (cI, 7, .inl bg))] H := hP
          have hD : va_D A [(aM, .inr (5, [.ref aMp, .int (nI pl), .int (nI nl), .int mi, .int ofr, .ref aMr, .int (nI pe), .ref aMs, .ref aMl, .int bc, .int (rd + 1), .ref aMg, .ref aMb, .int (nI bk), .ref aMo, .int sd, .int ko, .int kpe, .int kmi, .int kbk, .ref aMkr, .ref aMks, .ref aMkb, .long ha])), (aMr, .inl (cI, 18, .inl ro)), (aMl, .inl (cI, 6, .inl lt)), (aMg, .inl (cI, 7, .inl go)), (aMb, .inl (cI, 7, .inl bg))] := hD
          refine lv_aload_n hx hb dX5_round_54 rfl (lv_at hl 0 rfl) ?_
          refine lv_iload_n hx hb dX5_round_55 rfl (lv_at hl 1 rfl) ?_
          refine xV (w2 := [(aM, .inr (5, [.ref aMp, .int (nI pl), .int (nI nl), .int mi, .int ofr, .ref aMr, .int (nI pe), .ref aMs, .ref aMl, .int bc, .int (rd + 1), .ref aMg, .ref aMb, .int (nI bk), .ref aMo, .int sd, .int ko, .int kpe, .int kmi, .int kbk, .ref aMkr, .ref aMks, .ref aMkb, .long ha])), (aMr, .inl (cI, 18, .inl ro)), (aMl, .inl (cI, 6, .inl (f_X5_layRound_Ml nl ro lt go sect))), (aMg, .inl (cI, 7, .inl (f_X5_layRound_Mg nl ro lt go sect))), (aMb, .inl (cI, 7, .inl (f_X5_layRound_Mb nl ro lt go bg sect)))]) ⟨hx, hb, hml, hown, hts⟩ (c_X5_layRound l D cI aM aMp aMr aMs aMl aMg aMb aMo aMkr aMks aMkb ofr (rd + 1) pl nl mi pe kmi kpe bc bk sd ko kbk ha ro lt go bg sect hn) (cwV 1 hts gX5_round_X5_layRound rfl rfl rfl hd_X5_layRound ⟨Nat.le_of_ble_eq_true rfl, Nat.le_of_ble_eq_true rfl⟩) hK hP hD hS hA [0, 1, 2, 3, 4] [] [0, 1, 2, 3, 4] rfl rfl rfl rfl rfl (by decide) rfl rfl rfl 0 rfl rfl rfl rfl hl.1 (rest := []) (st' := [.int (f_X5_layRound nl ro lt go sect)]) rfl rfl (Nat.le_of_ble_eq_true rfl) dX5_round_56 ⟨Nat.zero_le _, Nat.zero_le _⟩ (fun H locs hP hD hS => ?_)
          refine lv_istore_n (lv' := [(3, .int (f_X5_layRound nl ro lt go sect)), (0, .ref aM), (1, .int sect), (2, .int what)]) hx hb dX5_round_59 rfl hl (by decide) rfl (fun ls hl => ?_)
          refine lv_iload_n hx hb dX5_round_60 rfl (lv_at hl 3 rfl) ?_
          refine lv_if_eq (tgt := 69) hx hb dX5_round_61 (by decide) (fun c => absurd c c2) (fun _ => ?_)
          refine lv_iload_n hx hb dX5_round_64 rfl (lv_at hl 0 rfl) ?_
          refine lv_iconst (v := (-1)) hx hb dX5_round_65 (by decide) ?_
          refine lv_icmp_ne (tgt := 73) hx hb dX5_round_66 (by decide) (fun c6 => ?_) (fun c6 => ?_)
          · refine lv_iload_n hx hb dX5_round_73 rfl (lv_at hl 3 rfl) ?_
            refine lv_bipush (v := 10) hx hb dX5_round_74 (by decide) ?_
            refine lv_isub hx hb dX5_round_76 ?_
            refine lv_iload_n hx hb dX5_round_77 rfl (lv_at hl 0 rfl) ?_
            refine lv_icmp_ge (tgt := 93) hx hb dX5_round_78 (by decide) (fun c7 => ?_) (fun c7 => ?_)
            · refine lv_iconst (v := (-1)) hx hb dX5_round_93 (by decide) ?_
              have e_M_10 : (f_X5_round_M_10 rd nl sect what) = (rd + 1) := (by simp only [f_X5_round_M_10, if_neg c1, if_neg c2, if_neg c4, if_neg c5, if_neg c6, if_pos c7])
              have e_Ml : (f_X5_round_Ml rd nl ro lt go sect what) = (f_X5_layRound_Ml nl ro lt go sect) := (by simp only [f_X5_round_Ml, if_neg c1, if_neg c2, if_neg c4, if_neg c5, if_neg c6, if_pos c7])
              have e_Mg : (f_X5_round_Mg rd nl ro lt go sect what) = (f_X5_layRound_Mg nl ro lt go sect) := (by simp only [f_X5_round_Mg, if_neg c1, if_neg c2, if_neg c4, if_neg c5, if_neg c6, if_pos c7])
              have e_Mb : (f_X5_round_Mb rd nl ro lt go bg sect what) = (f_X5_layRound_Mb nl ro lt go bg sect) := (by simp only [f_X5_round_Mb, if_neg c1, if_neg c2, if_neg c4, if_neg c5, if_neg c6, if_pos c7])
              exact eXi hx hb hr hlk hQ (by rw [e_M_10, e_Ml, e_Mg, e_Mb]; exact hP) (by rw [e_M_10, e_Ml, e_Mg, e_Mb]; exact hD) hS dX5_round_94 (Eq.symm (by simp only [f_X5_round, if_neg c1, if_neg c2, if_neg c4, if_neg c5, if_neg c6, if_pos c7]))
            · refine lv_aload_n hx hb dX5_round_81 rfl (lv_at hl 1 rfl) ?_
              refine va_get (D := D) (ci := 5) (v := .ref aMb) (C := RX5) (T := TX5) (N := 24) hx hb hts uX5 hown hK hP 0 rfl rfl 12 (by decide) w4 (fun _ h9 => h9) rfl dX5_round_82 ?_
              refine lv_iload_n hx hb dX5_round_85 rfl (lv_at hl 3 rfl) ?_
              refine lv_bipush (v := 10) hx hb dX5_round_86 (by decide) ?_
              refine lv_isub hx hb dX5_round_88 ?_
              refine va_iald hx hb hK hP 4 0 rfl rfl (vin_what c4) dX5_round_89 ?_
              refine lv_goto (tgt := 94) hx hb dX5_round_90 (by decide) ?_
              have e_M_10 : (f_X5_round_M_10 rd nl sect what) = (rd + 1) := (by simp only [f_X5_round_M_10, if_neg c1, if_neg c2, if_neg c4, if_neg c5, if_neg c6, if_neg c7])
              have e_Ml : (f_X5_round_Ml rd nl ro lt go sect what) = (f_X5_layRound_Ml nl ro lt go sect) := (by simp only [f_X5_round_Ml, if_neg c1, if_neg c2, if_neg c4, if_neg c5, if_neg c6, if_neg c7])
              have e_Mg : (f_X5_round_Mg rd nl ro lt go sect what) = (f_X5_layRound_Mg nl ro lt go sect) := (by simp only [f_X5_round_Mg, if_neg c1, if_neg c2, if_neg c4, if_neg c5, if_neg c6, if_neg c7])
              have e_Mb : (f_X5_round_Mb rd nl ro lt go bg sect what) = (f_X5_layRound_Mb nl ro lt go bg sect) := (by simp only [f_X5_round_Mb, if_neg c1, if_neg c2, if_neg c4, if_neg c5, if_neg c6, if_neg c7])
              exact eXi hx hb hr hlk hQ (by rw [e_M_10, e_Ml, e_Mg, e_Mb]; exact hP) (by rw [e_M_10, e_Ml, e_Mg, e_Mb]; exact hD) hS dX5_round_94 (Eq.symm (by simp only [f_X5_round, if_neg c1, if_neg c2, if_neg c4, if_neg c5, if_neg c6, if_neg c7]))
          · refine lv_iload_n hx hb dX5_round_69 rfl (lv_at hl 0 rfl) ?_
            refine lv_goto (tgt := 94) hx hb dX5_round_70 (by decide) ?_
            have e_M_10 : (f_X5_round_M_10 rd nl sect what) = (rd + 1) := (by simp only [f_X5_round_M_10, if_neg c1, if_neg c2, if_neg c4, if_neg c5, if_pos c6])
            have e_Ml : (f_X5_round_Ml rd nl ro lt go sect what) = (f_X5_layRound_Ml nl ro lt go sect) := (by simp only [f_X5_round_Ml, if_neg c1, if_neg c2, if_neg c4, if_neg c5, if_pos c6])
            have e_Mg : (f_X5_round_Mg rd nl ro lt go sect what) = (f_X5_layRound_Mg nl ro lt go sect) := (by simp only [f_X5_round_Mg, if_neg c1, if_neg c2, if_neg c4, if_neg c5, if_pos c6])
            have e_Mb : (f_X5_round_Mb rd nl ro lt go bg sect what) = (f_X5_layRound_Mb nl ro lt go bg sect) := (by simp only [f_X5_round_Mb, if_neg c1, if_neg c2, if_neg c4, if_neg c5, if_pos c6])
            exact eXi hx hb hr hlk hQ (by rw [e_M_10, e_Ml, e_Mg, e_Mb]; exact hP) (by rw [e_M_10, e_Ml, e_Mg, e_Mb]; exact hD) hS dX5_round_94 (Eq.symm (by simp only [f_X5_round, if_neg c1, if_neg c2, if_neg c4, if_neg c5, if_pos c6]))
        · refine lv_bipush (v := (-103)) hx hb dX5_round_41 (by decide) ?_
          have e_M_10 : (f_X5_round_M_10 rd nl sect what) = rd := (by simp only [f_X5_round_M_10, if_neg c1, if_neg c2, if_neg c4, if_pos c5])
          have e_Ml : (f_X5_round_Ml rd nl ro lt go sect what) = lt := (by simp only [f_X5_round_Ml, if_neg c1, if_neg c2, if_neg c4, if_pos c5])
          have e_Mg : (f_X5_round_Mg rd nl ro lt go sect what) = go := (by simp only [f_X5_round_Mg, if_neg c1, if_neg c2, if_neg c4, if_pos c5])
          have e_Mb : (f_X5_round_Mb rd nl ro lt go bg sect what) = bg := (by simp only [f_X5_round_Mb, if_neg c1, if_neg c2, if_neg c4, if_pos c5])
          exact eXi hx hb hr hlk hQ (by rw [e_M_10, e_Ml, e_Mg, e_Mb]; exact hP) (by rw [e_M_10, e_Ml, e_Mg, e_Mb]; exact hD) hS dX5_round_43 (Eq.symm (by simp only [f_X5_round, if_neg c1, if_neg c2, if_neg c4, if_pos c5]))
      · refine lv_bipush (v := (-102)) hx hb dX5_round_29 (by decide) ?_
        have e_M_10 : (f_X5_round_M_10 rd nl sect what) = rd := (by simp only [f_X5_round_M_10, if_neg c1, if_neg c2, if_pos c4])
        have e_Ml : (f_X5_round_Ml rd nl ro lt go sect what) = lt := (by simp only [f_X5_round_Ml, if_neg c1, if_neg c2, if_pos c4])
        have e_Mg : (f_X5_round_Mg rd nl ro lt go sect what) = go := (by simp only [f_X5_round_Mg, if_neg c1, if_neg c2, if_pos c4])
        have e_Mb : (f_X5_round_Mb rd nl ro lt go bg sect what) = bg := (by simp only [f_X5_round_Mb, if_neg c1, if_neg c2, if_pos c4])
        exact eXi hx hb hr hlk hQ (by rw [e_M_10, e_Ml, e_Mg, e_Mb]; exact hP) (by rw [e_M_10, e_Ml, e_Mg, e_Mb]; exact hD) hS dX5_round_31 (Eq.symm (by simp only [f_X5_round, if_neg c1, if_neg c2, if_pos c4]))
  · refine lv_bipush (v := (-101)) hx hb dX5_round_8 (by decide) ?_
    have e_M_10 : (f_X5_round_M_10 rd nl sect what) = rd := (by simp only [f_X5_round_M_10, if_pos c1])
    have e_Ml : (f_X5_round_Ml rd nl ro lt go sect what) = lt := (by simp only [f_X5_round_Ml, if_pos c1])
    have e_Mg : (f_X5_round_Mg rd nl ro lt go sect what) = go := (by simp only [f_X5_round_Mg, if_pos c1])
    have e_Mb : (f_X5_round_Mb rd nl ro lt go bg sect what) = bg := (by simp only [f_X5_round_Mb, if_pos c1])
    exact eXi hx hb hr hlk hQ (by rw [e_M_10, e_Ml, e_Mg, e_Mb]; exact hP) (by rw [e_M_10, e_Ml, e_Mg, e_Mb]; exact hD) hS dX5_round_10 (Eq.symm (by simp only [f_X5_round, if_pos c1]))

def rm_X5_togetherOf : Room := { frames := 2, cells := 0, slots := 0, locals := 47 }
def f_X5_togetherOf_4_v2 (nl : Nat) (ro : Nat → Int32) : Nat → Int32
  | 0 => 0
  | i1 + 1 => (if (f_X5_seenBy nl ro (nI (i1 + 1))) ≤ (f_X5_seenBy nl ro ((f_X5_togetherOf_4_v2 nl ro i1))) then (f_X5_togetherOf_4_v2 nl ro i1) else nI (i1 + 1))
def f_X5_togetherOf (nl : Nat) (ro : Nat → Int32) (what : Int32) : Int32 := (if what = 0 then (f_X5_togetherOf_4_v2 nl ro (nl - 1)) else (f_X5_seenBy nl ro ((f_X5_togetherOf_4_v2 nl ro (nl - 1)))))
theorem hd_X5_togetherOf : yX5_togetherOf.cls = RX5 ∧ yX5_togetherOf.cls ≠ "java/lang/invoke/MethodHandle" ∧ yX5_togetherOf.cls ≠ "java/lang/invoke/VarHandle" ∧ (parseMethodDescriptor yX5_togetherOf.desc).map (fun d => d.parameters.length) = some 1 := by decide +kernel
set_option maxHeartbeats 4000000 in
set_option maxRecDepth 100000 in
theorem c_X5_togetherOf (l : Launch) (D : va_G) (cI : ClassId) (aM aMp aMr aMs aMl aMg aMb aMo aMkr aMks aMkb : Nat) (ofr : Int32) (rd : Int32) (pl : Nat) (nl : Nat) (mi : Int32) (pe : Nat) (kmi : Int32) (kpe : Int32) (bc : Int32) (bk : Nat) (sd : Int32) (ko : Int32) (kbk : Int32) (ha : Int64) (ro : Nat → Int32) (what : Int32) (hn : nl ≤ 6) : MetR l yX5_togetherOf wsX5_togetherOf rm_X5_togetherOf D cI [.ref aM, .int what] [(aM, .inr (5, [.ref aMp, .int (nI pl), .int (nI nl), .int mi, .int ofr, .ref aMr, .int (nI pe), .ref aMs, .ref aMl, .int bc, .int rd, .ref aMg, .ref aMb, .int (nI bk), .ref aMo, .int sd, .int ko, .int kpe, .int kmi, .int kbk, .ref aMkr, .ref aMks, .ref aMkb, .long ha])), (aMr, .inl (cI, 18, .inl ro))] (some (.int (f_X5_togetherOf nl ro what))) := by
  refine mR (cc := cX5_togetherOf) (maxL := 4) (ret := (some .int)) (by decide) rfl (Nat.le_of_ble_eq_true rfl) ?_
  intro p e s m args below meth c Q hx hb hr hml hown hts hlk hP hK hQ ls hl
  have hown : s.vm.findClass RX5 = some m.cls := hown
  have hl : lv_has ls 4 [(0, .ref aM), (1, .int what)] := hl
  have w1 := hts (.fieldLink RX5 67 "DarkOfficeModel" "lamps" "I") (List.mem_of_getElem? (i := 1) rfl)
  have uX5 : ∀ w ∈ wsX50, w ∈ wsX5_togetherOf := fun _ h => List.mem_cons_of_mem _ (List.mem_append_right _ h)
  refine lv_iconst (v := 0) hx hb dX5_togetherOf_0 (by decide) ?_
  refine lv_istore_n (lv' := [(2, .int 0), (0, .ref aM), (1, .int what)]) hx hb dX5_togetherOf_1 rfl hl (by decide) rfl (fun ls hl => ?_)
  refine lv_iconst (v := 1) hx hb dX5_togetherOf_2 (by decide) ?_
  refine lv_istore_n (lv' := [(3, .int 1), (2, .int 0), (0, .ref aM), (1, .int what)]) hx hb dX5_togetherOf_3 rfl hl (by decide) rfl (fun ls hl => ?_)
  have lp4 : ∀ (k4 i1 : Nat), i1 + k4 = nl - 1 → ∀ ls : Array Slot, lv_has ls 4 [(0, .ref aM), (1, .int what), (2, .int ((f_X5_togetherOf_4_v2 nl ro i1))), (3, .int (nI (i1 + 1)))] → W p l e rm_X5_togetherOf s m args below meth c s.heap [] 0 0 Q (F0 m 4 ls []) := by
    intro k4
    induction k4 with
    | zero =>
      intro i1 hk4 ls hl
      have hN4 : nl - 1 = i1 := by omega
      subst hN4
      refine lv_iload_n hx hb dX5_togetherOf_4 rfl (lv_at hl 3 rfl) ?_
      refine lv_aload_n hx hb dX5_togetherOf_5 rfl (lv_at hl 0 rfl) ?_
      refine va_get (D := D) (ci := 5) (v := .int (nI nl)) (C := RX5) (T := TX5) (N := 24) hx hb hts uX5 hown hK hP 0 rfl rfl 2 (by decide) w1 (fun _ h9 => h9) rfl dX5_togetherOf_6 ?_
      refine lv_icmp_ge (tgt := 37) hx hb dX5_togetherOf_9 (by decide) (fun _ => ?_) (fun c => absurd (nle_t (a := nl) (b := (nl - 1) + 1) rfl rfl (by omega) (by omega) (by omega)) c)
      refine lv_iload_n hx hb dX5_togetherOf_37 rfl (lv_at hl 1 rfl) ?_
      refine lv_if_ne (tgt := 45) hx hb dX5_togetherOf_38 (by decide) (fun c1 => ?_) (fun c1 => ?_)
      · refine lv_aload_n hx hb dX5_togetherOf_45 rfl (lv_at hl 0 rfl) ?_
        refine lv_iload_n hx hb dX5_togetherOf_46 rfl (lv_at hl 2 rfl) ?_
        refine rV ⟨hx, hb, hml, hown, hts⟩ (c_X5_seenBy l D cI aM aMp aMr aMs aMl aMg aMb aMo aMkr aMks aMkb ofr rd pl nl mi pe kmi kpe bc bk sd ko kbk ha ro ((f_X5_togetherOf_4_v2 nl ro (nl - 1))) hn) (cwV 1 hts gX5_togetherOf_X5_seenBy rfl rfl rfl hd_X5_seenBy ⟨Nat.le_of_ble_eq_true rfl, Nat.le_of_ble_eq_true rfl⟩) hK (hP.sub [0, 1] rfl) 0 rfl rfl rfl rfl hl.1 (rest := []) (st' := [.int (f_X5_seenBy nl ro ((f_X5_togetherOf_4_v2 nl ro (nl - 1))))]) rfl rfl (Nat.le_of_ble_eq_true rfl) dX5_togetherOf_47 ⟨Nat.zero_le _, Nat.zero_le _⟩ ?_
        exact eRi hx hb hr hlk hQ dX5_togetherOf_50 (Eq.symm (by simp only [f_X5_togetherOf, if_neg c1]))
      · refine lv_iload_n hx hb dX5_togetherOf_41 rfl (lv_at hl 2 rfl) ?_
        refine lv_goto (tgt := 50) hx hb dX5_togetherOf_42 (by decide) ?_
        exact eRi hx hb hr hlk hQ dX5_togetherOf_50 (Eq.symm (by simp only [f_X5_togetherOf, if_pos c1]))
    | succ k4 ih4 =>
      intro i1 hk4 ls hl
      refine lv_iload_n hx hb dX5_togetherOf_4 rfl (lv_at hl 3 rfl) ?_
      refine lv_aload_n hx hb dX5_togetherOf_5 rfl (lv_at hl 0 rfl) ?_
      refine va_get (D := D) (ci := 5) (v := .int (nI nl)) (C := RX5) (T := TX5) (N := 24) hx hb hts uX5 hown hK hP 0 rfl rfl 2 (by decide) w1 (fun _ h9 => h9) rfl dX5_togetherOf_6 ?_
      refine lv_icmp_ge (tgt := 37) hx hb dX5_togetherOf_9 (by decide) (fun c => absurd c (nle_f (a := nl) (b := i1 + 1) rfl rfl (by omega) (by omega) (by omega))) (fun _ => ?_)
      refine lv_aload_n hx hb dX5_togetherOf_12 rfl (lv_at hl 0 rfl) ?_
      refine lv_iload_n hx hb dX5_togetherOf_13 rfl (lv_at hl 3 rfl) ?_
      refine rV ⟨hx, hb, hml, hown, hts⟩ (c_X5_seenBy l D cI aM aMp aMr aMs aMl aMg aMb aMo aMkr aMks aMkb ofr rd pl nl mi pe kmi kpe bc bk sd ko kbk ha ro (nI (i1 + 1)) hn) (cwV 1 hts gX5_togetherOf_X5_seenBy rfl rfl rfl hd_X5_seenBy ⟨Nat.le_of_ble_eq_true rfl, Nat.le_of_ble_eq_true rfl⟩) hK (hP.sub [0, 1] rfl) 0 rfl rfl rfl rfl hl.1 (rest := []) (st' := [.int (f_X5_seenBy nl ro (nI (i1 + 1)))]) rfl rfl (Nat.le_of_ble_eq_true rfl) dX5_togetherOf_14 ⟨Nat.zero_le _, Nat.zero_le _⟩ ?_
      refine lv_aload_n hx hb dX5_togetherOf_17 rfl (lv_at hl 0 rfl) ?_
      refine lv_iload_n hx hb dX5_togetherOf_18 rfl (lv_at hl 2 rfl) ?_
      refine rV ⟨hx, hb, hml, hown, hts⟩ (c_X5_seenBy l D cI aM aMp aMr aMs aMl aMg aMb aMo aMkr aMks aMkb ofr rd pl nl mi pe kmi kpe bc bk sd ko kbk ha ro ((f_X5_togetherOf_4_v2 nl ro i1)) hn) (cwV 1 hts gX5_togetherOf_X5_seenBy rfl rfl rfl hd_X5_seenBy ⟨Nat.le_of_ble_eq_true rfl, Nat.le_of_ble_eq_true rfl⟩) hK (hP.sub [0, 1] rfl) 0 rfl rfl rfl rfl hl.1 (rest := [.int (f_X5_seenBy nl ro (nI (i1 + 1)))]) (st' := [.int (f_X5_seenBy nl ro ((f_X5_togetherOf_4_v2 nl ro i1))), .int (f_X5_seenBy nl ro (nI (i1 + 1)))]) rfl rfl (Nat.le_of_ble_eq_true rfl) dX5_togetherOf_19 ⟨Nat.zero_le _, Nat.zero_le _⟩ ?_
      refine lv_icmp_le (tgt := 29) hx hb dX5_togetherOf_22 (by decide) (fun c2 => ?_) (fun c2 => ?_)
      · refine lv_iload_n hx hb dX5_togetherOf_29 rfl (lv_at hl 2 rfl) ?_
        refine lv_istore_n (lv' := [(2, .int ((f_X5_togetherOf_4_v2 nl ro i1))), (0, .ref aM), (1, .int what), (3, .int (nI (i1 + 1)))]) hx hb dX5_togetherOf_30 rfl hl (by decide) rfl (fun ls hl => ?_)
        refine lv_iinc (v := nI ((i1 + 1) + 1)) (lv' := [(3, .int (nI ((i1 + 1) + 1))), (2, .int ((f_X5_togetherOf_4_v2 nl ro i1))), (0, .ref aM), (1, .int what)]) hx hb dX5_togetherOf_31 hl (k := 3) rfl (nI_add (i1 + 1) 1) (by decide) rfl (fun ls hl => ?_)
        refine lv_goto (tgt := 4) hx hb dX5_togetherOf_34 (by decide) ?_
        have e_v2 : (f_X5_togetherOf_4_v2 nl ro (i1 + 1)) = (f_X5_togetherOf_4_v2 nl ro i1) := (by simp only [f_X5_togetherOf_4_v2, if_pos c2])
        exact ih4 (i1 + 1) (by omega) ls (by rw [e_v2]; exact lv_sub hl [2, 3, 1, 0] rfl)
      · refine lv_iload_n hx hb dX5_togetherOf_25 rfl (lv_at hl 3 rfl) ?_
        refine lv_goto (tgt := 30) hx hb dX5_togetherOf_26 (by decide) ?_
        refine lv_istore_n (lv' := [(2, .int (nI (i1 + 1))), (0, .ref aM), (1, .int what), (3, .int (nI (i1 + 1)))]) hx hb dX5_togetherOf_30 rfl hl (by decide) rfl (fun ls hl => ?_)
        refine lv_iinc (v := nI ((i1 + 1) + 1)) (lv' := [(3, .int (nI ((i1 + 1) + 1))), (2, .int (nI (i1 + 1))), (0, .ref aM), (1, .int what)]) hx hb dX5_togetherOf_31 hl (k := 3) rfl (nI_add (i1 + 1) 1) (by decide) rfl (fun ls hl => ?_)
        refine lv_goto (tgt := 4) hx hb dX5_togetherOf_34 (by decide) ?_
        have e_v2 : (f_X5_togetherOf_4_v2 nl ro (i1 + 1)) = nI (i1 + 1) := (by simp only [f_X5_togetherOf_4_v2, if_neg c2])
        exact ih4 (i1 + 1) (by omega) ls (by rw [e_v2]; exact lv_sub hl [2, 3, 1, 0] rfl)
  exact lp4 (nl - 1) 0 (by omega) ls (lv_sub hl [2, 3, 1, 0] rfl)

def rm_X5_together : Room := { frames := 3, cells := 0, slots := 0, locals := 70 }
def f_X5_together (nl : Nat) (ro : Nat → Int32) (what : Int32) : Int32 := (if (f_X5_in (what.toInt64) 0 1) = 0 then (-102) else (if (f_X5_lacks nl) = 0 then (f_X5_togetherOf nl ro what) else (-103)))
theorem hd_X5_together : yX5_together.cls = RX5 ∧ yX5_together.cls ≠ "java/lang/invoke/MethodHandle" ∧ yX5_together.cls ≠ "java/lang/invoke/VarHandle" ∧ (parseMethodDescriptor yX5_together.desc).map (fun d => d.parameters.length) = some 1 := by decide +kernel
set_option maxHeartbeats 4000000 in
set_option maxRecDepth 100000 in
theorem c_X5_together (l : Launch) (D : va_G) (cI : ClassId) (aM aMp aMr aMs aMl aMg aMb aMo aMkr aMks aMkb : Nat) (ofr : Int32) (rd : Int32) (pl : Nat) (nl : Nat) (mi : Int32) (pe : Nat) (kmi : Int32) (kpe : Int32) (bc : Int32) (bk : Nat) (sd : Int32) (ko : Int32) (kbk : Int32) (ha : Int64) (ro : Nat → Int32) (what : Int32) (hn : nl ≤ 6) : MetR l yX5_together wsX5_together rm_X5_together D cI [.ref aM, .int what] [(aM, .inr (5, [.ref aMp, .int (nI pl), .int (nI nl), .int mi, .int ofr, .ref aMr, .int (nI pe), .ref aMs, .ref aMl, .int bc, .int rd, .ref aMg, .ref aMb, .int (nI bk), .ref aMo, .int sd, .int ko, .int kpe, .int kmi, .int kbk, .ref aMkr, .ref aMks, .ref aMkb, .long ha])), (aMr, .inl (cI, 18, .inl ro))] (some (.int (f_X5_together nl ro what))) := by
  refine mR (cc := cX5_together) (maxL := 2) (ret := (some .int)) (by decide) rfl (Nat.le_of_ble_eq_true rfl) ?_
  intro p e s m args below meth c Q hx hb hr hml hown hts hlk hP hK hQ ls hl
  have hown : s.vm.findClass RX5 = some m.cls := hown
  have hl : lv_has ls 2 [(0, .ref aM), (1, .int what)] := hl
  refine lv_iload_n hx hb dX5_together_0 rfl (lv_at hl 1 rfl) ?_
  refine lv_i2l (v := what.toInt64) hx hb dX5_together_1 rfl ?_
  refine lv_lconst (v := 0) hx hb dX5_together_2 (by decide) ?_
  refine lv_lconst (v := 1) hx hb dX5_together_3 (by decide) ?_
  refine rS ⟨hx, hb, hml, hown, hts⟩ (c_X5_in l D cI (what.toInt64) 0 1) (va_cwS 3 hts gX5_together_X5_in rfl rfl rfl hd_X5_in ⟨Nat.le_of_ble_eq_true rfl, Nat.le_of_ble_eq_true rfl⟩) hK (hP.sub [] rfl) rfl hl.1 (rest := []) (st' := [.int (f_X5_in (what.toInt64) 0 1)]) rfl rfl (Nat.le_of_ble_eq_true rfl) dX5_together_4 ⟨Nat.zero_le _, Nat.zero_le _⟩ ?_
  refine lv_if_ne (tgt := 13) hx hb dX5_together_7 (by decide) (fun c1 => ?_) (fun c1 => ?_)
  · refine lv_aload_n hx hb dX5_together_13 rfl (lv_at hl 0 rfl) ?_
    refine rV ⟨hx, hb, hml, hown, hts⟩ (c_X5_lacks l D cI aM aMp aMr aMs aMl aMg aMb aMo aMkr aMks aMkb ofr rd pl nl mi pe kmi kpe bc bk sd ko kbk ha hn) (cwV 0 hts gX5_together_X5_lacks rfl rfl rfl hd_X5_lacks ⟨Nat.le_of_ble_eq_true rfl, Nat.le_of_ble_eq_true rfl⟩) hK (hP.sub [0] rfl) 0 rfl rfl rfl rfl hl.1 (rest := []) (st' := [.int (f_X5_lacks nl)]) rfl rfl (Nat.le_of_ble_eq_true rfl) dX5_together_14 ⟨Nat.zero_le _, Nat.zero_le _⟩ ?_
    refine lv_if_eq (tgt := 25) hx hb dX5_together_17 (by decide) (fun c2 => ?_) (fun c2 => ?_)
    · refine lv_aload_n hx hb dX5_together_25 rfl (lv_at hl 0 rfl) ?_
      refine lv_iload_n hx hb dX5_together_26 rfl (lv_at hl 1 rfl) ?_
      refine rV ⟨hx, hb, hml, hown, hts⟩ (c_X5_togetherOf l D cI aM aMp aMr aMs aMl aMg aMb aMo aMkr aMks aMkb ofr rd pl nl mi pe kmi kpe bc bk sd ko kbk ha ro what hn) (cwV 1 hts gX5_together_X5_togetherOf rfl rfl rfl hd_X5_togetherOf ⟨Nat.le_of_ble_eq_true rfl, Nat.le_of_ble_eq_true rfl⟩) hK (hP.sub [0, 1] rfl) 0 rfl rfl rfl rfl hl.1 (rest := []) (st' := [.int (f_X5_togetherOf nl ro what)]) rfl rfl (Nat.le_of_ble_eq_true rfl) dX5_together_27 ⟨Nat.zero_le _, Nat.zero_le _⟩ ?_
      exact eRi hx hb hr hlk hQ dX5_together_30 (Eq.symm (by simp only [f_X5_together, if_neg c1, if_pos c2]))
    · refine lv_bipush (v := (-103)) hx hb dX5_together_20 (by decide) ?_
      refine lv_goto (tgt := 30) hx hb dX5_together_22 (by decide) ?_
      exact eRi hx hb hr hlk hQ dX5_together_30 (Eq.symm (by simp only [f_X5_together, if_neg c1, if_neg c2]))
  · refine lv_bipush (v := (-102)) hx hb dX5_together_10 (by decide) ?_
    exact eRi hx hb hr hlk hQ dX5_together_12 (Eq.symm (by simp only [f_X5_together, if_pos c1]))

def rm_X5_book : Room := { frames := 2, cells := 0, slots := 0, locals := 46 }
def f_X5_book (nl : Nat) (bk : Nat) (lamp : Int32) (minutes : Int32) : Int32 := (if (f_X5_in (minutes.toInt64) 0 6) = 0 then (-102) else (if (f_X5_isLamp nl lamp) = 0 then (-101) else (if nI bk = 8 then (-104) else (nI bk + 1))))
def f_X5_book_M_13 (nl : Nat) (bk : Nat) (lamp : Int32) (minutes : Int32) : Int32 := (if (f_X5_in (minutes.toInt64) 0 6) = 0 then nI bk else (if (f_X5_isLamp nl lamp) = 0 then nI bk else (if nI bk = 8 then nI bk else (nI bk + 1))))
def f_X5_book_Mo (nl : Nat) (bk : Nat) (bo : Nat → Int32) (isLit : Int32) (lamp : Int32) (minutes : Int32) : Nat → Int32 := (if (f_X5_in (minutes.toInt64) 0 6) = 0 then bo else (if (f_X5_isLamp nl lamp) = 0 then bo else (if nI bk = 8 then bo else (if isLit = 0 then (upd (upd (upd bo (3 * bk) minutes) ((3 * bk) + 1) lamp) ((3 * bk) + 2) 0) else (upd (upd (upd bo (3 * bk) minutes) ((3 * bk) + 1) lamp) ((3 * bk) + 2) 1)))))
theorem hd_X5_book : yX5_book.cls = RX5 ∧ yX5_book.cls ≠ "java/lang/invoke/MethodHandle" ∧ yX5_book.cls ≠ "java/lang/invoke/VarHandle" ∧ (parseMethodDescriptor yX5_book.desc).map (fun d => d.parameters.length) = some 3 := by decide +kernel
set_option maxHeartbeats 4000000 in
set_option maxRecDepth 100000 in
theorem c_X5_book (l : Launch) (D : va_G) (cI : ClassId) (aM aMp aMr aMs aMl aMg aMb aMo aMkr aMks aMkb : Nat) (ofr : Int32) (rd : Int32) (pl : Nat) (nl : Nat) (mi : Int32) (pe : Nat) (kmi : Int32) (kpe : Int32) (bc : Int32) (bk : Nat) (sd : Int32) (ko : Int32) (kbk : Int32) (ha : Int64) (bo : Nat → Int32) (isLit : Int32) (lamp : Int32) (minutes : Int32) (hn : nl ≤ 6) (hbk : bk ≤ 8) : MetX l yX5_book wsX5_book rm_X5_book D cI [.ref aM, .int minutes, .int lamp, .int isLit] [(aM, .inr (5, [.ref aMp, .int (nI pl), .int (nI nl), .int mi, .int ofr, .ref aMr, .int (nI pe), .ref aMs, .ref aMl, .int bc, .int rd, .ref aMg, .ref aMb, .int (nI bk), .ref aMo, .int sd, .int ko, .int kpe, .int kmi, .int kbk, .ref aMkr, .ref aMks, .ref aMkb, .long ha])), (aMo, .inl (cI, 24, .inl bo))] (some (.int (f_X5_book nl bk lamp minutes))) [(aM, .inr (5, [.ref aMp, .int (nI pl), .int (nI nl), .int mi, .int ofr, .ref aMr, .int (nI pe), .ref aMs, .ref aMl, .int bc, .int rd, .ref aMg, .ref aMb, .int (f_X5_book_M_13 nl bk lamp minutes), .ref aMo, .int sd, .int ko, .int kpe, .int kmi, .int kbk, .ref aMkr, .ref aMks, .ref aMkb, .long ha])), (aMo, .inl (cI, 24, .inl (f_X5_book_Mo nl bk bo isLit lamp minutes)))] := by
  refine mX (cc := cX5_book) (maxL := 4) (ret := (some .int)) (by decide) rfl (Nat.le_of_ble_eq_true rfl) ?_
  intro p e s m args below meth c Q A hx hb hr hml hown hts hlk hP hK hD hA hS hQ ls hl
  have hown : s.vm.findClass RX5 = some m.cls := hown
  have hl : lv_has ls 4 [(0, .ref aM), (1, .int minutes), (2, .int lamp), (3, .int isLit)] := hl
  have w1 := hts (.constantLong RX5 164 (6)) (List.mem_of_getElem? (i := 1) rfl)
  have w2 := hts (.fieldLink RX5 76 "DarkOfficeModel" "bookMany" "I") (List.mem_of_getElem? (i := 2) rfl)
  have uX5 : ∀ w ∈ wsX50, w ∈ wsX5_book := fun _ h => List.mem_cons_of_mem _ (List.mem_append_right _ h)
  have w3 := hts (.fieldLink RX5 28 "DarkOfficeModel" "books" "[I") (List.mem_of_getElem? (i := 3) rfl)
  refine lv_iload_n hx hb dX5_book_0 rfl (lv_at hl 1 rfl) ?_
  refine lv_i2l (v := minutes.toInt64) hx hb dX5_book_1 rfl ?_
  refine lv_lconst (v := 0) hx hb dX5_book_2 (by decide) ?_
  refine lv_ldc2 (v := 6) hx hb hown w1 dX5_book_3 ?_
  refine rS ⟨hx, hb, hml, hown, hts⟩ (c_X5_in l D cI (minutes.toInt64) 0 6) (va_cwS 3 hts gX5_book_X5_in rfl rfl rfl hd_X5_in ⟨Nat.le_of_ble_eq_true rfl, Nat.le_of_ble_eq_true rfl⟩) hK (hP.sub [] rfl) rfl hl.1 (rest := []) (st' := [.int (f_X5_in (minutes.toInt64) 0 6)]) rfl rfl (Nat.le_of_ble_eq_true rfl) dX5_book_6 ⟨Nat.zero_le _, Nat.zero_le _⟩ ?_
  refine lv_if_ne (tgt := 15) hx hb dX5_book_9 (by decide) (fun c1 => ?_) (fun c1 => ?_)
  · refine lv_aload_n hx hb dX5_book_15 rfl (lv_at hl 0 rfl) ?_
    refine lv_iload_n hx hb dX5_book_16 rfl (lv_at hl 2 rfl) ?_
    refine rV ⟨hx, hb, hml, hown, hts⟩ (c_X5_isLamp l D cI aM aMp aMr aMs aMl aMg aMb aMo aMkr aMks aMkb ofr rd pl nl mi pe kmi kpe bc bk sd ko kbk ha lamp) (cwV 1 hts gX5_book_X5_isLamp rfl rfl rfl hd_X5_isLamp ⟨Nat.le_of_ble_eq_true rfl, Nat.le_of_ble_eq_true rfl⟩) hK (hP.sub [0] rfl) 0 rfl rfl rfl rfl hl.1 (rest := []) (st' := [.int (f_X5_isLamp nl lamp)]) rfl rfl (Nat.le_of_ble_eq_true rfl) dX5_book_17 ⟨Nat.zero_le _, Nat.zero_le _⟩ ?_
    refine lv_if_ne (tgt := 26) hx hb dX5_book_20 (by decide) (fun c2 => ?_) (fun c2 => ?_)
    · refine lv_aload_n hx hb dX5_book_26 rfl (lv_at hl 0 rfl) ?_
      refine va_get (D := D) (ci := 5) (v := .int (nI bk)) (C := RX5) (T := TX5) (N := 24) hx hb hts uX5 hown hK hP 0 rfl rfl 13 (by decide) w2 (fun _ h9 => h9) rfl dX5_book_27 ?_
      refine lv_bipush (v := 8) hx hb dX5_book_30 (by decide) ?_
      refine lv_icmp_ne (tgt := 38) hx hb dX5_book_32 (by decide) (fun c3 => ?_) (fun c3 => ?_)
      · have q3 : ¬ bk = 8 := neq_e (a := bk) (b := 8) rfl rfl (by omega) (by omega) c3
        refine lv_aload_n hx hb dX5_book_38 rfl (lv_at hl 0 rfl) ?_
        refine va_get (D := D) (ci := 5) (v := .ref aMo) (C := RX5) (T := TX5) (N := 24) hx hb hts uX5 hown hK hP 0 rfl rfl 14 (by decide) w3 (fun _ h9 => h9) rfl dX5_book_39 ?_
        refine lv_iconst (v := 3) hx hb dX5_book_42 (by decide) ?_
        refine lv_aload_n hx hb dX5_book_43 rfl (lv_at hl 0 rfl) ?_
        refine va_get (D := D) (ci := 5) (v := .int (nI bk)) (C := RX5) (T := TX5) (N := 24) hx hb hts uX5 hown hK hP 0 rfl rfl 13 (by decide) w2 (fun _ h9 => h9) rfl dX5_book_44 ?_
        refine lv_imul hx hb dX5_book_47 ?_
        refine lv_iload_n hx hb dX5_book_48 rfl (lv_at hl 1 rfl) ?_
        refine xast hx hb hK hP hD hS 1 rfl (3 * bk) (ix_mul rfl rfl) (by omega) (by decide) dX5_book_49 (fun H locs hP hD hS => ?_)
        have hP : va_P D vwCl [(aM, .inr (5, [.ref aMp, .int (nI pl), .int (nI nl), .int mi, .int ofr, .ref aMr, .int (nI pe), .ref aMs, .ref aMl, .int bc, .int rd, .ref aMg, .ref aMb, .int (nI bk), .ref aMo, .int sd, .int ko, .int kpe, .int kmi, .int kbk, .ref aMkr, .ref aMks, .ref aMkb, .long ha])), (aMo, .inl (cI, 24, .inl (upd bo (3 * bk) minutes)))] H := hP
        have hD : va_D A [(aM, .inr (5, [.ref aMp, .int (nI pl), .int (nI nl), .int mi, .int ofr, .ref aMr, .int (nI pe), .ref aMs, .ref aMl, .int bc, .int rd, .ref aMg, .ref aMb, .int (nI bk), .ref aMo, .int sd, .int ko, .int kpe, .int kmi, .int kbk, .ref aMkr, .ref aMks, .ref aMkb, .long ha])), (aMo, .inl (cI, 24, .inl (upd bo (3 * bk) minutes)))] := hD
        refine lv_aload_n hx hb dX5_book_50 rfl (lv_at hl 0 rfl) ?_
        refine va_get (D := D) (ci := 5) (v := .ref aMo) (C := RX5) (T := TX5) (N := 24) hx hb hts uX5 hown hK hP 0 rfl rfl 14 (by decide) w3 (fun _ h9 => h9) rfl dX5_book_51 ?_
        refine lv_iconst (v := 3) hx hb dX5_book_54 (by decide) ?_
        refine lv_aload_n hx hb dX5_book_55 rfl (lv_at hl 0 rfl) ?_
        refine va_get (D := D) (ci := 5) (v := .int (nI bk)) (C := RX5) (T := TX5) (N := 24) hx hb hts uX5 hown hK hP 0 rfl rfl 13 (by decide) w2 (fun _ h9 => h9) rfl dX5_book_56 ?_
        refine lv_imul hx hb dX5_book_59 ?_
        refine lv_iconst (v := 1) hx hb dX5_book_60 (by decide) ?_
        refine lv_iadd hx hb dX5_book_61 ?_
        refine lv_iload_n hx hb dX5_book_62 rfl (lv_at hl 2 rfl) ?_
        refine xast hx hb hK hP hD hS 1 rfl ((3 * bk) + 1) (ix_add (ix_mul rfl rfl) rfl) (by omega) (by decide) dX5_book_63 (fun H locs hP hD hS => ?_)
        have hP : va_P D vwCl [(aM, .inr (5, [.ref aMp, .int (nI pl), .int (nI nl), .int mi, .int ofr, .ref aMr, .int (nI pe), .ref aMs, .ref aMl, .int bc, .int rd, .ref aMg, .ref aMb, .int (nI bk), .ref aMo, .int sd, .int ko, .int kpe, .int kmi, .int kbk, .ref aMkr, .ref aMks, .ref aMkb, .long ha])), (aMo, .inl (cI, 24, .inl (upd (upd bo (3 * bk) minutes) ((3 * bk) + 1) lamp)))] H := hP
        have hD : va_D A [(aM, .inr (5, [.ref aMp, .int (nI pl), .int (nI nl), .int mi, .int ofr, .ref aMr, .int (nI pe), .ref aMs, .ref aMl, .int bc, .int rd, .ref aMg, .ref aMb, .int (nI bk), .ref aMo, .int sd, .int ko, .int kpe, .int kmi, .int kbk, .ref aMkr, .ref aMks, .ref aMkb, .long ha])), (aMo, .inl (cI, 24, .inl (upd (upd bo (3 * bk) minutes) ((3 * bk) + 1) lamp)))] := hD
        refine lv_aload_n hx hb dX5_book_64 rfl (lv_at hl 0 rfl) ?_
        refine va_get (D := D) (ci := 5) (v := .ref aMo) (C := RX5) (T := TX5) (N := 24) hx hb hts uX5 hown hK hP 0 rfl rfl 14 (by decide) w3 (fun _ h9 => h9) rfl dX5_book_65 ?_
        refine lv_iconst (v := 3) hx hb dX5_book_68 (by decide) ?_
        refine lv_aload_n hx hb dX5_book_69 rfl (lv_at hl 0 rfl) ?_
        refine va_get (D := D) (ci := 5) (v := .int (nI bk)) (C := RX5) (T := TX5) (N := 24) hx hb hts uX5 hown hK hP 0 rfl rfl 13 (by decide) w2 (fun _ h9 => h9) rfl dX5_book_70 ?_
        refine lv_imul hx hb dX5_book_73 ?_
        refine lv_iconst (v := 2) hx hb dX5_book_74 (by decide) ?_
        refine lv_iadd hx hb dX5_book_75 ?_
        refine lv_iload_n hx hb dX5_book_76 rfl (lv_at hl 3 rfl) ?_
        refine lv_if_eq (tgt := 84) hx hb dX5_book_77 (by decide) (fun c4 => ?_) (fun c4 => ?_)
        · refine lv_iconst (v := 0) hx hb dX5_book_84 (by decide) ?_
          refine xast hx hb hK hP hD hS 1 rfl ((3 * bk) + 2) (ix_add (ix_mul rfl rfl) rfl) (by omega) (by decide) dX5_book_85 (fun H locs hP hD hS => ?_)
          have hP : va_P D vwCl [(aM, .inr (5, [.ref aMp, .int (nI pl), .int (nI nl), .int mi, .int ofr, .ref aMr, .int (nI pe), .ref aMs, .ref aMl, .int bc, .int rd, .ref aMg, .ref aMb, .int (nI bk), .ref aMo, .int sd, .int ko, .int kpe, .int kmi, .int kbk, .ref aMkr, .ref aMks, .ref aMkb, .long ha])), (aMo, .inl (cI, 24, .inl (upd (upd (upd bo (3 * bk) minutes) ((3 * bk) + 1) lamp) ((3 * bk) + 2) 0)))] H := hP
          have hD : va_D A [(aM, .inr (5, [.ref aMp, .int (nI pl), .int (nI nl), .int mi, .int ofr, .ref aMr, .int (nI pe), .ref aMs, .ref aMl, .int bc, .int rd, .ref aMg, .ref aMb, .int (nI bk), .ref aMo, .int sd, .int ko, .int kpe, .int kmi, .int kbk, .ref aMkr, .ref aMks, .ref aMkb, .long ha])), (aMo, .inl (cI, 24, .inl (upd (upd (upd bo (3 * bk) minutes) ((3 * bk) + 1) lamp) ((3 * bk) + 2) 0)))] := hD
          refine lv_aload_n hx hb dX5_book_86 rfl (lv_at hl 0 rfl) ?_
          refine lv_dup hx hb dX5_book_87 rfl ?_
          refine va_get (D := D) (ci := 5) (v := .int (nI bk)) (C := RX5) (T := TX5) (N := 24) hx hb hts uX5 hown hK hP 0 rfl rfl 13 (by decide) w2 (fun _ h9 => h9) rfl dX5_book_88 ?_
          refine lv_iconst (v := 1) hx hb dX5_book_91 (by decide) ?_
          refine lv_iadd hx hb dX5_book_92 ?_
          refine va_put (D := D) (ci := 5) (v := .int (nI bk + 1)) (ty := .int) (C := RX5) (T := TX5) (N := 24) hx hb hts uX5 tyX5 tyX5_ok nmX5 hown hK hP hD hS 0 rfl rfl 13 (by decide) w2 (fun _ h9 => h9) rfl (by decide +kernel) rfl rfl (Nat.le_of_ble_eq_true rfl) dX5_book_93 (fun H locs hP hD hS => ?_)
          have hP : va_P D vwCl [(aM, .inr (5, [.ref aMp, .int (nI pl), .int (nI nl), .int mi, .int ofr, .ref aMr, .int (nI pe), .ref aMs, .ref aMl, .int bc, .int rd, .ref aMg, .ref aMb, .int (nI bk + 1), .ref aMo, .int sd, .int ko, .int kpe, .int kmi, .int kbk, .ref aMkr, .ref aMks, .ref aMkb, .long ha])), (aMo, .inl (cI, 24, .inl (upd (upd (upd bo (3 * bk) minutes) ((3 * bk) + 1) lamp) ((3 * bk) + 2) 0)))] H := hP
          have hD : va_D A [(aM, .inr (5, [.ref aMp, .int (nI pl), .int (nI nl), .int mi, .int ofr, .ref aMr, .int (nI pe), .ref aMs, .ref aMl, .int bc, .int rd, .ref aMg, .ref aMb, .int (nI bk + 1), .ref aMo, .int sd, .int ko, .int kpe, .int kmi, .int kbk, .ref aMkr, .ref aMks, .ref aMkb, .long ha])), (aMo, .inl (cI, 24, .inl (upd (upd (upd bo (3 * bk) minutes) ((3 * bk) + 1) lamp) ((3 * bk) + 2) 0)))] := hD
          refine lv_aload_n hx hb dX5_book_96 rfl (lv_at hl 0 rfl) ?_
          refine va_get (D := D) (ci := 5) (v := .int (nI bk + 1)) (C := RX5) (T := TX5) (N := 24) hx hb hts uX5 hown hK hP 0 rfl rfl 13 (by decide) w2 (fun _ h9 => h9) rfl dX5_book_97 ?_
          have e_M_13 : (f_X5_book_M_13 nl bk lamp minutes) = (nI bk + 1) := (by simp only [f_X5_book_M_13, if_neg c1, if_neg c2, if_neg c3, if_pos c4])
          have e_Mo : (f_X5_book_Mo nl bk bo isLit lamp minutes) = (upd (upd (upd bo (3 * bk) minutes) ((3 * bk) + 1) lamp) ((3 * bk) + 2) 0) := (by simp only [f_X5_book_Mo, if_neg c1, if_neg c2, if_neg c3, if_pos c4])
          exact eXi hx hb hr hlk hQ (by rw [e_M_13, e_Mo]; exact hP) (by rw [e_M_13, e_Mo]; exact hD) hS dX5_book_100 (Eq.symm (by simp only [f_X5_book, if_neg c1, if_neg c2, if_neg c3, if_pos c4]))
        · refine lv_iconst (v := 1) hx hb dX5_book_80 (by decide) ?_
          refine lv_goto (tgt := 85) hx hb dX5_book_81 (by decide) ?_
          refine xast hx hb hK hP hD hS 1 rfl ((3 * bk) + 2) (ix_add (ix_mul rfl rfl) rfl) (by omega) (by decide) dX5_book_85 (fun H locs hP hD hS => ?_)
          have hP : va_P D vwCl [(aM, .inr (5, [.ref aMp, .int (nI pl), .int (nI nl), .int mi, .int ofr, .ref aMr, .int (nI pe), .ref aMs, .ref aMl, .int bc, .int rd, .ref aMg, .ref aMb, .int (nI bk), .ref aMo, .int sd, .int ko, .int kpe, .int kmi, .int kbk, .ref aMkr, .ref aMks, .ref aMkb, .long ha])), (aMo, .inl (cI, 24, .inl (upd (upd (upd bo (3 * bk) minutes) ((3 * bk) + 1) lamp) ((3 * bk) + 2) 1)))] H := hP
          have hD : va_D A [(aM, .inr (5, [.ref aMp, .int (nI pl), .int (nI nl), .int mi, .int ofr, .ref aMr, .int (nI pe), .ref aMs, .ref aMl, .int bc, .int rd, .ref aMg, .ref aMb, .int (nI bk), .ref aMo, .int sd, .int ko, .int kpe, .int kmi, .int kbk, .ref aMkr, .ref aMks, .ref aMkb, .long ha])), (aMo, .inl (cI, 24, .inl (upd (upd (upd bo (3 * bk) minutes) ((3 * bk) + 1) lamp) ((3 * bk) + 2) 1)))] := hD
          refine lv_aload_n hx hb dX5_book_86 rfl (lv_at hl 0 rfl) ?_
          refine lv_dup hx hb dX5_book_87 rfl ?_
          refine va_get (D := D) (ci := 5) (v := .int (nI bk)) (C := RX5) (T := TX5) (N := 24) hx hb hts uX5 hown hK hP 0 rfl rfl 13 (by decide) w2 (fun _ h9 => h9) rfl dX5_book_88 ?_
          refine lv_iconst (v := 1) hx hb dX5_book_91 (by decide) ?_
          refine lv_iadd hx hb dX5_book_92 ?_
          refine va_put (D := D) (ci := 5) (v := .int (nI bk + 1)) (ty := .int) (C := RX5) (T := TX5) (N := 24) hx hb hts uX5 tyX5 tyX5_ok nmX5 hown hK hP hD hS 0 rfl rfl 13 (by decide) w2 (fun _ h9 => h9) rfl (by decide +kernel) rfl rfl (Nat.le_of_ble_eq_true rfl) dX5_book_93 (fun H locs hP hD hS => ?_)
          have hP : va_P D vwCl [(aM, .inr (5, [.ref aMp, .int (nI pl), .int (nI nl), .int mi, .int ofr, .ref aMr, .int (nI pe), .ref aMs, .ref aMl, .int bc, .int rd, .ref aMg, .ref aMb, .int (nI bk + 1), .ref aMo, .int sd, .int ko, .int kpe, .int kmi, .int kbk, .ref aMkr, .ref aMks, .ref aMkb, .long ha])), (aMo, .inl (cI, 24, .inl (upd (upd (upd bo (3 * bk) minutes) ((3 * bk) + 1) lamp) ((3 * bk) + 2) 1)))] H := hP
          have hD : va_D A [(aM, .inr (5, [.ref aMp, .int (nI pl), .int (nI nl), .int mi, .int ofr, .ref aMr, .int (nI pe), .ref aMs, .ref aMl, .int bc, .int rd, .ref aMg, .ref aMb, .int (nI bk + 1), .ref aMo, .int sd, .int ko, .int kpe, .int kmi, .int kbk, .ref aMkr, .ref aMks, .ref aMkb, .long ha])), (aMo, .inl (cI, 24, .inl (upd (upd (upd bo (3 * bk) minutes) ((3 * bk) + 1) lamp) ((3 * bk) + 2) 1)))] := hD
          refine lv_aload_n hx hb dX5_book_96 rfl (lv_at hl 0 rfl) ?_
          refine va_get (D := D) (ci := 5) (v := .int (nI bk + 1)) (C := RX5) (T := TX5) (N := 24) hx hb hts uX5 hown hK hP 0 rfl rfl 13 (by decide) w2 (fun _ h9 => h9) rfl dX5_book_97 ?_
          have e_M_13 : (f_X5_book_M_13 nl bk lamp minutes) = (nI bk + 1) := (by simp only [f_X5_book_M_13, if_neg c1, if_neg c2, if_neg c3, if_neg c4])
          have e_Mo : (f_X5_book_Mo nl bk bo isLit lamp minutes) = (upd (upd (upd bo (3 * bk) minutes) ((3 * bk) + 1) lamp) ((3 * bk) + 2) 1) := (by simp only [f_X5_book_Mo, if_neg c1, if_neg c2, if_neg c3, if_neg c4])
          exact eXi hx hb hr hlk hQ (by rw [e_M_13, e_Mo]; exact hP) (by rw [e_M_13, e_Mo]; exact hD) hS dX5_book_100 (Eq.symm (by simp only [f_X5_book, if_neg c1, if_neg c2, if_neg c3, if_neg c4]))
      · have q3 : bk = 8 := neq_d (a := bk) (b := 8) rfl rfl (by omega) (by omega) c3
        refine lv_bipush (v := (-104)) hx hb dX5_book_35 (by decide) ?_
        have e_M_13 : (f_X5_book_M_13 nl bk lamp minutes) = nI bk := (by simp only [f_X5_book_M_13, if_neg c1, if_neg c2, if_pos c3])
        have e_Mo : (f_X5_book_Mo nl bk bo isLit lamp minutes) = bo := (by simp only [f_X5_book_Mo, if_neg c1, if_neg c2, if_pos c3])
        exact eXi hx hb hr hlk hQ (by rw [e_M_13, e_Mo]; exact hP) (by rw [e_M_13, e_Mo]; exact hD) hS dX5_book_37 (Eq.symm (by simp only [f_X5_book, if_neg c1, if_neg c2, if_pos c3]))
    · refine lv_bipush (v := (-101)) hx hb dX5_book_23 (by decide) ?_
      have e_M_13 : (f_X5_book_M_13 nl bk lamp minutes) = nI bk := (by simp only [f_X5_book_M_13, if_neg c1, if_pos c2])
      have e_Mo : (f_X5_book_Mo nl bk bo isLit lamp minutes) = bo := (by simp only [f_X5_book_Mo, if_neg c1, if_pos c2])
      exact eXi hx hb hr hlk hQ (by rw [e_M_13, e_Mo]; exact hP) (by rw [e_M_13, e_Mo]; exact hD) hS dX5_book_25 (Eq.symm (by simp only [f_X5_book, if_neg c1, if_pos c2]))
  · refine lv_bipush (v := (-102)) hx hb dX5_book_12 (by decide) ?_
    have e_M_13 : (f_X5_book_M_13 nl bk lamp minutes) = nI bk := (by simp only [f_X5_book_M_13, if_pos c1])
    have e_Mo : (f_X5_book_Mo nl bk bo isLit lamp minutes) = bo := (by simp only [f_X5_book_Mo, if_pos c1])
    exact eXi hx hb hr hlk hQ (by rw [e_M_13, e_Mo]; exact hP) (by rw [e_M_13, e_Mo]; exact hD) hS dX5_book_14 (Eq.symm (by simp only [f_X5_book, if_pos c1]))

def rm_X5_forget : Room := { frames := 0, cells := 0, slots := 0, locals := 0 }
def f_X5_forget (bk : Nat) : Int32 := nI bk
theorem hd_X5_forget : yX5_forget.cls = RX5 ∧ yX5_forget.cls ≠ "java/lang/invoke/MethodHandle" ∧ yX5_forget.cls ≠ "java/lang/invoke/VarHandle" ∧ (parseMethodDescriptor yX5_forget.desc).map (fun d => d.parameters.length) = some 0 := by decide +kernel
set_option maxHeartbeats 4000000 in
set_option maxRecDepth 100000 in
theorem c_X5_forget (l : Launch) (D : va_G) (cI : ClassId) (aM aMp aMr aMs aMl aMg aMb aMo aMkr aMks aMkb : Nat) (ofr : Int32) (rd : Int32) (pl : Nat) (nl : Nat) (mi : Int32) (pe : Nat) (kmi : Int32) (kpe : Int32) (bc : Int32) (bk : Nat) (sd : Int32) (ko : Int32) (kbk : Int32) (ha : Int64) : MetX l yX5_forget wsX5_forget rm_X5_forget D cI [.ref aM] [(aM, .inr (5, [.ref aMp, .int (nI pl), .int (nI nl), .int mi, .int ofr, .ref aMr, .int (nI pe), .ref aMs, .ref aMl, .int bc, .int rd, .ref aMg, .ref aMb, .int (nI bk), .ref aMo, .int sd, .int ko, .int kpe, .int kmi, .int kbk, .ref aMkr, .ref aMks, .ref aMkb, .long ha]))] (some (.int (f_X5_forget bk))) [(aM, .inr (5, [.ref aMp, .int (nI pl), .int (nI nl), .int mi, .int ofr, .ref aMr, .int (nI pe), .ref aMs, .ref aMl, .int bc, .int rd, .ref aMg, .ref aMb, .int 0, .ref aMo, .int sd, .int ko, .int kpe, .int kmi, .int kbk, .ref aMkr, .ref aMks, .ref aMkb, .long ha]))] := by
  refine mX (cc := cX5_forget) (maxL := 2) (ret := (some .int)) (by decide) rfl (Nat.le_of_ble_eq_true rfl) ?_
  intro p e s m args below meth c Q A hx hb hr hml hown hts hlk hP hK hD hA hS hQ ls hl
  have hown : s.vm.findClass RX5 = some m.cls := hown
  have hl : lv_has ls 2 [(0, .ref aM)] := hl
  have w1 := hts (.fieldLink RX5 76 "DarkOfficeModel" "bookMany" "I") (List.mem_of_getElem? (i := 1) rfl)
  have uX5 : ∀ w ∈ wsX50, w ∈ wsX5_forget := fun _ h => List.mem_cons_of_mem _ (List.mem_append_right _ h)
  refine lv_aload_n hx hb dX5_forget_0 rfl (lv_at hl 0 rfl) ?_
  refine va_get (D := D) (ci := 5) (v := .int (nI bk)) (C := RX5) (T := TX5) (N := 24) hx hb hts uX5 hown hK hP 0 rfl rfl 13 (by decide) w1 (fun _ h9 => h9) rfl dX5_forget_1 ?_
  refine lv_istore_n (lv' := [(1, .int (nI bk)), (0, .ref aM)]) hx hb dX5_forget_4 rfl hl (by decide) rfl (fun ls hl => ?_)
  refine lv_aload_n hx hb dX5_forget_5 rfl (lv_at hl 1 rfl) ?_
  refine lv_iconst (v := 0) hx hb dX5_forget_6 (by decide) ?_
  refine va_put (D := D) (ci := 5) (v := .int 0) (ty := .int) (C := RX5) (T := TX5) (N := 24) hx hb hts uX5 tyX5 tyX5_ok nmX5 hown hK hP hD hS 0 rfl rfl 13 (by decide) w1 (fun _ h9 => h9) rfl (by decide +kernel) rfl rfl (Nat.le_of_ble_eq_true rfl) dX5_forget_7 (fun H locs hP hD hS => ?_)
  have hP : va_P D vwCl [(aM, .inr (5, [.ref aMp, .int (nI pl), .int (nI nl), .int mi, .int ofr, .ref aMr, .int (nI pe), .ref aMs, .ref aMl, .int bc, .int rd, .ref aMg, .ref aMb, .int 0, .ref aMo, .int sd, .int ko, .int kpe, .int kmi, .int kbk, .ref aMkr, .ref aMks, .ref aMkb, .long ha]))] H := hP
  have hD : va_D A [(aM, .inr (5, [.ref aMp, .int (nI pl), .int (nI nl), .int mi, .int ofr, .ref aMr, .int (nI pe), .ref aMs, .ref aMl, .int bc, .int rd, .ref aMg, .ref aMb, .int 0, .ref aMo, .int sd, .int ko, .int kpe, .int kmi, .int kbk, .ref aMkr, .ref aMks, .ref aMkb, .long ha]))] := hD
  refine lv_iload_n hx hb dX5_forget_10 rfl (lv_at hl 0 rfl) ?_
  exact eXi hx hb hr hlk hQ hP hD hS dX5_forget_11 (Eq.symm (by simp only [f_X5_forget]))

def rm_X5_isBooked : Room := { frames := 0, cells := 0, slots := 0, locals := 0 }
def f_X5_isBooked_4_v2 (lt : Nat → Int32) (bo : Nat → Int32) (mins : Int32) : Nat → Int32
  | 0 => 1
  | i1 + 1 => (if (lt (bo ((3 * i1) + 1)).toNatClampNeg) ≤ 0 then (if (f_X5_isBooked_4_v2 lt bo mins i1) = 0 then 0 else (if (bo (3 * i1)) = mins then (if 0 = (bo ((3 * i1) + 2)) then 1 else 0) else 1)) else (if (f_X5_isBooked_4_v2 lt bo mins i1) = 0 then 0 else (if (bo (3 * i1)) = mins then (if 1 = (bo ((3 * i1) + 2)) then 1 else 0) else 1)))
def f_X5_isBooked (bk : Nat) (lt : Nat → Int32) (bo : Nat → Int32) (mins : Int32) : Int32 := (f_X5_isBooked_4_v2 lt bo mins bk)
theorem bkd01 (lt : Nat → Int32) (bo : Nat → Int32) (mins : Int32) : ∀ i, f_X5_isBooked_4_v2 lt bo mins i = 0 ∨ f_X5_isBooked_4_v2 lt bo mins i = 1
  | 0 => Or.inr rfl
  | i + 1 => by
    rw [f_X5_isBooked_4_v2]
    (repeat' split) <;> first | exact Or.inl rfl | exact Or.inr rfl
theorem hd_X5_isBooked : yX5_isBooked.cls = RX5 ∧ yX5_isBooked.cls ≠ "java/lang/invoke/MethodHandle" ∧ yX5_isBooked.cls ≠ "java/lang/invoke/VarHandle" ∧ (parseMethodDescriptor yX5_isBooked.desc).map (fun d => d.parameters.length) = some 1 := by decide +kernel
set_option maxHeartbeats 4000000 in
set_option maxRecDepth 100000 in
theorem c_X5_isBooked (l : Launch) (D : va_G) (cI : ClassId) (aM aMp aMr aMs aMl aMg aMb aMo aMkr aMks aMkb : Nat) (ofr : Int32) (rd : Int32) (pl : Nat) (nl : Nat) (mi : Int32) (pe : Nat) (kmi : Int32) (kpe : Int32) (bc : Int32) (bk : Nat) (sd : Int32) (ko : Int32) (kbk : Int32) (ha : Int64) (lt : Nat → Int32) (bo : Nat → Int32) (mins : Int32) (hbk : bk ≤ 8) (hbo : ∀ j, j < bk → vp_in (bo (3 * j + 1)) 6) : MetR l yX5_isBooked wsX5_isBooked rm_X5_isBooked D cI [.ref aM, .int mins] [(aM, .inr (5, [.ref aMp, .int (nI pl), .int (nI nl), .int mi, .int ofr, .ref aMr, .int (nI pe), .ref aMs, .ref aMl, .int bc, .int rd, .ref aMg, .ref aMb, .int (nI bk), .ref aMo, .int sd, .int ko, .int kpe, .int kmi, .int kbk, .ref aMkr, .ref aMks, .ref aMkb, .long ha])), (aMl, .inl (cI, 6, .inl lt)), (aMo, .inl (cI, 24, .inl bo))] (some (.int (f_X5_isBooked bk lt bo mins))) := by
  refine mR (cc := cX5_isBooked) (maxL := 5) (ret := (some .boolean)) (by decide) rfl (Nat.le_of_ble_eq_true rfl) ?_
  intro p e s m args below meth c Q hx hb hr hml hown hts hlk hP hK hQ ls hl
  have hown : s.vm.findClass RX5 = some m.cls := hown
  have hl : lv_has ls 5 [(0, .ref aM), (1, .int mins)] := hl
  have w1 := hts (.fieldLink RX5 76 "DarkOfficeModel" "bookMany" "I") (List.mem_of_getElem? (i := 1) rfl)
  have uX5 : ∀ w ∈ wsX50, w ∈ wsX5_isBooked := fun _ h => List.mem_cons_of_mem _ (List.mem_append_right _ h)
  have w2 := hts (.fieldLink RX5 19 "DarkOfficeModel" "lit" "[I") (List.mem_of_getElem? (i := 2) rfl)
  have w3 := hts (.fieldLink RX5 28 "DarkOfficeModel" "books" "[I") (List.mem_of_getElem? (i := 3) rfl)
  refine lv_iconst (v := 1) hx hb dX5_isBooked_0 (by decide) ?_
  refine lv_istore_n (lv' := [(2, .int 1), (0, .ref aM), (1, .int mins)]) hx hb dX5_isBooked_1 rfl hl (by decide) rfl (fun ls hl => ?_)
  refine lv_iconst (v := 0) hx hb dX5_isBooked_2 (by decide) ?_
  refine lv_istore_n (lv' := [(3, .int 0), (2, .int 1), (0, .ref aM), (1, .int mins)]) hx hb dX5_isBooked_3 rfl hl (by decide) rfl (fun ls hl => ?_)
  have lp4 : ∀ (k4 i1 : Nat), i1 + k4 = bk → ∀ ls : Array Slot, lv_has ls 5 [(0, .ref aM), (1, .int mins), (2, .int ((f_X5_isBooked_4_v2 lt bo mins i1))), (3, .int (nI i1))] → W p l e rm_X5_isBooked s m args below meth c s.heap [] 0 0 Q (F0 m 4 ls []) := by
    intro k4
    induction k4 with
    | zero =>
      intro i1 hk4 ls hl
      have hN4 : bk = i1 := by omega
      subst hN4
      refine lv_iload_n hx hb dX5_isBooked_4 rfl (lv_at hl 3 rfl) ?_
      refine lv_aload_n hx hb dX5_isBooked_5 rfl (lv_at hl 0 rfl) ?_
      refine va_get (D := D) (ci := 5) (v := .int (nI bk)) (C := RX5) (T := TX5) (N := 24) hx hb hts uX5 hown hK hP 0 rfl rfl 13 (by decide) w1 (fun _ h9 => h9) rfl dX5_isBooked_6 ?_
      refine lv_icmp_ge (tgt := 80) hx hb dX5_isBooked_9 (by decide) (fun _ => ?_) (fun c => absurd (nle_t (a := bk) (b := bk) rfl rfl (by omega) (by omega) (by omega)) c)
      refine lv_iload_n hx hb dX5_isBooked_80 rfl (lv_at hl 2 rfl) ?_
      exact eRz hx hb hr hlk hQ dX5_isBooked_81 (nar01 (bkd01 _ _ _ _)) (Eq.symm (by simp only [f_X5_isBooked]))
    | succ k4 ih4 =>
      intro i1 hk4 ls hl
      refine lv_iload_n hx hb dX5_isBooked_4 rfl (lv_at hl 3 rfl) ?_
      refine lv_aload_n hx hb dX5_isBooked_5 rfl (lv_at hl 0 rfl) ?_
      refine va_get (D := D) (ci := 5) (v := .int (nI bk)) (C := RX5) (T := TX5) (N := 24) hx hb hts uX5 hown hK hP 0 rfl rfl 13 (by decide) w1 (fun _ h9 => h9) rfl dX5_isBooked_6 ?_
      refine lv_icmp_ge (tgt := 80) hx hb dX5_isBooked_9 (by decide) (fun c => absurd c (nle_f (a := bk) (b := i1) rfl rfl (by omega) (by omega) (by omega))) (fun _ => ?_)
      refine lv_aload_n hx hb dX5_isBooked_12 rfl (lv_at hl 0 rfl) ?_
      refine va_get (D := D) (ci := 5) (v := .ref aMl) (C := RX5) (T := TX5) (N := 24) hx hb hts uX5 hown hK hP 0 rfl rfl 8 (by decide) w2 (fun _ h9 => h9) rfl dX5_isBooked_13 ?_
      refine lv_aload_n hx hb dX5_isBooked_16 rfl (lv_at hl 0 rfl) ?_
      refine va_get (D := D) (ci := 5) (v := .ref aMo) (C := RX5) (T := TX5) (N := 24) hx hb hts uX5 hown hK hP 0 rfl rfl 14 (by decide) w3 (fun _ h9 => h9) rfl dX5_isBooked_17 ?_
      refine lv_iconst (v := 3) hx hb dX5_isBooked_20 (by decide) ?_
      refine lv_iload_n hx hb dX5_isBooked_21 rfl (lv_at hl 3 rfl) ?_
      refine lv_imul hx hb dX5_isBooked_22 ?_
      refine lv_iconst (v := 1) hx hb dX5_isBooked_23 (by decide) ?_
      refine lv_iadd hx hb dX5_isBooked_24 ?_
      refine xald hx hb hK hP 2 rfl ((3 * i1) + 1) (ix_add (ix_mul rfl rfl) rfl) (by omega) (by decide) dX5_isBooked_25 ?_
      refine va_iald hx hb hK hP 1 0 rfl rfl (hbo i1 (by omega)) dX5_isBooked_26 ?_
      refine lv_if_le (tgt := 34) hx hb dX5_isBooked_27 (by decide) (fun c1 => ?_) (fun c1 => ?_)
      · refine lv_iconst (v := 0) hx hb dX5_isBooked_34 (by decide) ?_
        refine lv_istore (lv' := [(4, .int 0), (0, .ref aM), (1, .int mins), (2, .int ((f_X5_isBooked_4_v2 lt bo mins i1))), (3, .int (nI i1))]) hx hb dX5_isBooked_35 hl (by decide) rfl (fun ls hl => ?_)
        refine lv_iload_n hx hb dX5_isBooked_37 rfl (lv_at hl 3 rfl) ?_
        refine lv_if_eq (tgt := 72) hx hb dX5_isBooked_38 (by decide) (fun c2 => ?_) (fun c2 => ?_)
        · refine lv_iconst (v := 0) hx hb dX5_isBooked_72 (by decide) ?_
          refine lv_istore_n (lv' := [(2, .int 0), (4, .int 0), (0, .ref aM), (1, .int mins), (3, .int (nI i1))]) hx hb dX5_isBooked_73 rfl hl (by decide) rfl (fun ls hl => ?_)
          refine lv_iinc (v := nI (i1 + 1)) (lv' := [(3, .int (nI (i1 + 1))), (2, .int 0), (4, .int 0), (0, .ref aM), (1, .int mins)]) hx hb dX5_isBooked_74 hl (k := 4) rfl (nI_add i1 1) (by decide) rfl (fun ls hl => ?_)
          refine lv_goto (tgt := 4) hx hb dX5_isBooked_77 (by decide) ?_
          have e_v2 : (f_X5_isBooked_4_v2 lt bo mins (i1 + 1)) = 0 := (by simp only [f_X5_isBooked_4_v2, if_pos c1, if_pos c2])
          exact ih4 (i1 + 1) (by omega) ls (by rw [e_v2]; exact lv_sub hl [3, 4, 1, 0] rfl)
        · refine lv_aload_n hx hb dX5_isBooked_41 rfl (lv_at hl 1 rfl) ?_
          refine va_get (D := D) (ci := 5) (v := .ref aMo) (C := RX5) (T := TX5) (N := 24) hx hb hts uX5 hown hK hP 0 rfl rfl 14 (by decide) w3 (fun _ h9 => h9) rfl dX5_isBooked_42 ?_
          refine lv_iconst (v := 3) hx hb dX5_isBooked_45 (by decide) ?_
          refine lv_iload_n hx hb dX5_isBooked_46 rfl (lv_at hl 4 rfl) ?_
          refine lv_imul hx hb dX5_isBooked_47 ?_
          refine xald hx hb hK hP 2 rfl (3 * i1) (ix_mul rfl rfl) (by omega) (by decide) dX5_isBooked_48 ?_
          refine lv_iload_n hx hb dX5_isBooked_49 rfl (lv_at hl 2 rfl) ?_
          refine lv_icmp_ne (tgt := 68) hx hb dX5_isBooked_50 (by decide) (fun c3 => ?_) (fun c3 => ?_)
          · refine lv_iconst (v := 1) hx hb dX5_isBooked_68 (by decide) ?_
            refine lv_goto (tgt := 73) hx hb dX5_isBooked_69 (by decide) ?_
            refine lv_istore_n (lv' := [(2, .int 1), (4, .int 0), (0, .ref aM), (1, .int mins), (3, .int (nI i1))]) hx hb dX5_isBooked_73 rfl hl (by decide) rfl (fun ls hl => ?_)
            refine lv_iinc (v := nI (i1 + 1)) (lv' := [(3, .int (nI (i1 + 1))), (2, .int 1), (4, .int 0), (0, .ref aM), (1, .int mins)]) hx hb dX5_isBooked_74 hl (k := 4) rfl (nI_add i1 1) (by decide) rfl (fun ls hl => ?_)
            refine lv_goto (tgt := 4) hx hb dX5_isBooked_77 (by decide) ?_
            have e_v2 : (f_X5_isBooked_4_v2 lt bo mins (i1 + 1)) = 1 := (by simp only [f_X5_isBooked_4_v2, if_pos c1, if_neg c2, if_neg c3])
            exact ih4 (i1 + 1) (by omega) ls (by rw [e_v2]; exact lv_sub hl [3, 4, 1, 0] rfl)
          · refine lv_iload hx hb dX5_isBooked_53 (lv_at hl 0 rfl) ?_
            refine lv_aload_n hx hb dX5_isBooked_55 rfl (lv_at hl 1 rfl) ?_
            refine va_get (D := D) (ci := 5) (v := .ref aMo) (C := RX5) (T := TX5) (N := 24) hx hb hts uX5 hown hK hP 0 rfl rfl 14 (by decide) w3 (fun _ h9 => h9) rfl dX5_isBooked_56 ?_
            refine lv_iconst (v := 3) hx hb dX5_isBooked_59 (by decide) ?_
            refine lv_iload_n hx hb dX5_isBooked_60 rfl (lv_at hl 4 rfl) ?_
            refine lv_imul hx hb dX5_isBooked_61 ?_
            refine lv_iconst (v := 2) hx hb dX5_isBooked_62 (by decide) ?_
            refine lv_iadd hx hb dX5_isBooked_63 ?_
            refine xald hx hb hK hP 2 rfl ((3 * i1) + 2) (ix_add (ix_mul rfl rfl) rfl) (by omega) (by decide) dX5_isBooked_64 ?_
            refine lv_icmp_ne (tgt := 72) hx hb dX5_isBooked_65 (by decide) (fun c4 => ?_) (fun c4 => ?_)
            · refine lv_iconst (v := 0) hx hb dX5_isBooked_72 (by decide) ?_
              refine lv_istore_n (lv' := [(2, .int 0), (4, .int 0), (0, .ref aM), (1, .int mins), (3, .int (nI i1))]) hx hb dX5_isBooked_73 rfl hl (by decide) rfl (fun ls hl => ?_)
              refine lv_iinc (v := nI (i1 + 1)) (lv' := [(3, .int (nI (i1 + 1))), (2, .int 0), (4, .int 0), (0, .ref aM), (1, .int mins)]) hx hb dX5_isBooked_74 hl (k := 4) rfl (nI_add i1 1) (by decide) rfl (fun ls hl => ?_)
              refine lv_goto (tgt := 4) hx hb dX5_isBooked_77 (by decide) ?_
              have e_v2 : (f_X5_isBooked_4_v2 lt bo mins (i1 + 1)) = 0 := (by simp only [f_X5_isBooked_4_v2, if_pos c1, if_neg c2, if_pos c3, if_neg c4])
              exact ih4 (i1 + 1) (by omega) ls (by rw [e_v2]; exact lv_sub hl [3, 4, 1, 0] rfl)
            · refine lv_iconst (v := 1) hx hb dX5_isBooked_68 (by decide) ?_
              refine lv_goto (tgt := 73) hx hb dX5_isBooked_69 (by decide) ?_
              refine lv_istore_n (lv' := [(2, .int 1), (4, .int 0), (0, .ref aM), (1, .int mins), (3, .int (nI i1))]) hx hb dX5_isBooked_73 rfl hl (by decide) rfl (fun ls hl => ?_)
              refine lv_iinc (v := nI (i1 + 1)) (lv' := [(3, .int (nI (i1 + 1))), (2, .int 1), (4, .int 0), (0, .ref aM), (1, .int mins)]) hx hb dX5_isBooked_74 hl (k := 4) rfl (nI_add i1 1) (by decide) rfl (fun ls hl => ?_)
              refine lv_goto (tgt := 4) hx hb dX5_isBooked_77 (by decide) ?_
              have e_v2 : (f_X5_isBooked_4_v2 lt bo mins (i1 + 1)) = 1 := (by simp only [f_X5_isBooked_4_v2, if_pos c1, if_neg c2, if_pos c3, if_pos c4])
              exact ih4 (i1 + 1) (by omega) ls (by rw [e_v2]; exact lv_sub hl [3, 4, 1, 0] rfl)
      · refine lv_iconst (v := 1) hx hb dX5_isBooked_30 (by decide) ?_
        refine lv_goto (tgt := 35) hx hb dX5_isBooked_31 (by decide) ?_
        refine lv_istore (lv' := [(4, .int 1), (0, .ref aM), (1, .int mins), (2, .int ((f_X5_isBooked_4_v2 lt bo mins i1))), (3, .int (nI i1))]) hx hb dX5_isBooked_35 hl (by decide) rfl (fun ls hl => ?_)
        refine lv_iload_n hx hb dX5_isBooked_37 rfl (lv_at hl 3 rfl) ?_
        refine lv_if_eq (tgt := 72) hx hb dX5_isBooked_38 (by decide) (fun c5 => ?_) (fun c5 => ?_)
        · refine lv_iconst (v := 0) hx hb dX5_isBooked_72 (by decide) ?_
          refine lv_istore_n (lv' := [(2, .int 0), (4, .int 1), (0, .ref aM), (1, .int mins), (3, .int (nI i1))]) hx hb dX5_isBooked_73 rfl hl (by decide) rfl (fun ls hl => ?_)
          refine lv_iinc (v := nI (i1 + 1)) (lv' := [(3, .int (nI (i1 + 1))), (2, .int 0), (4, .int 1), (0, .ref aM), (1, .int mins)]) hx hb dX5_isBooked_74 hl (k := 4) rfl (nI_add i1 1) (by decide) rfl (fun ls hl => ?_)
          refine lv_goto (tgt := 4) hx hb dX5_isBooked_77 (by decide) ?_
          have e_v2 : (f_X5_isBooked_4_v2 lt bo mins (i1 + 1)) = 0 := (by simp only [f_X5_isBooked_4_v2, if_neg c1, if_pos c5])
          exact ih4 (i1 + 1) (by omega) ls (by rw [e_v2]; exact lv_sub hl [3, 4, 1, 0] rfl)
        · refine lv_aload_n hx hb dX5_isBooked_41 rfl (lv_at hl 1 rfl) ?_
          refine va_get (D := D) (ci := 5) (v := .ref aMo) (C := RX5) (T := TX5) (N := 24) hx hb hts uX5 hown hK hP 0 rfl rfl 14 (by decide) w3 (fun _ h9 => h9) rfl dX5_isBooked_42 ?_
          refine lv_iconst (v := 3) hx hb dX5_isBooked_45 (by decide) ?_
          refine lv_iload_n hx hb dX5_isBooked_46 rfl (lv_at hl 4 rfl) ?_
          refine lv_imul hx hb dX5_isBooked_47 ?_
          refine xald hx hb hK hP 2 rfl (3 * i1) (ix_mul rfl rfl) (by omega) (by decide) dX5_isBooked_48 ?_
          refine lv_iload_n hx hb dX5_isBooked_49 rfl (lv_at hl 2 rfl) ?_
          refine lv_icmp_ne (tgt := 68) hx hb dX5_isBooked_50 (by decide) (fun c6 => ?_) (fun c6 => ?_)
          · refine lv_iconst (v := 1) hx hb dX5_isBooked_68 (by decide) ?_
            refine lv_goto (tgt := 73) hx hb dX5_isBooked_69 (by decide) ?_
            refine lv_istore_n (lv' := [(2, .int 1), (4, .int 1), (0, .ref aM), (1, .int mins), (3, .int (nI i1))]) hx hb dX5_isBooked_73 rfl hl (by decide) rfl (fun ls hl => ?_)
            refine lv_iinc (v := nI (i1 + 1)) (lv' := [(3, .int (nI (i1 + 1))), (2, .int 1), (4, .int 1), (0, .ref aM), (1, .int mins)]) hx hb dX5_isBooked_74 hl (k := 4) rfl (nI_add i1 1) (by decide) rfl (fun ls hl => ?_)
            refine lv_goto (tgt := 4) hx hb dX5_isBooked_77 (by decide) ?_
            have e_v2 : (f_X5_isBooked_4_v2 lt bo mins (i1 + 1)) = 1 := (by simp only [f_X5_isBooked_4_v2, if_neg c1, if_neg c5, if_neg c6])
            exact ih4 (i1 + 1) (by omega) ls (by rw [e_v2]; exact lv_sub hl [3, 4, 1, 0] rfl)
          · refine lv_iload hx hb dX5_isBooked_53 (lv_at hl 0 rfl) ?_
            refine lv_aload_n hx hb dX5_isBooked_55 rfl (lv_at hl 1 rfl) ?_
            refine va_get (D := D) (ci := 5) (v := .ref aMo) (C := RX5) (T := TX5) (N := 24) hx hb hts uX5 hown hK hP 0 rfl rfl 14 (by decide) w3 (fun _ h9 => h9) rfl dX5_isBooked_56 ?_
            refine lv_iconst (v := 3) hx hb dX5_isBooked_59 (by decide) ?_
            refine lv_iload_n hx hb dX5_isBooked_60 rfl (lv_at hl 4 rfl) ?_
            refine lv_imul hx hb dX5_isBooked_61 ?_
            refine lv_iconst (v := 2) hx hb dX5_isBooked_62 (by decide) ?_
            refine lv_iadd hx hb dX5_isBooked_63 ?_
            refine xald hx hb hK hP 2 rfl ((3 * i1) + 2) (ix_add (ix_mul rfl rfl) rfl) (by omega) (by decide) dX5_isBooked_64 ?_
            refine lv_icmp_ne (tgt := 72) hx hb dX5_isBooked_65 (by decide) (fun c7 => ?_) (fun c7 => ?_)
            · refine lv_iconst (v := 0) hx hb dX5_isBooked_72 (by decide) ?_
              refine lv_istore_n (lv' := [(2, .int 0), (4, .int 1), (0, .ref aM), (1, .int mins), (3, .int (nI i1))]) hx hb dX5_isBooked_73 rfl hl (by decide) rfl (fun ls hl => ?_)
              refine lv_iinc (v := nI (i1 + 1)) (lv' := [(3, .int (nI (i1 + 1))), (2, .int 0), (4, .int 1), (0, .ref aM), (1, .int mins)]) hx hb dX5_isBooked_74 hl (k := 4) rfl (nI_add i1 1) (by decide) rfl (fun ls hl => ?_)
              refine lv_goto (tgt := 4) hx hb dX5_isBooked_77 (by decide) ?_
              have e_v2 : (f_X5_isBooked_4_v2 lt bo mins (i1 + 1)) = 0 := (by simp only [f_X5_isBooked_4_v2, if_neg c1, if_neg c5, if_pos c6, if_neg c7])
              exact ih4 (i1 + 1) (by omega) ls (by rw [e_v2]; exact lv_sub hl [3, 4, 1, 0] rfl)
            · refine lv_iconst (v := 1) hx hb dX5_isBooked_68 (by decide) ?_
              refine lv_goto (tgt := 73) hx hb dX5_isBooked_69 (by decide) ?_
              refine lv_istore_n (lv' := [(2, .int 1), (4, .int 1), (0, .ref aM), (1, .int mins), (3, .int (nI i1))]) hx hb dX5_isBooked_73 rfl hl (by decide) rfl (fun ls hl => ?_)
              refine lv_iinc (v := nI (i1 + 1)) (lv' := [(3, .int (nI (i1 + 1))), (2, .int 1), (4, .int 1), (0, .ref aM), (1, .int mins)]) hx hb dX5_isBooked_74 hl (k := 4) rfl (nI_add i1 1) (by decide) rfl (fun ls hl => ?_)
              refine lv_goto (tgt := 4) hx hb dX5_isBooked_77 (by decide) ?_
              have e_v2 : (f_X5_isBooked_4_v2 lt bo mins (i1 + 1)) = 1 := (by simp only [f_X5_isBooked_4_v2, if_neg c1, if_neg c5, if_pos c6, if_pos c7])
              exact ih4 (i1 + 1) (by omega) ls (by rw [e_v2]; exact lv_sub hl [3, 4, 1, 0] rfl)
  exact lp4 bk 0 (by omega) ls (lv_sub hl [2, 3, 1, 0] rfl)

def rm_X5_canWave : Room := { frames := 2, cells := 0, slots := 0, locals := 47 }
def f_X5_canWave_14_Ml (nl : Nat) (ro : Nat → Int32) (ss : Nat → Int32) (lt : Nat → Int32) (pj : Nat) (way : Int32) : Nat → (Nat → Int32)
  | 0 => (f_X5_asItIs_Ml nl ro lt)
  | i1 + 1 => (if ((way >>> (nI i1 &&& 31)) &&& 1) = 1 then (f_X5_goesBy_Ml nl ro ((f_X5_canWave_14_Ml nl ro ss lt pj way i1)) ((1 : Int32) <<< ((ss (3 * pj)) &&& 31))) else (f_X5_goesBy_Ml nl ro ((f_X5_canWave_14_Ml nl ro ss lt pj way i1)) 0))
def f_X5_canWave_Ml (nl : Nat) (ro : Nat → Int32) (ss : Nat → Int32) (lt : Nat → Int32) (mm : Nat) (pj : Nat) (way : Int32) : Nat → Int32 := (f_X5_canWave_14_Ml nl ro ss lt pj way mm)
def f_X5_canWave_14_v4 (nl : Nat) (bk : Nat) (ro : Nat → Int32) (ss : Nat → Int32) (lt : Nat → Int32) (bo : Nat → Int32) (pj : Nat) (way : Int32) : Nat → Int32
  | 0 => (f_X5_isBooked bk (f_X5_asItIs_Ml nl ro lt) bo 0)
  | i1 + 1 => (if ((way >>> (nI i1 &&& 31)) &&& 1) = 1 then (if (f_X5_canWave_14_v4 nl bk ro ss lt bo pj way i1) = 0 then 0 else (if (f_X5_isBooked bk (f_X5_goesBy_Ml nl ro ((f_X5_canWave_14_Ml nl ro ss lt pj way i1)) ((1 : Int32) <<< ((ss (3 * pj)) &&& 31))) bo (nI i1 + 1)) = 0 then 0 else 1)) else (if (f_X5_canWave_14_v4 nl bk ro ss lt bo pj way i1) = 0 then 0 else (if (f_X5_isBooked bk (f_X5_goesBy_Ml nl ro ((f_X5_canWave_14_Ml nl ro ss lt pj way i1)) 0) bo (nI i1 + 1)) = 0 then 0 else 1)))
def f_X5_canWave (nl : Nat) (bk : Nat) (ro : Nat → Int32) (ss : Nat → Int32) (lt : Nat → Int32) (bo : Nat → Int32) (mm : Nat) (pj : Nat) (way : Int32) : Int32 := (f_X5_canWave_14_v4 nl bk ro ss lt bo pj way mm)
theorem cw01 (nl : Nat) (bk : Nat) (ro : Nat → Int32) (ss : Nat → Int32) (lt : Nat → Int32) (bo : Nat → Int32) (pj : Nat) (way : Int32) : ∀ i, f_X5_canWave_14_v4 nl bk ro ss lt bo pj way i = 0 ∨ f_X5_canWave_14_v4 nl bk ro ss lt bo pj way i = 1
  | 0 => by rw [f_X5_canWave_14_v4]; exact bkd01 _ _ _ _
  | i + 1 => by
    rw [f_X5_canWave_14_v4]
    (repeat' split) <;> first | exact Or.inl rfl | exact Or.inr rfl
theorem hd_X5_canWave : yX5_canWave.cls = RX5 ∧ yX5_canWave.cls ≠ "java/lang/invoke/MethodHandle" ∧ yX5_canWave.cls ≠ "java/lang/invoke/VarHandle" ∧ (parseMethodDescriptor yX5_canWave.desc).map (fun d => d.parameters.length) = some 3 := by decide +kernel
set_option maxHeartbeats 4000000 in
set_option maxRecDepth 100000 in
theorem c_X5_canWave (l : Launch) (D : va_G) (cI : ClassId) (aM aMp aMr aMs aMl aMg aMb aMo aMkr aMks aMkb : Nat) (ofr : Int32) (rd : Int32) (pl : Nat) (nl : Nat) (mi : Int32) (pe : Nat) (kmi : Int32) (kpe : Int32) (bc : Int32) (bk : Nat) (sd : Int32) (ko : Int32) (kbk : Int32) (ha : Int64) (ro : Nat → Int32) (ss : Nat → Int32) (lt : Nat → Int32) (bo : Nat → Int32) (mm : Nat) (pj : Nat) (way : Int32) (hn : nl ≤ 6) (hpe : pe ≤ 4) (hbk : bk ≤ 8) (hbo : ∀ j, j < bk → vp_in (bo (3 * j + 1)) 6) (hpj : pj < pe) (hmm : mm ≤ 6) : MetX l yX5_canWave wsX5_canWave rm_X5_canWave D cI [.ref aM, .int (nI pj), .int (nI mm), .int way] [(aM, .inr (5, [.ref aMp, .int (nI pl), .int (nI nl), .int mi, .int ofr, .ref aMr, .int (nI pe), .ref aMs, .ref aMl, .int bc, .int rd, .ref aMg, .ref aMb, .int (nI bk), .ref aMo, .int sd, .int ko, .int kpe, .int kmi, .int kbk, .ref aMkr, .ref aMks, .ref aMkb, .long ha])), (aMr, .inl (cI, 18, .inl ro)), (aMs, .inl (cI, 12, .inl ss)), (aMl, .inl (cI, 6, .inl lt)), (aMo, .inl (cI, 24, .inl bo))] (some (.int (f_X5_canWave nl bk ro ss lt bo mm pj way))) [(aM, .inr (5, [.ref aMp, .int (nI pl), .int (nI nl), .int mi, .int ofr, .ref aMr, .int (nI pe), .ref aMs, .ref aMl, .int bc, .int rd, .ref aMg, .ref aMb, .int (nI bk), .ref aMo, .int sd, .int ko, .int kpe, .int kmi, .int kbk, .ref aMkr, .ref aMks, .ref aMkb, .long ha])), (aMr, .inl (cI, 18, .inl ro)), (aMs, .inl (cI, 12, .inl ss)), (aMl, .inl (cI, 6, .inl (f_X5_canWave_Ml nl ro ss lt mm pj way))), (aMo, .inl (cI, 24, .inl bo))] := by
  refine mX (cc := cX5_canWave) (maxL := 6) (ret := (some .boolean)) (by decide) rfl (Nat.le_of_ble_eq_true rfl) ?_
  intro p e s m args below meth c Q A hx hb hr hml hown hts hlk hP hK hD hA hS hQ ls hl
  have hown : s.vm.findClass RX5 = some m.cls := hown
  have hl : lv_has ls 6 [(0, .ref aM), (1, .int (nI pj)), (2, .int (nI mm)), (3, .int way)] := hl
  have w1 := hts (.fieldLink RX5 16 "DarkOfficeModel" "seats" "[I") (List.mem_of_getElem? (i := 1) rfl)
  have uX5 : ∀ w ∈ wsX50, w ∈ wsX5_canWave := fun _ h => List.mem_cons_of_mem _ (List.mem_append_right _ h)
  refine lv_aload_n hx hb dX5_canWave_0 rfl (lv_at hl 0 rfl) ?_
  refine xV (w2 := [(aM, .inr (5, [.ref aMp, .int (nI pl), .int (nI nl), .int mi, .int ofr, .ref aMr, .int (nI pe), .ref aMs, .ref aMl, .int bc, .int rd, .ref aMg, .ref aMb, .int (nI bk), .ref aMo, .int sd, .int ko, .int kpe, .int kmi, .int kbk, .ref aMkr, .ref aMks, .ref aMkb, .long ha])), (aMr, .inl (cI, 18, .inl ro)), (aMs, .inl (cI, 12, .inl ss)), (aMl, .inl (cI, 6, .inl (f_X5_asItIs_Ml nl ro lt))), (aMo, .inl (cI, 24, .inl bo))]) ⟨hx, hb, hml, hown, hts⟩ (c_X5_asItIs l D cI aM aMp aMr aMs aMl aMg aMb aMo aMkr aMks aMkb ofr rd pl nl mi pe kmi kpe bc bk sd ko kbk ha ro lt hn) (cwV 0 hts gX5_canWave_X5_asItIs rfl rfl rfl hd_X5_asItIs ⟨Nat.le_of_ble_eq_true rfl, Nat.le_of_ble_eq_true rfl⟩) hK hP hD hS hA [0, 1, 3] [2, 4] [2, 3, 0, 4, 1] rfl rfl rfl rfl rfl (by decide) rfl rfl rfl 0 rfl rfl rfl rfl hl.1 (rest := []) (st' := []) rfl rfl (Nat.le_of_ble_eq_true rfl) dX5_canWave_1 ⟨Nat.zero_le _, Nat.zero_le _⟩ (fun H locs hP hD hS => ?_)
  refine lv_aload_n hx hb dX5_canWave_4 rfl (lv_at hl 0 rfl) ?_
  refine lv_iconst (v := 0) hx hb dX5_canWave_5 (by decide) ?_
  refine rV ⟨hx, hb, hml, hown, hts⟩ (c_X5_isBooked l D cI aM aMp aMr aMs aMl aMg aMb aMo aMkr aMks aMkb ofr rd pl nl mi pe kmi kpe bc bk sd ko kbk ha (f_X5_asItIs_Ml nl ro lt) bo 0 hbk hbo) (cwV 1 hts gX5_canWave_X5_isBooked rfl rfl rfl hd_X5_isBooked ⟨Nat.le_of_ble_eq_true rfl, Nat.le_of_ble_eq_true rfl⟩) hK (hP.sub [0, 3, 4] rfl) 0 rfl rfl rfl rfl hl.1 (rest := []) (st' := [.int (f_X5_isBooked bk (f_X5_asItIs_Ml nl ro lt) bo 0)]) rfl rfl (Nat.le_of_ble_eq_true rfl) dX5_canWave_6 ⟨Nat.zero_le _, Nat.zero_le _⟩ ?_
  refine lv_istore (lv' := [(4, .int (f_X5_isBooked bk (f_X5_asItIs_Ml nl ro lt) bo 0)), (0, .ref aM), (1, .int (nI pj)), (2, .int (nI mm)), (3, .int way)]) hx hb dX5_canWave_9 hl (by decide) rfl (fun ls hl => ?_)
  refine lv_iconst (v := 0) hx hb dX5_canWave_11 (by decide) ?_
  refine lv_istore (lv' := [(5, .int 0), (4, .int (f_X5_isBooked bk (f_X5_asItIs_Ml nl ro lt) bo 0)), (0, .ref aM), (1, .int (nI pj)), (2, .int (nI mm)), (3, .int way)]) hx hb dX5_canWave_12 hl (by decide) rfl (fun ls hl => ?_)
  have lp14 : ∀ (k14 i1 : Nat), i1 + k14 = mm → ∀ (H : Heap) (locs : List Loc), va_P D vwCl [(aM, .inr (5, [.ref aMp, .int (nI pl), .int (nI nl), .int mi, .int ofr, .ref aMr, .int (nI pe), .ref aMs, .ref aMl, .int bc, .int rd, .ref aMg, .ref aMb, .int (nI bk), .ref aMo, .int sd, .int ko, .int kpe, .int kmi, .int kbk, .ref aMkr, .ref aMks, .ref aMkb, .long ha])), (aMr, .inl (cI, 18, .inl ro)), (aMs, .inl (cI, 12, .inl ss)), (aMl, .inl (cI, 6, .inl ((f_X5_canWave_14_Ml nl ro ss lt pj way i1)))), (aMo, .inl (cI, 24, .inl bo))] H → va_D A [(aM, .inr (5, [.ref aMp, .int (nI pl), .int (nI nl), .int mi, .int ofr, .ref aMr, .int (nI pe), .ref aMs, .ref aMl, .int bc, .int rd, .ref aMg, .ref aMb, .int (nI bk), .ref aMo, .int sd, .int ko, .int kpe, .int kmi, .int kbk, .ref aMkr, .ref aMks, .ref aMkb, .long ha])), (aMr, .inl (cI, 18, .inl ro)), (aMs, .inl (cI, 12, .inl ss)), (aMl, .inl (cI, 6, .inl ((f_X5_canWave_14_Ml nl ro ss lt pj way i1)))), (aMo, .inl (cI, 24, .inl bo))] → va_S A s.heap H locs → ∀ ls : Array Slot, lv_has ls 6 [(0, .ref aM), (1, .int (nI pj)), (2, .int (nI mm)), (3, .int way), (4, .int ((f_X5_canWave_14_v4 nl bk ro ss lt bo pj way i1))), (5, .int (nI i1))] → W p l e rm_X5_canWave s m args below meth c H locs 0 0 Q (F0 m 14 ls []) := by
    intro k14
    induction k14 with
    | zero =>
      intro i1 hk14 H locs hP hD hS ls hl
      have hN14 : mm = i1 := by omega
      subst hN14
      refine lv_iload hx hb dX5_canWave_14 (lv_at hl 5 rfl) ?_
      refine lv_iload_n hx hb dX5_canWave_16 rfl (lv_at hl 2 rfl) ?_
      refine lv_icmp_ge (tgt := 77) hx hb dX5_canWave_17 (by decide) (fun _ => ?_) (fun c => absurd (nle_t (a := mm) (b := mm) rfl rfl (by omega) (by omega) (by omega)) c)
      refine lv_iload hx hb dX5_canWave_77 (lv_at hl 4 rfl) ?_
      have e_Ml : (f_X5_canWave_Ml nl ro ss lt mm pj way) = (f_X5_canWave_14_Ml nl ro ss lt pj way mm) := (by simp only [f_X5_canWave_Ml])
      exact eXz hx hb hr hlk hQ (by rw [e_Ml]; exact hP) (by rw [e_Ml]; exact hD) hS dX5_canWave_79 (nar01 (cw01 _ _ _ _ _ _ _ _ _)) (Eq.symm (by simp only [f_X5_canWave]))
    | succ k14 ih14 =>
      intro i1 hk14 H locs hP hD hS ls hl
      refine lv_iload hx hb dX5_canWave_14 (lv_at hl 5 rfl) ?_
      refine lv_iload_n hx hb dX5_canWave_16 rfl (lv_at hl 2 rfl) ?_
      refine lv_icmp_ge (tgt := 77) hx hb dX5_canWave_17 (by decide) (fun c => absurd c (nle_f (a := mm) (b := i1) rfl rfl (by omega) (by omega) (by omega))) (fun _ => ?_)
      refine lv_aload_n hx hb dX5_canWave_20 rfl (lv_at hl 0 rfl) ?_
      refine lv_iload_n hx hb dX5_canWave_21 rfl (lv_at hl 3 rfl) ?_
      refine lv_iload hx hb dX5_canWave_22 (lv_at hl 5 rfl) ?_
      refine lv_ishr hx hb dX5_canWave_24 ?_
      refine lv_iconst (v := 1) hx hb dX5_canWave_25 (by decide) ?_
      refine lv_iand hx hb dX5_canWave_26 ?_
      refine lv_iconst (v := 1) hx hb dX5_canWave_27 (by decide) ?_
      refine lv_icmp_ne (tgt := 44) hx hb dX5_canWave_28 (by decide) (fun c1 => ?_) (fun c1 => ?_)
      · refine lv_iconst (v := 0) hx hb dX5_canWave_44 (by decide) ?_
        refine xV (w2 := [(aM, .inr (5, [.ref aMp, .int (nI pl), .int (nI nl), .int mi, .int ofr, .ref aMr, .int (nI pe), .ref aMs, .ref aMl, .int bc, .int rd, .ref aMg, .ref aMb, .int (nI bk), .ref aMo, .int sd, .int ko, .int kpe, .int kmi, .int kbk, .ref aMkr, .ref aMks, .ref aMkb, .long ha])), (aMr, .inl (cI, 18, .inl ro)), (aMs, .inl (cI, 12, .inl ss)), (aMl, .inl (cI, 6, .inl (f_X5_goesBy_Ml nl ro ((f_X5_canWave_14_Ml nl ro ss lt pj way i1)) 0))), (aMo, .inl (cI, 24, .inl bo))]) ⟨hx, hb, hml, hown, hts⟩ (c_X5_goesBy l D cI aM aMp aMr aMs aMl aMg aMb aMo aMkr aMks aMkb ofr rd pl nl mi pe kmi kpe bc bk sd ko kbk ha ro ((f_X5_canWave_14_Ml nl ro ss lt pj way i1)) 0 hn) (cwV 1 hts gX5_canWave_X5_goesBy rfl rfl rfl hd_X5_goesBy ⟨Nat.le_of_ble_eq_true rfl, Nat.le_of_ble_eq_true rfl⟩) hK hP hD hS hA [0, 1, 3] [2, 4] [2, 3, 0, 4, 1] rfl rfl rfl rfl rfl (by decide) rfl rfl rfl 0 rfl rfl rfl rfl hl.1 (rest := []) (st' := []) rfl rfl (Nat.le_of_ble_eq_true rfl) dX5_canWave_45 ⟨Nat.zero_le _, Nat.zero_le _⟩ (fun H locs hP hD hS => ?_)
        refine lv_iload hx hb dX5_canWave_48 (lv_at hl 4 rfl) ?_
        refine lv_if_eq (tgt := 68) hx hb dX5_canWave_50 (by decide) (fun c2 => ?_) (fun c2 => ?_)
        · refine lv_iconst (v := 0) hx hb dX5_canWave_68 (by decide) ?_
          refine lv_istore (lv' := [(4, .int 0), (0, .ref aM), (1, .int (nI pj)), (2, .int (nI mm)), (3, .int way), (5, .int (nI i1))]) hx hb dX5_canWave_69 hl (by decide) rfl (fun ls hl => ?_)
          refine lv_iinc (v := nI (i1 + 1)) (lv' := [(5, .int (nI (i1 + 1))), (4, .int 0), (0, .ref aM), (1, .int (nI pj)), (2, .int (nI mm)), (3, .int way)]) hx hb dX5_canWave_71 hl (k := 5) rfl (nI_add i1 1) (by decide) rfl (fun ls hl => ?_)
          refine lv_goto (tgt := 14) hx hb dX5_canWave_74 (by decide) ?_
          have e_v4 : (f_X5_canWave_14_v4 nl bk ro ss lt bo pj way (i1 + 1)) = 0 := (by simp only [f_X5_canWave_14_v4, if_neg c1, if_pos c2])
          have e_Ml : (f_X5_canWave_14_Ml nl ro ss lt pj way (i1 + 1)) = (f_X5_goesBy_Ml nl ro ((f_X5_canWave_14_Ml nl ro ss lt pj way i1)) 0) := (by simp only [f_X5_canWave_14_Ml, if_neg c1, if_pos c2])
          exact ih14 (i1 + 1) (by omega) _ _ (by rw [e_Ml]; exact hP) (by rw [e_Ml]; exact hD) hS ls (by rw [e_v4]; exact lv_sub hl [2, 3, 4, 5, 1, 0] rfl)
        · refine lv_aload_n hx hb dX5_canWave_53 rfl (lv_at hl 0 rfl) ?_
          refine lv_iload hx hb dX5_canWave_54 (lv_at hl 5 rfl) ?_
          refine lv_iconst (v := 1) hx hb dX5_canWave_56 (by decide) ?_
          refine lv_iadd hx hb dX5_canWave_57 ?_
          refine rV ⟨hx, hb, hml, hown, hts⟩ (c_X5_isBooked l D cI aM aMp aMr aMs aMl aMg aMb aMo aMkr aMks aMkb ofr rd pl nl mi pe kmi kpe bc bk sd ko kbk ha (f_X5_goesBy_Ml nl ro ((f_X5_canWave_14_Ml nl ro ss lt pj way i1)) 0) bo (nI i1 + 1) hbk hbo) (cwV 1 hts gX5_canWave_X5_isBooked rfl rfl rfl hd_X5_isBooked ⟨Nat.le_of_ble_eq_true rfl, Nat.le_of_ble_eq_true rfl⟩) hK (hP.sub [0, 3, 4] rfl) 0 rfl rfl rfl rfl hl.1 (rest := []) (st' := [.int (f_X5_isBooked bk (f_X5_goesBy_Ml nl ro ((f_X5_canWave_14_Ml nl ro ss lt pj way i1)) 0) bo (nI i1 + 1))]) rfl rfl (Nat.le_of_ble_eq_true rfl) dX5_canWave_58 ⟨Nat.zero_le _, Nat.zero_le _⟩ ?_
          refine lv_if_eq (tgt := 68) hx hb dX5_canWave_61 (by decide) (fun c3 => ?_) (fun c3 => ?_)
          · refine lv_iconst (v := 0) hx hb dX5_canWave_68 (by decide) ?_
            refine lv_istore (lv' := [(4, .int 0), (0, .ref aM), (1, .int (nI pj)), (2, .int (nI mm)), (3, .int way), (5, .int (nI i1))]) hx hb dX5_canWave_69 hl (by decide) rfl (fun ls hl => ?_)
            refine lv_iinc (v := nI (i1 + 1)) (lv' := [(5, .int (nI (i1 + 1))), (4, .int 0), (0, .ref aM), (1, .int (nI pj)), (2, .int (nI mm)), (3, .int way)]) hx hb dX5_canWave_71 hl (k := 5) rfl (nI_add i1 1) (by decide) rfl (fun ls hl => ?_)
            refine lv_goto (tgt := 14) hx hb dX5_canWave_74 (by decide) ?_
            have e_v4 : (f_X5_canWave_14_v4 nl bk ro ss lt bo pj way (i1 + 1)) = 0 := (by simp only [f_X5_canWave_14_v4, if_neg c1, if_neg c2, if_pos c3])
            have e_Ml : (f_X5_canWave_14_Ml nl ro ss lt pj way (i1 + 1)) = (f_X5_goesBy_Ml nl ro ((f_X5_canWave_14_Ml nl ro ss lt pj way i1)) 0) := (by simp only [f_X5_canWave_14_Ml, if_neg c1, if_neg c2, if_pos c3])
            exact ih14 (i1 + 1) (by omega) _ _ (by rw [e_Ml]; exact hP) (by rw [e_Ml]; exact hD) hS ls (by rw [e_v4]; exact lv_sub hl [2, 3, 4, 5, 1, 0] rfl)
          · refine lv_iconst (v := 1) hx hb dX5_canWave_64 (by decide) ?_
            refine lv_goto (tgt := 69) hx hb dX5_canWave_65 (by decide) ?_
            refine lv_istore (lv' := [(4, .int 1), (0, .ref aM), (1, .int (nI pj)), (2, .int (nI mm)), (3, .int way), (5, .int (nI i1))]) hx hb dX5_canWave_69 hl (by decide) rfl (fun ls hl => ?_)
            refine lv_iinc (v := nI (i1 + 1)) (lv' := [(5, .int (nI (i1 + 1))), (4, .int 1), (0, .ref aM), (1, .int (nI pj)), (2, .int (nI mm)), (3, .int way)]) hx hb dX5_canWave_71 hl (k := 5) rfl (nI_add i1 1) (by decide) rfl (fun ls hl => ?_)
            refine lv_goto (tgt := 14) hx hb dX5_canWave_74 (by decide) ?_
            have e_v4 : (f_X5_canWave_14_v4 nl bk ro ss lt bo pj way (i1 + 1)) = 1 := (by simp only [f_X5_canWave_14_v4, if_neg c1, if_neg c2, if_neg c3])
            have e_Ml : (f_X5_canWave_14_Ml nl ro ss lt pj way (i1 + 1)) = (f_X5_goesBy_Ml nl ro ((f_X5_canWave_14_Ml nl ro ss lt pj way i1)) 0) := (by simp only [f_X5_canWave_14_Ml, if_neg c1, if_neg c2, if_neg c3])
            exact ih14 (i1 + 1) (by omega) _ _ (by rw [e_Ml]; exact hP) (by rw [e_Ml]; exact hD) hS ls (by rw [e_v4]; exact lv_sub hl [2, 3, 4, 5, 1, 0] rfl)
      · refine lv_iconst (v := 1) hx hb dX5_canWave_31 (by decide) ?_
        refine lv_aload_n hx hb dX5_canWave_32 rfl (lv_at hl 0 rfl) ?_
        refine va_get (D := D) (ci := 5) (v := .ref aMs) (C := RX5) (T := TX5) (N := 24) hx hb hts uX5 hown hK hP 0 rfl rfl 7 (by decide) w1 (fun _ h9 => h9) rfl dX5_canWave_33 ?_
        refine lv_iconst (v := 3) hx hb dX5_canWave_36 (by decide) ?_
        refine lv_iload_n hx hb dX5_canWave_37 rfl (lv_at hl 1 rfl) ?_
        refine lv_imul hx hb dX5_canWave_38 ?_
        refine xald hx hb hK hP 2 rfl (3 * pj) (ix_mul rfl rfl) (by omega) (by decide) dX5_canWave_39 ?_
        refine lv_ishl hx hb dX5_canWave_40 ?_
        refine lv_goto (tgt := 45) hx hb dX5_canWave_41 (by decide) ?_
        refine xV (w2 := [(aM, .inr (5, [.ref aMp, .int (nI pl), .int (nI nl), .int mi, .int ofr, .ref aMr, .int (nI pe), .ref aMs, .ref aMl, .int bc, .int rd, .ref aMg, .ref aMb, .int (nI bk), .ref aMo, .int sd, .int ko, .int kpe, .int kmi, .int kbk, .ref aMkr, .ref aMks, .ref aMkb, .long ha])), (aMr, .inl (cI, 18, .inl ro)), (aMs, .inl (cI, 12, .inl ss)), (aMl, .inl (cI, 6, .inl (f_X5_goesBy_Ml nl ro ((f_X5_canWave_14_Ml nl ro ss lt pj way i1)) ((1 : Int32) <<< ((ss (3 * pj)) &&& 31))))), (aMo, .inl (cI, 24, .inl bo))]) ⟨hx, hb, hml, hown, hts⟩ (c_X5_goesBy l D cI aM aMp aMr aMs aMl aMg aMb aMo aMkr aMks aMkb ofr rd pl nl mi pe kmi kpe bc bk sd ko kbk ha ro ((f_X5_canWave_14_Ml nl ro ss lt pj way i1)) ((1 : Int32) <<< ((ss (3 * pj)) &&& 31)) hn) (cwV 1 hts gX5_canWave_X5_goesBy rfl rfl rfl hd_X5_goesBy ⟨Nat.le_of_ble_eq_true rfl, Nat.le_of_ble_eq_true rfl⟩) hK hP hD hS hA [0, 1, 3] [2, 4] [2, 3, 0, 4, 1] rfl rfl rfl rfl rfl (by decide) rfl rfl rfl 0 rfl rfl rfl rfl hl.1 (rest := []) (st' := []) rfl rfl (Nat.le_of_ble_eq_true rfl) dX5_canWave_45 ⟨Nat.zero_le _, Nat.zero_le _⟩ (fun H locs hP hD hS => ?_)
        refine lv_iload hx hb dX5_canWave_48 (lv_at hl 4 rfl) ?_
        refine lv_if_eq (tgt := 68) hx hb dX5_canWave_50 (by decide) (fun c4 => ?_) (fun c4 => ?_)
        · refine lv_iconst (v := 0) hx hb dX5_canWave_68 (by decide) ?_
          refine lv_istore (lv' := [(4, .int 0), (0, .ref aM), (1, .int (nI pj)), (2, .int (nI mm)), (3, .int way), (5, .int (nI i1))]) hx hb dX5_canWave_69 hl (by decide) rfl (fun ls hl => ?_)
          refine lv_iinc (v := nI (i1 + 1)) (lv' := [(5, .int (nI (i1 + 1))), (4, .int 0), (0, .ref aM), (1, .int (nI pj)), (2, .int (nI mm)), (3, .int way)]) hx hb dX5_canWave_71 hl (k := 5) rfl (nI_add i1 1) (by decide) rfl (fun ls hl => ?_)
          refine lv_goto (tgt := 14) hx hb dX5_canWave_74 (by decide) ?_
          have e_v4 : (f_X5_canWave_14_v4 nl bk ro ss lt bo pj way (i1 + 1)) = 0 := (by simp only [f_X5_canWave_14_v4, if_pos c1, if_pos c4])
          have e_Ml : (f_X5_canWave_14_Ml nl ro ss lt pj way (i1 + 1)) = (f_X5_goesBy_Ml nl ro ((f_X5_canWave_14_Ml nl ro ss lt pj way i1)) ((1 : Int32) <<< ((ss (3 * pj)) &&& 31))) := (by simp only [f_X5_canWave_14_Ml, if_pos c1, if_pos c4])
          exact ih14 (i1 + 1) (by omega) _ _ (by rw [e_Ml]; exact hP) (by rw [e_Ml]; exact hD) hS ls (by rw [e_v4]; exact lv_sub hl [2, 3, 4, 5, 1, 0] rfl)
        · refine lv_aload_n hx hb dX5_canWave_53 rfl (lv_at hl 0 rfl) ?_
          refine lv_iload hx hb dX5_canWave_54 (lv_at hl 5 rfl) ?_
          refine lv_iconst (v := 1) hx hb dX5_canWave_56 (by decide) ?_
          refine lv_iadd hx hb dX5_canWave_57 ?_
          refine rV ⟨hx, hb, hml, hown, hts⟩ (c_X5_isBooked l D cI aM aMp aMr aMs aMl aMg aMb aMo aMkr aMks aMkb ofr rd pl nl mi pe kmi kpe bc bk sd ko kbk ha (f_X5_goesBy_Ml nl ro ((f_X5_canWave_14_Ml nl ro ss lt pj way i1)) ((1 : Int32) <<< ((ss (3 * pj)) &&& 31))) bo (nI i1 + 1) hbk hbo) (cwV 1 hts gX5_canWave_X5_isBooked rfl rfl rfl hd_X5_isBooked ⟨Nat.le_of_ble_eq_true rfl, Nat.le_of_ble_eq_true rfl⟩) hK (hP.sub [0, 3, 4] rfl) 0 rfl rfl rfl rfl hl.1 (rest := []) (st' := [.int (f_X5_isBooked bk (f_X5_goesBy_Ml nl ro ((f_X5_canWave_14_Ml nl ro ss lt pj way i1)) ((1 : Int32) <<< ((ss (3 * pj)) &&& 31))) bo (nI i1 + 1))]) rfl rfl (Nat.le_of_ble_eq_true rfl) dX5_canWave_58 ⟨Nat.zero_le _, Nat.zero_le _⟩ ?_
          refine lv_if_eq (tgt := 68) hx hb dX5_canWave_61 (by decide) (fun c5 => ?_) (fun c5 => ?_)
          · refine lv_iconst (v := 0) hx hb dX5_canWave_68 (by decide) ?_
            refine lv_istore (lv' := [(4, .int 0), (0, .ref aM), (1, .int (nI pj)), (2, .int (nI mm)), (3, .int way), (5, .int (nI i1))]) hx hb dX5_canWave_69 hl (by decide) rfl (fun ls hl => ?_)
            refine lv_iinc (v := nI (i1 + 1)) (lv' := [(5, .int (nI (i1 + 1))), (4, .int 0), (0, .ref aM), (1, .int (nI pj)), (2, .int (nI mm)), (3, .int way)]) hx hb dX5_canWave_71 hl (k := 5) rfl (nI_add i1 1) (by decide) rfl (fun ls hl => ?_)
            refine lv_goto (tgt := 14) hx hb dX5_canWave_74 (by decide) ?_
            have e_v4 : (f_X5_canWave_14_v4 nl bk ro ss lt bo pj way (i1 + 1)) = 0 := (by simp only [f_X5_canWave_14_v4, if_pos c1, if_neg c4, if_pos c5])
            have e_Ml : (f_X5_canWave_14_Ml nl ro ss lt pj way (i1 + 1)) = (f_X5_goesBy_Ml nl ro ((f_X5_canWave_14_Ml nl ro ss lt pj way i1)) ((1 : Int32) <<< ((ss (3 * pj)) &&& 31))) := (by simp only [f_X5_canWave_14_Ml, if_pos c1, if_neg c4, if_pos c5])
            exact ih14 (i1 + 1) (by omega) _ _ (by rw [e_Ml]; exact hP) (by rw [e_Ml]; exact hD) hS ls (by rw [e_v4]; exact lv_sub hl [2, 3, 4, 5, 1, 0] rfl)
          · refine lv_iconst (v := 1) hx hb dX5_canWave_64 (by decide) ?_
            refine lv_goto (tgt := 69) hx hb dX5_canWave_65 (by decide) ?_
            refine lv_istore (lv' := [(4, .int 1), (0, .ref aM), (1, .int (nI pj)), (2, .int (nI mm)), (3, .int way), (5, .int (nI i1))]) hx hb dX5_canWave_69 hl (by decide) rfl (fun ls hl => ?_)
            refine lv_iinc (v := nI (i1 + 1)) (lv' := [(5, .int (nI (i1 + 1))), (4, .int 1), (0, .ref aM), (1, .int (nI pj)), (2, .int (nI mm)), (3, .int way)]) hx hb dX5_canWave_71 hl (k := 5) rfl (nI_add i1 1) (by decide) rfl (fun ls hl => ?_)
            refine lv_goto (tgt := 14) hx hb dX5_canWave_74 (by decide) ?_
            have e_v4 : (f_X5_canWave_14_v4 nl bk ro ss lt bo pj way (i1 + 1)) = 1 := (by simp only [f_X5_canWave_14_v4, if_pos c1, if_neg c4, if_neg c5])
            have e_Ml : (f_X5_canWave_14_Ml nl ro ss lt pj way (i1 + 1)) = (f_X5_goesBy_Ml nl ro ((f_X5_canWave_14_Ml nl ro ss lt pj way i1)) ((1 : Int32) <<< ((ss (3 * pj)) &&& 31))) := (by simp only [f_X5_canWave_14_Ml, if_pos c1, if_neg c4, if_neg c5])
            exact ih14 (i1 + 1) (by omega) _ _ (by rw [e_Ml]; exact hP) (by rw [e_Ml]; exact hD) hS ls (by rw [e_v4]; exact lv_sub hl [2, 3, 4, 5, 1, 0] rfl)
  exact lp14 mm 0 (by omega) _ _ hP hD hS ls (lv_sub hl [2, 3, 4, 5, 1, 0] rfl)

def rm_X5_wavedOf : Room := { frames := 3, cells := 0, slots := 0, locals := 72 }
def f_X5_wavedOf_13_r (nl : Nat) (bk : Nat) (ro : Nat → Int32) (ss : Nat → Int32) (bo : Nat → Int32) (mm : Nat) (pj : Nat) (what : Int32) : Nat → Nat → Int32 → Int32 → (Nat → Int32) → Int32
  | 0, _, _, _, _ => 0
  | k13 + 1, i1, x13_v4, x13_v5, x13_Ml => (if (dI i1) < 0 then (if what = 0 then x13_v4 else x13_v5) else (if (f_X5_canWave nl bk ro ss x13_Ml bo mm pj (dI i1)) = 0 then (f_X5_wavedOf_13_r nl bk ro ss bo mm pj what k13 (i1 - 1) x13_v4 x13_v5 (f_X5_canWave_Ml nl ro ss x13_Ml mm pj (dI i1))) else (f_X5_wavedOf_13_r nl bk ro ss bo mm pj what k13 (i1 - 1) (x13_v4 + 1) (dI i1) (f_X5_canWave_Ml nl ro ss x13_Ml mm pj (dI i1)))))
def f_X5_wavedOf_13_Ml (nl : Nat) (bk : Nat) (ro : Nat → Int32) (ss : Nat → Int32) (bo : Nat → Int32) (mm : Nat) (pj : Nat) : Nat → Nat → Int32 → Int32 → (Nat → Int32) → (Nat → Int32)
  | 0, _, _, _, _ => (fun _ => 0)
  | k13 + 1, i1, x13_v4, x13_v5, x13_Ml => (if (dI i1) < 0 then x13_Ml else (if (f_X5_canWave nl bk ro ss x13_Ml bo mm pj (dI i1)) = 0 then (f_X5_wavedOf_13_Ml nl bk ro ss bo mm pj k13 (i1 - 1) x13_v4 x13_v5 (f_X5_canWave_Ml nl ro ss x13_Ml mm pj (dI i1))) else (f_X5_wavedOf_13_Ml nl bk ro ss bo mm pj k13 (i1 - 1) (x13_v4 + 1) (dI i1) (f_X5_canWave_Ml nl ro ss x13_Ml mm pj (dI i1)))))
def f_X5_wavedOf (nl : Nat) (bk : Nat) (ro : Nat → Int32) (ss : Nat → Int32) (lt : Nat → Int32) (bo : Nat → Int32) (mm : Nat) (pj : Nat) (what : Int32) : Int32 := (f_X5_wavedOf_13_r nl bk ro ss bo mm pj what (2 ^ mm + 1) (2 ^ mm) 0 (-1) lt)
def f_X5_wavedOf_Ml (nl : Nat) (bk : Nat) (ro : Nat → Int32) (ss : Nat → Int32) (lt : Nat → Int32) (bo : Nat → Int32) (mm : Nat) (pj : Nat) : Nat → Int32 := (f_X5_wavedOf_13_Ml nl bk ro ss bo mm pj (2 ^ mm + 1) (2 ^ mm) 0 (-1) lt)
theorem hd_X5_wavedOf : yX5_wavedOf.cls = RX5 ∧ yX5_wavedOf.cls ≠ "java/lang/invoke/MethodHandle" ∧ yX5_wavedOf.cls ≠ "java/lang/invoke/VarHandle" ∧ (parseMethodDescriptor yX5_wavedOf.desc).map (fun d => d.parameters.length) = some 3 := by decide +kernel
set_option maxHeartbeats 4000000 in
set_option maxRecDepth 100000 in
theorem c_X5_wavedOf (l : Launch) (D : va_G) (cI : ClassId) (aM aMp aMr aMs aMl aMg aMb aMo aMkr aMks aMkb : Nat) (ofr : Int32) (rd : Int32) (pl : Nat) (nl : Nat) (mi : Int32) (pe : Nat) (kmi : Int32) (kpe : Int32) (bc : Int32) (bk : Nat) (sd : Int32) (ko : Int32) (kbk : Int32) (ha : Int64) (ro : Nat → Int32) (ss : Nat → Int32) (lt : Nat → Int32) (bo : Nat → Int32) (mm : Nat) (pj : Nat) (what : Int32) (hn : nl ≤ 6) (hpe : pe ≤ 4) (hbk : bk ≤ 8) (hbo : ∀ j, j < bk → vp_in (bo (3 * j + 1)) 6) (hpj : pj < pe) (hmm : mm ≤ 6) : MetX l yX5_wavedOf wsX5_wavedOf rm_X5_wavedOf D cI [.ref aM, .int (nI pj), .int (nI mm), .int what] [(aM, .inr (5, [.ref aMp, .int (nI pl), .int (nI nl), .int mi, .int ofr, .ref aMr, .int (nI pe), .ref aMs, .ref aMl, .int bc, .int rd, .ref aMg, .ref aMb, .int (nI bk), .ref aMo, .int sd, .int ko, .int kpe, .int kmi, .int kbk, .ref aMkr, .ref aMks, .ref aMkb, .long ha])), (aMr, .inl (cI, 18, .inl ro)), (aMs, .inl (cI, 12, .inl ss)), (aMl, .inl (cI, 6, .inl lt)), (aMo, .inl (cI, 24, .inl bo))] (some (.int (f_X5_wavedOf nl bk ro ss lt bo mm pj what))) [(aM, .inr (5, [.ref aMp, .int (nI pl), .int (nI nl), .int mi, .int ofr, .ref aMr, .int (nI pe), .ref aMs, .ref aMl, .int bc, .int rd, .ref aMg, .ref aMb, .int (nI bk), .ref aMo, .int sd, .int ko, .int kpe, .int kmi, .int kbk, .ref aMkr, .ref aMks, .ref aMkb, .long ha])), (aMr, .inl (cI, 18, .inl ro)), (aMs, .inl (cI, 12, .inl ss)), (aMl, .inl (cI, 6, .inl (f_X5_wavedOf_Ml nl bk ro ss lt bo mm pj))), (aMo, .inl (cI, 24, .inl bo))] := by
  refine mX (cc := cX5_wavedOf) (maxL := 7) (ret := (some .int)) (by decide) rfl (Nat.le_of_ble_eq_true rfl) ?_
  intro p e s m args below meth c Q A hx hb hr hml hown hts hlk hP hK hD hA hS hQ ls hl
  have hown : s.vm.findClass RX5 = some m.cls := hown
  have hl : lv_has ls 7 [(0, .ref aM), (1, .int (nI pj)), (2, .int (nI mm)), (3, .int what)] := hl
  refine lv_iconst (v := 0) hx hb dX5_wavedOf_0 (by decide) ?_
  refine lv_istore (lv' := [(4, .int 0), (0, .ref aM), (1, .int (nI pj)), (2, .int (nI mm)), (3, .int what)]) hx hb dX5_wavedOf_1 hl (by decide) rfl (fun ls hl => ?_)
  refine lv_iconst (v := (-1)) hx hb dX5_wavedOf_3 (by decide) ?_
  refine lv_istore (lv' := [(5, .int (-1)), (4, .int 0), (0, .ref aM), (1, .int (nI pj)), (2, .int (nI mm)), (3, .int what)]) hx hb dX5_wavedOf_4 hl (by decide) rfl (fun ls hl => ?_)
  refine lv_iconst (v := 1) hx hb dX5_wavedOf_6 (by decide) ?_
  refine lv_iload_n hx hb dX5_wavedOf_7 rfl (lv_at hl 4 rfl) ?_
  refine lv_ishl hx hb dX5_wavedOf_8 ?_
  refine lv_iconst (v := 1) hx hb dX5_wavedOf_9 (by decide) ?_
  refine lv_isub hx hb dX5_wavedOf_10 ?_
  refine tpi (y := (dI (2 ^ mm))) (top_dI mm hmm) ?_
  refine lv_istore (lv' := [(6, .int (dI (2 ^ mm))), (5, .int (-1)), (4, .int 0), (0, .ref aM), (1, .int (nI pj)), (2, .int (nI mm)), (3, .int what)]) hx hb dX5_wavedOf_11 hl (by decide) rfl (fun ls hl => ?_)
  have lp13 : ∀ (k13 : Nat) (i1 : Nat) (x13_v4 : Int32) (x13_v5 : Int32) (x13_Ml : Nat → Int32), i1 < k13 → ((f_X5_wavedOf nl bk ro ss lt bo mm pj what) = (f_X5_wavedOf_13_r nl bk ro ss bo mm pj what k13 i1 x13_v4 x13_v5 x13_Ml)) → ((f_X5_wavedOf_Ml nl bk ro ss lt bo mm pj) = (f_X5_wavedOf_13_Ml nl bk ro ss bo mm pj k13 i1 x13_v4 x13_v5 x13_Ml)) → ∀ (H : Heap) (locs : List Loc), va_P D vwCl [(aM, .inr (5, [.ref aMp, .int (nI pl), .int (nI nl), .int mi, .int ofr, .ref aMr, .int (nI pe), .ref aMs, .ref aMl, .int bc, .int rd, .ref aMg, .ref aMb, .int (nI bk), .ref aMo, .int sd, .int ko, .int kpe, .int kmi, .int kbk, .ref aMkr, .ref aMks, .ref aMkb, .long ha])), (aMr, .inl (cI, 18, .inl ro)), (aMs, .inl (cI, 12, .inl ss)), (aMl, .inl (cI, 6, .inl x13_Ml)), (aMo, .inl (cI, 24, .inl bo))] H → va_D A [(aM, .inr (5, [.ref aMp, .int (nI pl), .int (nI nl), .int mi, .int ofr, .ref aMr, .int (nI pe), .ref aMs, .ref aMl, .int bc, .int rd, .ref aMg, .ref aMb, .int (nI bk), .ref aMo, .int sd, .int ko, .int kpe, .int kmi, .int kbk, .ref aMkr, .ref aMks, .ref aMkb, .long ha])), (aMr, .inl (cI, 18, .inl ro)), (aMs, .inl (cI, 12, .inl ss)), (aMl, .inl (cI, 6, .inl x13_Ml)), (aMo, .inl (cI, 24, .inl bo))] → va_S A s.heap H locs → ∀ ls : Array Slot, lv_has ls 7 [(0, .ref aM), (1, .int (nI pj)), (2, .int (nI mm)), (3, .int what), (4, .int x13_v4), (5, .int x13_v5), (6, .int (dI i1))] → W p l e rm_X5_wavedOf s m args below meth c H locs 0 0 Q (F0 m 13 ls []) := by
    intro k13
    induction k13 with
    | zero =>
      intro i1 x13_v4 x13_v5 x13_Ml hh13 h13_r h13_Ml H locs hP hD hS ls hl
      exact absurd hh13 (by omega)
    | succ k13 ih13 =>
      intro i1 x13_v4 x13_v5 x13_Ml hh13 h13_r h13_Ml H locs hP hD hS ls hl
      refine lv_iload hx hb dX5_wavedOf_13 (lv_at hl 6 rfl) ?_
      refine lv_if_lt (tgt := 42) hx hb dX5_wavedOf_15 (by decide) (fun c1 => ?_) (fun c1 => ?_)
      · refine lv_iload_n hx hb dX5_wavedOf_42 rfl (lv_at hl 3 rfl) ?_
        refine lv_if_ne (tgt := 51) hx hb dX5_wavedOf_43 (by decide) (fun c2 => ?_) (fun c2 => ?_)
        · refine lv_iload hx hb dX5_wavedOf_51 (lv_at hl 5 rfl) ?_
          have e_Ml : (f_X5_wavedOf_Ml nl bk ro ss lt bo mm pj) = x13_Ml := (h13_Ml.trans (by simp only [f_X5_wavedOf_13_Ml, if_pos c1, if_neg c2]))
          exact eXi hx hb hr hlk hQ (by rw [e_Ml]; exact hP) (by rw [e_Ml]; exact hD) hS dX5_wavedOf_53 (Eq.symm (h13_r.trans (by simp only [f_X5_wavedOf_13_r, if_pos c1, if_neg c2])))
        · refine lv_iload hx hb dX5_wavedOf_46 (lv_at hl 4 rfl) ?_
          refine lv_goto (tgt := 53) hx hb dX5_wavedOf_48 (by decide) ?_
          have e_Ml : (f_X5_wavedOf_Ml nl bk ro ss lt bo mm pj) = x13_Ml := (h13_Ml.trans (by simp only [f_X5_wavedOf_13_Ml, if_pos c1, if_pos c2]))
          exact eXi hx hb hr hlk hQ (by rw [e_Ml]; exact hP) (by rw [e_Ml]; exact hD) hS dX5_wavedOf_53 (Eq.symm (h13_r.trans (by simp only [f_X5_wavedOf_13_r, if_pos c1, if_pos c2])))
      · have hd1 := dI_pos c1
        refine lv_aload_n hx hb dX5_wavedOf_18 rfl (lv_at hl 0 rfl) ?_
        refine lv_iload_n hx hb dX5_wavedOf_19 rfl (lv_at hl 1 rfl) ?_
        refine lv_iload_n hx hb dX5_wavedOf_20 rfl (lv_at hl 2 rfl) ?_
        refine lv_iload hx hb dX5_wavedOf_21 (lv_at hl 6 rfl) ?_
        refine xV (w2 := [(aM, .inr (5, [.ref aMp, .int (nI pl), .int (nI nl), .int mi, .int ofr, .ref aMr, .int (nI pe), .ref aMs, .ref aMl, .int bc, .int rd, .ref aMg, .ref aMb, .int (nI bk), .ref aMo, .int sd, .int ko, .int kpe, .int kmi, .int kbk, .ref aMkr, .ref aMks, .ref aMkb, .long ha])), (aMr, .inl (cI, 18, .inl ro)), (aMs, .inl (cI, 12, .inl ss)), (aMl, .inl (cI, 6, .inl (f_X5_canWave_Ml nl ro ss x13_Ml mm pj (dI i1)))), (aMo, .inl (cI, 24, .inl bo))]) ⟨hx, hb, hml, hown, hts⟩ (c_X5_canWave l D cI aM aMp aMr aMs aMl aMg aMb aMo aMkr aMks aMkb ofr rd pl nl mi pe kmi kpe bc bk sd ko kbk ha ro ss x13_Ml bo mm pj (dI i1) hn hpe hbk hbo hpj hmm) (cwV 3 hts gX5_wavedOf_X5_canWave rfl rfl rfl hd_X5_canWave ⟨Nat.le_of_ble_eq_true rfl, Nat.le_of_ble_eq_true rfl⟩) hK hP hD hS hA [0, 1, 2, 3, 4] [] [0, 1, 2, 3, 4] rfl rfl rfl rfl rfl (by decide) rfl rfl rfl 0 rfl rfl rfl rfl hl.1 (rest := []) (st' := [.int (f_X5_canWave nl bk ro ss x13_Ml bo mm pj (dI i1))]) rfl rfl (Nat.le_of_ble_eq_true rfl) dX5_wavedOf_23 ⟨Nat.zero_le _, Nat.zero_le _⟩ (fun H locs hP hD hS => ?_)
        refine lv_if_eq (tgt := 36) hx hb dX5_wavedOf_26 (by decide) (fun c3 => ?_) (fun c3 => ?_)
        · refine lv_iinc (v := (dI (i1 - 1))) (lv' := [(6, .int (dI (i1 - 1))), (0, .ref aM), (1, .int (nI pj)), (2, .int (nI mm)), (3, .int what), (4, .int x13_v4), (5, .int x13_v5)]) hx hb dX5_wavedOf_36 hl (k := 6) rfl (dI_pred c1) (by decide) rfl (fun ls hl => ?_)
          refine lv_goto (tgt := 13) hx hb dX5_wavedOf_39 (by decide) ?_
          exact ih13 (i1 - 1) x13_v4 x13_v5 (f_X5_canWave_Ml nl ro ss x13_Ml mm pj (dI i1)) (by omega) (h13_r.trans (by simp only [f_X5_wavedOf_13_r, if_neg c1, if_pos c3])) (h13_Ml.trans (by simp only [f_X5_wavedOf_13_Ml, if_neg c1, if_pos c3])) _ _ (hP) (hD) hS ls (lv_sub hl [1, 2, 3, 4, 5, 6, 0] rfl)
        · refine lv_iinc (v := (x13_v4 + 1)) (lv' := [(4, .int (x13_v4 + 1)), (0, .ref aM), (1, .int (nI pj)), (2, .int (nI mm)), (3, .int what), (5, .int x13_v5), (6, .int (dI i1))]) hx hb dX5_wavedOf_29 hl (k := 4) rfl rfl (by decide) rfl (fun ls hl => ?_)
          refine lv_iload hx hb dX5_wavedOf_32 (lv_at hl 6 rfl) ?_
          refine lv_istore (lv' := [(5, .int (dI i1)), (4, .int (x13_v4 + 1)), (0, .ref aM), (1, .int (nI pj)), (2, .int (nI mm)), (3, .int what), (6, .int (dI i1))]) hx hb dX5_wavedOf_34 hl (by decide) rfl (fun ls hl => ?_)
          refine lv_iinc (v := (dI (i1 - 1))) (lv' := [(6, .int (dI (i1 - 1))), (5, .int (dI i1)), (4, .int (x13_v4 + 1)), (0, .ref aM), (1, .int (nI pj)), (2, .int (nI mm)), (3, .int what)]) hx hb dX5_wavedOf_36 hl (k := 6) rfl (dI_pred c1) (by decide) rfl (fun ls hl => ?_)
          refine lv_goto (tgt := 13) hx hb dX5_wavedOf_39 (by decide) ?_
          exact ih13 (i1 - 1) (x13_v4 + 1) (dI i1) (f_X5_canWave_Ml nl ro ss x13_Ml mm pj (dI i1)) (by omega) (h13_r.trans (by simp only [f_X5_wavedOf_13_r, if_neg c1, if_neg c3])) (h13_Ml.trans (by simp only [f_X5_wavedOf_13_Ml, if_neg c1, if_neg c3])) _ _ (hP) (hD) hS ls (lv_sub hl [3, 4, 5, 6, 2, 1, 0] rfl)
  exact lp13 (2 ^ mm + 1) (2 ^ mm) 0 (-1) lt (by omega) (by simp only [f_X5_wavedOf]) (by simp only [f_X5_wavedOf_Ml]) _ _ hP hD hS ls (lv_sub hl [3, 4, 5, 6, 2, 1, 0] rfl)

def rm_X5_waved : Room := { frames := 4, cells := 0, slots := 0, locals := 98 }
def f_X5_waved (nl : Nat) (pe : Nat) (bk : Nat) (ro : Nat → Int32) (ss : Nat → Int32) (lt : Nat → Int32) (bo : Nat → Int32) (many : Int32) (person : Int32) (what : Int32) : Int32 := (if (f_X5_isPerson pe person) = 0 then (-101) else (if (f_X5_in (many.toInt64) 1 6) = 0 then (-102) else (if (f_X5_in (what.toInt64) 0 1) = 0 then (-102) else (f_X5_wavedOf nl bk ro ss lt bo (many.toNatClampNeg) (person.toNatClampNeg) what))))
def f_X5_waved_Ml (nl : Nat) (pe : Nat) (bk : Nat) (ro : Nat → Int32) (ss : Nat → Int32) (lt : Nat → Int32) (bo : Nat → Int32) (many : Int32) (person : Int32) (what : Int32) : Nat → Int32 := (if (f_X5_isPerson pe person) = 0 then lt else (if (f_X5_in (many.toInt64) 1 6) = 0 then lt else (if (f_X5_in (what.toInt64) 0 1) = 0 then lt else (f_X5_wavedOf_Ml nl bk ro ss lt bo (many.toNatClampNeg) (person.toNatClampNeg)))))
theorem hd_X5_waved : yX5_waved.cls = RX5 ∧ yX5_waved.cls ≠ "java/lang/invoke/MethodHandle" ∧ yX5_waved.cls ≠ "java/lang/invoke/VarHandle" ∧ (parseMethodDescriptor yX5_waved.desc).map (fun d => d.parameters.length) = some 3 := by decide +kernel
set_option maxHeartbeats 4000000 in
set_option maxRecDepth 100000 in
theorem c_X5_waved (l : Launch) (D : va_G) (cI : ClassId) (aM aMp aMr aMs aMl aMg aMb aMo aMkr aMks aMkb : Nat) (ofr : Int32) (rd : Int32) (pl : Nat) (nl : Nat) (mi : Int32) (pe : Nat) (kmi : Int32) (kpe : Int32) (bc : Int32) (bk : Nat) (sd : Int32) (ko : Int32) (kbk : Int32) (ha : Int64) (ro : Nat → Int32) (ss : Nat → Int32) (lt : Nat → Int32) (bo : Nat → Int32) (many : Int32) (person : Int32) (what : Int32) (hn : nl ≤ 6) (hpe : pe ≤ 4) (hbk : bk ≤ 8) (hbo : ∀ j, j < bk → vp_in (bo (3 * j + 1)) 6) : MetX l yX5_waved wsX5_waved rm_X5_waved D cI [.ref aM, .int person, .int many, .int what] [(aM, .inr (5, [.ref aMp, .int (nI pl), .int (nI nl), .int mi, .int ofr, .ref aMr, .int (nI pe), .ref aMs, .ref aMl, .int bc, .int rd, .ref aMg, .ref aMb, .int (nI bk), .ref aMo, .int sd, .int ko, .int kpe, .int kmi, .int kbk, .ref aMkr, .ref aMks, .ref aMkb, .long ha])), (aMr, .inl (cI, 18, .inl ro)), (aMs, .inl (cI, 12, .inl ss)), (aMl, .inl (cI, 6, .inl lt)), (aMo, .inl (cI, 24, .inl bo))] (some (.int (f_X5_waved nl pe bk ro ss lt bo many person what))) [(aM, .inr (5, [.ref aMp, .int (nI pl), .int (nI nl), .int mi, .int ofr, .ref aMr, .int (nI pe), .ref aMs, .ref aMl, .int bc, .int rd, .ref aMg, .ref aMb, .int (nI bk), .ref aMo, .int sd, .int ko, .int kpe, .int kmi, .int kbk, .ref aMkr, .ref aMks, .ref aMkb, .long ha])), (aMr, .inl (cI, 18, .inl ro)), (aMs, .inl (cI, 12, .inl ss)), (aMl, .inl (cI, 6, .inl (f_X5_waved_Ml nl pe bk ro ss lt bo many person what))), (aMo, .inl (cI, 24, .inl bo))] := by
  refine mX (cc := cX5_waved) (maxL := 4) (ret := (some .int)) (by decide) rfl (Nat.le_of_ble_eq_true rfl) ?_
  intro p e s m args below meth c Q A hx hb hr hml hown hts hlk hP hK hD hA hS hQ ls hl
  have hown : s.vm.findClass RX5 = some m.cls := hown
  have hl : lv_has ls 4 [(0, .ref aM), (1, .int person), (2, .int many), (3, .int what)] := hl
  have w1 := hts (.constantLong RX5 164 (6)) (List.mem_of_getElem? (i := 1) rfl)
  refine lv_aload_n hx hb dX5_waved_0 rfl (lv_at hl 0 rfl) ?_
  refine lv_iload_n hx hb dX5_waved_1 rfl (lv_at hl 1 rfl) ?_
  refine rV ⟨hx, hb, hml, hown, hts⟩ (c_X5_isPerson l D cI aM aMp aMr aMs aMl aMg aMb aMo aMkr aMks aMkb ofr rd pl nl mi pe kmi kpe bc bk sd ko kbk ha person) (cwV 1 hts gX5_waved_X5_isPerson rfl rfl rfl hd_X5_isPerson ⟨Nat.le_of_ble_eq_true rfl, Nat.le_of_ble_eq_true rfl⟩) hK (hP.sub [0] rfl) 0 rfl rfl rfl rfl hl.1 (rest := []) (st' := [.int (f_X5_isPerson pe person)]) rfl rfl (Nat.le_of_ble_eq_true rfl) dX5_waved_2 ⟨Nat.zero_le _, Nat.zero_le _⟩ ?_
  refine lv_if_ne (tgt := 11) hx hb dX5_waved_5 (by decide) (fun c1 => ?_) (fun c1 => ?_)
  · refine lv_iload_n hx hb dX5_waved_11 rfl (lv_at hl 2 rfl) ?_
    refine lv_i2l (v := many.toInt64) hx hb dX5_waved_12 rfl ?_
    refine lv_lconst (v := 1) hx hb dX5_waved_13 (by decide) ?_
    refine lv_ldc2 (v := 6) hx hb hown w1 dX5_waved_14 ?_
    refine rS ⟨hx, hb, hml, hown, hts⟩ (c_X5_in l D cI (many.toInt64) 1 6) (va_cwS 3 hts gX5_waved_X5_in rfl rfl rfl hd_X5_in ⟨Nat.le_of_ble_eq_true rfl, Nat.le_of_ble_eq_true rfl⟩) hK (hP.sub [] rfl) rfl hl.1 (rest := []) (st' := [.int (f_X5_in (many.toInt64) 1 6)]) rfl rfl (Nat.le_of_ble_eq_true rfl) dX5_waved_17 ⟨Nat.zero_le _, Nat.zero_le _⟩ ?_
    refine lv_if_eq (tgt := 43) hx hb dX5_waved_20 (by decide) (fun c2 => ?_) (fun c2 => ?_)
    · refine lv_bipush (v := (-102)) hx hb dX5_waved_43 (by decide) ?_
      have e_Ml : (f_X5_waved_Ml nl pe bk ro ss lt bo many person what) = lt := (by simp only [f_X5_waved_Ml, if_neg c1, if_pos c2])
      exact eXi hx hb hr hlk hQ (by rw [e_Ml]; exact hP) (by rw [e_Ml]; exact hD) hS dX5_waved_45 (Eq.symm (by simp only [f_X5_waved, if_neg c1, if_pos c2]))
    · refine lv_iload_n hx hb dX5_waved_23 rfl (lv_at hl 3 rfl) ?_
      refine lv_i2l (v := what.toInt64) hx hb dX5_waved_24 rfl ?_
      refine lv_lconst (v := 0) hx hb dX5_waved_25 (by decide) ?_
      refine lv_lconst (v := 1) hx hb dX5_waved_26 (by decide) ?_
      refine rS ⟨hx, hb, hml, hown, hts⟩ (c_X5_in l D cI (what.toInt64) 0 1) (va_cwS 3 hts gX5_waved_X5_in rfl rfl rfl hd_X5_in ⟨Nat.le_of_ble_eq_true rfl, Nat.le_of_ble_eq_true rfl⟩) hK (hP.sub [] rfl) rfl hl.1 (rest := []) (st' := [.int (f_X5_in (what.toInt64) 0 1)]) rfl rfl (Nat.le_of_ble_eq_true rfl) dX5_waved_27 ⟨Nat.zero_le _, Nat.zero_le _⟩ ?_
      refine lv_if_eq (tgt := 43) hx hb dX5_waved_30 (by decide) (fun c3 => ?_) (fun c3 => ?_)
      · refine lv_bipush (v := (-102)) hx hb dX5_waved_43 (by decide) ?_
        have e_Ml : (f_X5_waved_Ml nl pe bk ro ss lt bo many person what) = lt := (by simp only [f_X5_waved_Ml, if_neg c1, if_neg c2, if_pos c3])
        exact eXi hx hb hr hlk hQ (by rw [e_Ml]; exact hP) (by rw [e_Ml]; exact hD) hS dX5_waved_45 (Eq.symm (by simp only [f_X5_waved, if_neg c1, if_neg c2, if_pos c3]))
      · have hm1 := persM hpe c1
        have hm : person = nI person.toNatClampNeg := hm1.1
        have hm2 : person.toNatClampNeg < pe := hm1.2
        have hy1 := in_nat (v := many) (a := 1) (b := 6) rfl rfl (by decide) (by decide) c2
        refine lv_aload_n hx hb dX5_waved_33 rfl (lv_at hl 0 rfl) ?_
        refine lv_iload_n hx hb dX5_waved_34 rfl (lv_at hl 1 rfl) ?_
        refine tpi (y := nI (person.toNatClampNeg)) hm ?_
        refine lv_iload_n hx hb dX5_waved_35 rfl (lv_at hl 2 rfl) ?_
        refine tpi (y := nI (many.toNatClampNeg)) hy1.1 ?_
        refine lv_iload_n hx hb dX5_waved_36 rfl (lv_at hl 3 rfl) ?_
        refine xV (w2 := [(aM, .inr (5, [.ref aMp, .int (nI pl), .int (nI nl), .int mi, .int ofr, .ref aMr, .int (nI pe), .ref aMs, .ref aMl, .int bc, .int rd, .ref aMg, .ref aMb, .int (nI bk), .ref aMo, .int sd, .int ko, .int kpe, .int kmi, .int kbk, .ref aMkr, .ref aMks, .ref aMkb, .long ha])), (aMr, .inl (cI, 18, .inl ro)), (aMs, .inl (cI, 12, .inl ss)), (aMl, .inl (cI, 6, .inl (f_X5_wavedOf_Ml nl bk ro ss lt bo (many.toNatClampNeg) (person.toNatClampNeg)))), (aMo, .inl (cI, 24, .inl bo))]) ⟨hx, hb, hml, hown, hts⟩ (c_X5_wavedOf l D cI aM aMp aMr aMs aMl aMg aMb aMo aMkr aMks aMkb ofr rd pl nl mi pe kmi kpe bc bk sd ko kbk ha ro ss lt bo (many.toNatClampNeg) (person.toNatClampNeg) what hn hpe hbk hbo hm2 hy1.2.2) (cwV 3 hts gX5_waved_X5_wavedOf rfl rfl rfl hd_X5_wavedOf ⟨Nat.le_of_ble_eq_true rfl, Nat.le_of_ble_eq_true rfl⟩) hK hP hD hS hA [0, 1, 2, 3, 4] [] [0, 1, 2, 3, 4] rfl rfl rfl rfl rfl (by decide) rfl rfl rfl 0 rfl rfl rfl rfl hl.1 (rest := []) (st' := [.int (f_X5_wavedOf nl bk ro ss lt bo (many.toNatClampNeg) (person.toNatClampNeg) what)]) rfl rfl (Nat.le_of_ble_eq_true rfl) dX5_waved_37 ⟨Nat.zero_le _, Nat.zero_le _⟩ (fun H locs hP hD hS => ?_)
        refine lv_goto (tgt := 45) hx hb dX5_waved_40 (by decide) ?_
        have e_Ml : (f_X5_waved_Ml nl pe bk ro ss lt bo many person what) = (f_X5_wavedOf_Ml nl bk ro ss lt bo (many.toNatClampNeg) (person.toNatClampNeg)) := (by simp only [f_X5_waved_Ml, if_neg c1, if_neg c2, if_neg c3])
        exact eXi hx hb hr hlk hQ (by rw [e_Ml]; exact hP) (by rw [e_Ml]; exact hD) hS dX5_waved_45 (Eq.symm (by simp only [f_X5_waved, if_neg c1, if_neg c2, if_neg c3]))
  · refine lv_bipush (v := (-101)) hx hb dX5_waved_8 (by decide) ?_
    have e_Ml : (f_X5_waved_Ml nl pe bk ro ss lt bo many person what) = lt := (by simp only [f_X5_waved_Ml, if_pos c1])
    exact eXi hx hb hr hlk hQ (by rw [e_Ml]; exact hP) (by rw [e_Ml]; exact hD) hS dX5_waved_10 (Eq.symm (by simp only [f_X5_waved, if_pos c1]))

def rm_X5_lookOf : Room := { frames := 3, cells := 0, slots := 0, locals := 72 }
def f_X5_lookOf_26_Ml (nl : Nat) (ro : Nat → Int32) (ss : Nat → Int32) (mm : Nat) (o8_Ml : Nat → Int32) (pj : Nat) : Nat → (Nat → Int32)
  | 0 => o8_Ml
  | i2 + 1 => (f_X5_canWave_Ml nl ro ss ((f_X5_lookOf_26_Ml nl ro ss mm o8_Ml pj i2)) mm pj (nI i2))
def f_X5_lookOf_8_Ml (nl : Nat) (ro : Nat → Int32) (ss : Nat → Int32) (lt : Nat → Int32) (mm : Nat) (pj : Nat) : Nat → (Nat → Int32)
  | 0 => lt
  | i1 + 1 => (f_X5_lookOf_26_Ml nl ro ss mm (f_X5_lookOf_8_Ml nl ro ss lt mm pj i1) pj (2 ^ mm))
def f_X5_lookOf_Ml (nl : Nat) (ro : Nat → Int32) (ss : Nat → Int32) (lt : Nat → Int32) (mm : Nat) (pj : Nat) : Nat → Int32 := (f_X5_lookOf_8_Ml nl ro ss lt mm pj nl)
def f_X5_lookOf_26_v6 (nl : Nat) (bk : Nat) (ro : Nat → Int32) (ss : Nat → Int32) (bo : Nat → Int32) (i1 : Nat) (mm : Nat) (o8_Ml : Nat → Int32) (pj : Nat) : Nat → Int32
  | 0 => 0
  | i2 + 1 => (if (f_X5_canWave nl bk ro ss ((f_X5_lookOf_26_Ml nl ro ss mm o8_Ml pj i2)) bo mm pj (nI i2)) = 0 then ((f_X5_lookOf_26_v6 nl bk ro ss bo i1 mm o8_Ml pj i2) + 0) else (if ((f_X5_canWave_Ml nl ro ss ((f_X5_lookOf_26_Ml nl ro ss mm o8_Ml pj i2)) mm pj (nI i2)) i1) ≤ 0 then ((f_X5_lookOf_26_v6 nl bk ro ss bo i1 mm o8_Ml pj i2) + 0) else ((f_X5_lookOf_26_v6 nl bk ro ss bo i1 mm o8_Ml pj i2) + 1)))
def f_X5_lookOf_26_v7 (nl : Nat) (bk : Nat) (ro : Nat → Int32) (ss : Nat → Int32) (bo : Nat → Int32) (i1 : Nat) (mm : Nat) (o8_Ml : Nat → Int32) (pj : Nat) : Nat → Int32
  | 0 => 0
  | i2 + 1 => (if (f_X5_canWave nl bk ro ss ((f_X5_lookOf_26_Ml nl ro ss mm o8_Ml pj i2)) bo mm pj (nI i2)) = 0 then ((f_X5_lookOf_26_v7 nl bk ro ss bo i1 mm o8_Ml pj i2) + 0) else (if ((f_X5_canWave_Ml nl ro ss ((f_X5_lookOf_26_Ml nl ro ss mm o8_Ml pj i2)) mm pj (nI i2)) i1) = 0 then ((f_X5_lookOf_26_v7 nl bk ro ss bo i1 mm o8_Ml pj i2) + 1) else ((f_X5_lookOf_26_v7 nl bk ro ss bo i1 mm o8_Ml pj i2) + 0)))
def f_X5_lookOf_8_p (nl : Nat) (bk : Nat) (ro : Nat → Int32) (ss : Nat → Int32) (lt : Nat → Int32) (bo : Nat → Int32) (mm : Nat) (pj : Nat) : Nat → Int32 × Int32
  | 0 => ((-1), (-1))
  | i1 + 1 => ((if (f_X5_lookOf_26_v6 nl bk ro ss bo i1 mm (f_X5_lookOf_8_Ml nl ro ss lt mm pj i1) pj (2 ^ mm)) ≤ (f_X5_lookOf_26_v7 nl bk ro ss bo i1 mm (f_X5_lookOf_8_Ml nl ro ss lt mm pj i1) pj (2 ^ mm)) then (if (f_X5_lookOf_26_v7 nl bk ro ss bo i1 mm (f_X5_lookOf_8_Ml nl ro ss lt mm pj i1) pj (2 ^ mm)) ≤ 0 then (f_X5_lookOf_8_p nl bk ro ss lt bo mm pj i1).1 else (if (f_X5_lookOf_8_p nl bk ro ss lt bo mm pj i1).1 = (-1) then nI i1 else (if (f_X5_lookOf_8_p nl bk ro ss lt bo mm pj i1).2 ≤ (f_X5_lookOf_26_v7 nl bk ro ss bo i1 mm (f_X5_lookOf_8_Ml nl ro ss lt mm pj i1) pj (2 ^ mm)) then (f_X5_lookOf_8_p nl bk ro ss lt bo mm pj i1).1 else nI i1))) else (if (f_X5_lookOf_26_v6 nl bk ro ss bo i1 mm (f_X5_lookOf_8_Ml nl ro ss lt mm pj i1) pj (2 ^ mm)) ≤ 0 then (f_X5_lookOf_8_p nl bk ro ss lt bo mm pj i1).1 else (if (f_X5_lookOf_8_p nl bk ro ss lt bo mm pj i1).1 = (-1) then nI i1 else (if (f_X5_lookOf_8_p nl bk ro ss lt bo mm pj i1).2 ≤ (f_X5_lookOf_26_v6 nl bk ro ss bo i1 mm (f_X5_lookOf_8_Ml nl ro ss lt mm pj i1) pj (2 ^ mm)) then (f_X5_lookOf_8_p nl bk ro ss lt bo mm pj i1).1 else nI i1)))), (if (f_X5_lookOf_26_v6 nl bk ro ss bo i1 mm (f_X5_lookOf_8_Ml nl ro ss lt mm pj i1) pj (2 ^ mm)) ≤ (f_X5_lookOf_26_v7 nl bk ro ss bo i1 mm (f_X5_lookOf_8_Ml nl ro ss lt mm pj i1) pj (2 ^ mm)) then (if (f_X5_lookOf_26_v7 nl bk ro ss bo i1 mm (f_X5_lookOf_8_Ml nl ro ss lt mm pj i1) pj (2 ^ mm)) ≤ 0 then (f_X5_lookOf_8_p nl bk ro ss lt bo mm pj i1).2 else (if (f_X5_lookOf_8_p nl bk ro ss lt bo mm pj i1).1 = (-1) then (f_X5_lookOf_26_v7 nl bk ro ss bo i1 mm (f_X5_lookOf_8_Ml nl ro ss lt mm pj i1) pj (2 ^ mm)) else (if (f_X5_lookOf_8_p nl bk ro ss lt bo mm pj i1).2 ≤ (f_X5_lookOf_26_v7 nl bk ro ss bo i1 mm (f_X5_lookOf_8_Ml nl ro ss lt mm pj i1) pj (2 ^ mm)) then (f_X5_lookOf_8_p nl bk ro ss lt bo mm pj i1).2 else (f_X5_lookOf_26_v7 nl bk ro ss bo i1 mm (f_X5_lookOf_8_Ml nl ro ss lt mm pj i1) pj (2 ^ mm))))) else (if (f_X5_lookOf_26_v6 nl bk ro ss bo i1 mm (f_X5_lookOf_8_Ml nl ro ss lt mm pj i1) pj (2 ^ mm)) ≤ 0 then (f_X5_lookOf_8_p nl bk ro ss lt bo mm pj i1).2 else (if (f_X5_lookOf_8_p nl bk ro ss lt bo mm pj i1).1 = (-1) then (f_X5_lookOf_26_v6 nl bk ro ss bo i1 mm (f_X5_lookOf_8_Ml nl ro ss lt mm pj i1) pj (2 ^ mm)) else (if (f_X5_lookOf_8_p nl bk ro ss lt bo mm pj i1).2 ≤ (f_X5_lookOf_26_v6 nl bk ro ss bo i1 mm (f_X5_lookOf_8_Ml nl ro ss lt mm pj i1) pj (2 ^ mm)) then (f_X5_lookOf_8_p nl bk ro ss lt bo mm pj i1).2 else (f_X5_lookOf_26_v6 nl bk ro ss bo i1 mm (f_X5_lookOf_8_Ml nl ro ss lt mm pj i1) pj (2 ^ mm)))))))
def f_X5_lookOf (nl : Nat) (bk : Nat) (ro : Nat → Int32) (ss : Nat → Int32) (lt : Nat → Int32) (bo : Nat → Int32) (mm : Nat) (pj : Nat) : Int32 := (f_X5_lookOf_8_p nl bk ro ss lt bo mm pj nl).1
theorem hd_X5_lookOf : yX5_lookOf.cls = RX5 ∧ yX5_lookOf.cls ≠ "java/lang/invoke/MethodHandle" ∧ yX5_lookOf.cls ≠ "java/lang/invoke/VarHandle" ∧ (parseMethodDescriptor yX5_lookOf.desc).map (fun d => d.parameters.length) = some 2 := by decide +kernel
set_option maxHeartbeats 4000000 in
set_option maxRecDepth 100000 in
theorem c_X5_lookOf (l : Launch) (D : va_G) (cI : ClassId) (aM aMp aMr aMs aMl aMg aMb aMo aMkr aMks aMkb : Nat) (ofr : Int32) (rd : Int32) (pl : Nat) (nl : Nat) (mi : Int32) (pe : Nat) (kmi : Int32) (kpe : Int32) (bc : Int32) (bk : Nat) (sd : Int32) (ko : Int32) (kbk : Int32) (ha : Int64) (ro : Nat → Int32) (ss : Nat → Int32) (lt : Nat → Int32) (bo : Nat → Int32) (mm : Nat) (pj : Nat) (hn : nl ≤ 6) (hpe : pe ≤ 4) (hbk : bk ≤ 8) (hbo : ∀ j, j < bk → vp_in (bo (3 * j + 1)) 6) (hpj : pj < pe) (hmm : mm ≤ 6) : MetX l yX5_lookOf wsX5_lookOf rm_X5_lookOf D cI [.ref aM, .int (nI pj), .int (nI mm)] [(aM, .inr (5, [.ref aMp, .int (nI pl), .int (nI nl), .int mi, .int ofr, .ref aMr, .int (nI pe), .ref aMs, .ref aMl, .int bc, .int rd, .ref aMg, .ref aMb, .int (nI bk), .ref aMo, .int sd, .int ko, .int kpe, .int kmi, .int kbk, .ref aMkr, .ref aMks, .ref aMkb, .long ha])), (aMr, .inl (cI, 18, .inl ro)), (aMs, .inl (cI, 12, .inl ss)), (aMl, .inl (cI, 6, .inl lt)), (aMo, .inl (cI, 24, .inl bo))] (some (.int (f_X5_lookOf nl bk ro ss lt bo mm pj))) [(aM, .inr (5, [.ref aMp, .int (nI pl), .int (nI nl), .int mi, .int ofr, .ref aMr, .int (nI pe), .ref aMs, .ref aMl, .int bc, .int rd, .ref aMg, .ref aMb, .int (nI bk), .ref aMo, .int sd, .int ko, .int kpe, .int kmi, .int kbk, .ref aMkr, .ref aMks, .ref aMkb, .long ha])), (aMr, .inl (cI, 18, .inl ro)), (aMs, .inl (cI, 12, .inl ss)), (aMl, .inl (cI, 6, .inl (f_X5_lookOf_Ml nl ro ss lt mm pj))), (aMo, .inl (cI, 24, .inl bo))] := by
  refine mX (cc := cX5_lookOf) (maxL := 10) (ret := (some .int)) (by decide) rfl (Nat.le_of_ble_eq_true rfl) ?_
  intro p e s m args below meth c Q A hx hb hr hml hown hts hlk hP hK hD hA hS hQ ls hl
  have hown : s.vm.findClass RX5 = some m.cls := hown
  have hl : lv_has ls 10 [(0, .ref aM), (1, .int (nI pj)), (2, .int (nI mm))] := hl
  have w1 := hts (.fieldLink RX5 67 "DarkOfficeModel" "lamps" "I") (List.mem_of_getElem? (i := 1) rfl)
  have uX5 : ∀ w ∈ wsX50, w ∈ wsX5_lookOf := fun _ h => List.mem_cons_of_mem _ (List.mem_append_right _ h)
  have w2 := hts (.fieldLink RX5 19 "DarkOfficeModel" "lit" "[I") (List.mem_of_getElem? (i := 2) rfl)
  have h2m : 2 ^ mm ≤ 64 := Nat.le_trans (Nat.pow_le_pow_right (by decide) hmm) (by decide)
  refine lv_iconst (v := (-1)) hx hb dX5_lookOf_0 (by decide) ?_
  refine lv_istore_n (lv' := [(3, .int (-1)), (0, .ref aM), (1, .int (nI pj)), (2, .int (nI mm))]) hx hb dX5_lookOf_1 rfl hl (by decide) rfl (fun ls hl => ?_)
  refine lv_iconst (v := (-1)) hx hb dX5_lookOf_2 (by decide) ?_
  refine lv_istore (lv' := [(4, .int (-1)), (3, .int (-1)), (0, .ref aM), (1, .int (nI pj)), (2, .int (nI mm))]) hx hb dX5_lookOf_3 hl (by decide) rfl (fun ls hl => ?_)
  refine lv_iconst (v := 0) hx hb dX5_lookOf_5 (by decide) ?_
  refine lv_istore (lv' := [(5, .int 0), (4, .int (-1)), (3, .int (-1)), (0, .ref aM), (1, .int (nI pj)), (2, .int (nI mm))]) hx hb dX5_lookOf_6 hl (by decide) rfl (fun ls hl => ?_)
  have lp8 : ∀ (k8 i1 : Nat), i1 + k8 = nl → ∀ (H : Heap) (locs : List Loc), va_P D vwCl [(aM, .inr (5, [.ref aMp, .int (nI pl), .int (nI nl), .int mi, .int ofr, .ref aMr, .int (nI pe), .ref aMs, .ref aMl, .int bc, .int rd, .ref aMg, .ref aMb, .int (nI bk), .ref aMo, .int sd, .int ko, .int kpe, .int kmi, .int kbk, .ref aMkr, .ref aMks, .ref aMkb, .long ha])), (aMr, .inl (cI, 18, .inl ro)), (aMs, .inl (cI, 12, .inl ss)), (aMl, .inl (cI, 6, .inl ((f_X5_lookOf_8_Ml nl ro ss lt mm pj i1)))), (aMo, .inl (cI, 24, .inl bo))] H → va_D A [(aM, .inr (5, [.ref aMp, .int (nI pl), .int (nI nl), .int mi, .int ofr, .ref aMr, .int (nI pe), .ref aMs, .ref aMl, .int bc, .int rd, .ref aMg, .ref aMb, .int (nI bk), .ref aMo, .int sd, .int ko, .int kpe, .int kmi, .int kbk, .ref aMkr, .ref aMks, .ref aMkb, .long ha])), (aMr, .inl (cI, 18, .inl ro)), (aMs, .inl (cI, 12, .inl ss)), (aMl, .inl (cI, 6, .inl ((f_X5_lookOf_8_Ml nl ro ss lt mm pj i1)))), (aMo, .inl (cI, 24, .inl bo))] → va_S A s.heap H locs → ∀ ls : Array Slot, lv_has ls 10 [(0, .ref aM), (1, .int (nI pj)), (2, .int (nI mm)), (3, .int ((f_X5_lookOf_8_p nl bk ro ss lt bo mm pj i1).1)), (4, .int ((f_X5_lookOf_8_p nl bk ro ss lt bo mm pj i1).2)), (5, .int (nI i1))] → W p l e rm_X5_lookOf s m args below meth c H locs 0 0 Q (F0 m 8 ls []) := by
    intro k8
    induction k8 with
    | zero =>
      intro i1 hk8 H locs hP hD hS ls hl
      have hN8 : nl = i1 := by omega
      subst hN8
      refine lv_iload hx hb dX5_lookOf_8 (lv_at hl 5 rfl) ?_
      refine lv_aload_n hx hb dX5_lookOf_10 rfl (lv_at hl 0 rfl) ?_
      refine va_get (D := D) (ci := 5) (v := .int (nI nl)) (C := RX5) (T := TX5) (N := 24) hx hb hts uX5 hown hK hP 0 rfl rfl 2 (by decide) w1 (fun _ h9 => h9) rfl dX5_lookOf_11 ?_
      refine lv_icmp_ge (tgt := 172) hx hb dX5_lookOf_14 (by decide) (fun _ => ?_) (fun c => absurd (nle_t (a := nl) (b := nl) rfl rfl (by omega) (by omega) (by omega)) c)
      refine lv_iload_n hx hb dX5_lookOf_172 rfl (lv_at hl 3 rfl) ?_
      have e_Ml : (f_X5_lookOf_Ml nl ro ss lt mm pj) = (f_X5_lookOf_8_Ml nl ro ss lt mm pj nl) := (by simp only [f_X5_lookOf_Ml])
      exact eXi hx hb hr hlk hQ (by rw [e_Ml]; exact hP) (by rw [e_Ml]; exact hD) hS dX5_lookOf_173 (Eq.symm (by simp only [f_X5_lookOf]))
    | succ k8 ih8 =>
      intro i1 hk8 H locs hP hD hS ls hl
      refine lv_iload hx hb dX5_lookOf_8 (lv_at hl 5 rfl) ?_
      refine lv_aload_n hx hb dX5_lookOf_10 rfl (lv_at hl 0 rfl) ?_
      refine va_get (D := D) (ci := 5) (v := .int (nI nl)) (C := RX5) (T := TX5) (N := 24) hx hb hts uX5 hown hK hP 0 rfl rfl 2 (by decide) w1 (fun _ h9 => h9) rfl dX5_lookOf_11 ?_
      refine lv_icmp_ge (tgt := 172) hx hb dX5_lookOf_14 (by decide) (fun c => absurd c (nle_f (a := nl) (b := i1) rfl rfl (by omega) (by omega) (by omega))) (fun _ => ?_)
      refine lv_iconst (v := 0) hx hb dX5_lookOf_17 (by decide) ?_
      refine lv_istore (lv' := [(6, .int 0), (0, .ref aM), (1, .int (nI pj)), (2, .int (nI mm)), (3, .int ((f_X5_lookOf_8_p nl bk ro ss lt bo mm pj i1).1)), (4, .int ((f_X5_lookOf_8_p nl bk ro ss lt bo mm pj i1).2)), (5, .int (nI i1))]) hx hb dX5_lookOf_18 hl (by decide) rfl (fun ls hl => ?_)
      refine lv_iconst (v := 0) hx hb dX5_lookOf_20 (by decide) ?_
      refine lv_istore (lv' := [(7, .int 0), (6, .int 0), (0, .ref aM), (1, .int (nI pj)), (2, .int (nI mm)), (3, .int ((f_X5_lookOf_8_p nl bk ro ss lt bo mm pj i1).1)), (4, .int ((f_X5_lookOf_8_p nl bk ro ss lt bo mm pj i1).2)), (5, .int (nI i1))]) hx hb dX5_lookOf_21 hl (by decide) rfl (fun ls hl => ?_)
      refine lv_iconst (v := 0) hx hb dX5_lookOf_23 (by decide) ?_
      refine lv_istore (lv' := [(8, .int 0), (7, .int 0), (6, .int 0), (0, .ref aM), (1, .int (nI pj)), (2, .int (nI mm)), (3, .int ((f_X5_lookOf_8_p nl bk ro ss lt bo mm pj i1).1)), (4, .int ((f_X5_lookOf_8_p nl bk ro ss lt bo mm pj i1).2)), (5, .int (nI i1))]) hx hb dX5_lookOf_24 hl (by decide) rfl (fun ls hl => ?_)
      have lp26 : ∀ (k26 i2 : Nat), i2 + k26 = 2 ^ mm → ∀ (H : Heap) (locs : List Loc), va_P D vwCl [(aM, .inr (5, [.ref aMp, .int (nI pl), .int (nI nl), .int mi, .int ofr, .ref aMr, .int (nI pe), .ref aMs, .ref aMl, .int bc, .int rd, .ref aMg, .ref aMb, .int (nI bk), .ref aMo, .int sd, .int ko, .int kpe, .int kmi, .int kbk, .ref aMkr, .ref aMks, .ref aMkb, .long ha])), (aMr, .inl (cI, 18, .inl ro)), (aMs, .inl (cI, 12, .inl ss)), (aMl, .inl (cI, 6, .inl ((f_X5_lookOf_26_Ml nl ro ss mm (f_X5_lookOf_8_Ml nl ro ss lt mm pj i1) pj i2)))), (aMo, .inl (cI, 24, .inl bo))] H → va_D A [(aM, .inr (5, [.ref aMp, .int (nI pl), .int (nI nl), .int mi, .int ofr, .ref aMr, .int (nI pe), .ref aMs, .ref aMl, .int bc, .int rd, .ref aMg, .ref aMb, .int (nI bk), .ref aMo, .int sd, .int ko, .int kpe, .int kmi, .int kbk, .ref aMkr, .ref aMks, .ref aMkb, .long ha])), (aMr, .inl (cI, 18, .inl ro)), (aMs, .inl (cI, 12, .inl ss)), (aMl, .inl (cI, 6, .inl ((f_X5_lookOf_26_Ml nl ro ss mm (f_X5_lookOf_8_Ml nl ro ss lt mm pj i1) pj i2)))), (aMo, .inl (cI, 24, .inl bo))] → va_S A s.heap H locs → ∀ ls : Array Slot, lv_has ls 10 [(0, .ref aM), (1, .int (nI pj)), (2, .int (nI mm)), (3, .int ((f_X5_lookOf_8_p nl bk ro ss lt bo mm pj i1).1)), (4, .int ((f_X5_lookOf_8_p nl bk ro ss lt bo mm pj i1).2)), (5, .int (nI i1)), (6, .int ((f_X5_lookOf_26_v6 nl bk ro ss bo i1 mm (f_X5_lookOf_8_Ml nl ro ss lt mm pj i1) pj i2))), (7, .int ((f_X5_lookOf_26_v7 nl bk ro ss bo i1 mm (f_X5_lookOf_8_Ml nl ro ss lt mm pj i1) pj i2))), (8, .int (nI i2))] → W p l e rm_X5_lookOf s m args below meth c H locs 0 0 Q (F0 m 26 ls []) := by
        intro k26
        induction k26 with
        | zero =>
          intro i2 hk26 H locs hP hD hS ls hl
          have hN26 : 2 ^ mm = i2 := by omega
          subst hN26
          refine lv_iload hx hb dX5_lookOf_26 (lv_at hl 8 rfl) ?_
          refine lv_iconst (v := 1) hx hb dX5_lookOf_28 (by decide) ?_
          refine lv_iload_n hx hb dX5_lookOf_29 rfl (lv_at hl 2 rfl) ?_
          refine lv_ishl hx hb dX5_lookOf_30 ?_
          refine tpi (y := nI (2 ^ mm)) (one_shl mm (by omega)) ?_
          refine lv_icmp_ge (tgt := 100) hx hb dX5_lookOf_31 (by decide) (fun _ => ?_) (fun c => absurd (nle_t (a := 2 ^ mm) (b := (2 ^ mm)) rfl rfl (by omega) (by omega) (by omega)) c)
          refine lv_iload hx hb dX5_lookOf_100 (lv_at hl 6 rfl) ?_
          refine lv_iload hx hb dX5_lookOf_102 (lv_at hl 7 rfl) ?_
          refine lv_icmp_le (tgt := 112) hx hb dX5_lookOf_104 (by decide) (fun c1 => ?_) (fun c1 => ?_)
          · refine lv_iload hx hb dX5_lookOf_112 (lv_at hl 7 rfl) ?_
            refine lv_istore (lv' := [(8, .int ((f_X5_lookOf_26_v7 nl bk ro ss bo i1 mm (f_X5_lookOf_8_Ml nl ro ss lt mm pj i1) pj (2 ^ mm)))), (0, .ref aM), (1, .int (nI pj)), (2, .int (nI mm)), (3, .int ((f_X5_lookOf_8_p nl bk ro ss lt bo mm pj i1).1)), (4, .int ((f_X5_lookOf_8_p nl bk ro ss lt bo mm pj i1).2)), (5, .int (nI i1)), (6, .int ((f_X5_lookOf_26_v6 nl bk ro ss bo i1 mm (f_X5_lookOf_8_Ml nl ro ss lt mm pj i1) pj (2 ^ mm)))), (7, .int ((f_X5_lookOf_26_v7 nl bk ro ss bo i1 mm (f_X5_lookOf_8_Ml nl ro ss lt mm pj i1) pj (2 ^ mm))))]) hx hb dX5_lookOf_114 hl (by decide) rfl (fun ls hl => ?_)
            refine lv_iload hx hb dX5_lookOf_116 (lv_at hl 0 rfl) ?_
            refine lv_if_le (tgt := 137) hx hb dX5_lookOf_118 (by decide) (fun c2 => ?_) (fun c2 => ?_)
            · refine lv_iconst (v := 0) hx hb dX5_lookOf_137 (by decide) ?_
              refine lv_istore (lv' := [(9, .int 0), (8, .int ((f_X5_lookOf_26_v7 nl bk ro ss bo i1 mm (f_X5_lookOf_8_Ml nl ro ss lt mm pj i1) pj (2 ^ mm)))), (0, .ref aM), (1, .int (nI pj)), (2, .int (nI mm)), (3, .int ((f_X5_lookOf_8_p nl bk ro ss lt bo mm pj i1).1)), (4, .int ((f_X5_lookOf_8_p nl bk ro ss lt bo mm pj i1).2)), (5, .int (nI i1)), (6, .int ((f_X5_lookOf_26_v6 nl bk ro ss bo i1 mm (f_X5_lookOf_8_Ml nl ro ss lt mm pj i1) pj (2 ^ mm)))), (7, .int ((f_X5_lookOf_26_v7 nl bk ro ss bo i1 mm (f_X5_lookOf_8_Ml nl ro ss lt mm pj i1) pj (2 ^ mm))))]) hx hb dX5_lookOf_138 hl (by decide) rfl (fun ls hl => ?_)
              refine lv_iload hx hb dX5_lookOf_140 (lv_at hl 0 rfl) ?_
              refine lv_if_eq (tgt := 150) hx hb dX5_lookOf_142 (by decide) (fun _ => ?_) (fun c => absurd (by decide) c)
              refine lv_iload_n hx hb dX5_lookOf_150 rfl (lv_at hl 5 rfl) ?_
              refine lv_istore_n (lv' := [(3, .int ((f_X5_lookOf_8_p nl bk ro ss lt bo mm pj i1).1)), (9, .int 0), (8, .int ((f_X5_lookOf_26_v7 nl bk ro ss bo i1 mm (f_X5_lookOf_8_Ml nl ro ss lt mm pj i1) pj (2 ^ mm)))), (0, .ref aM), (1, .int (nI pj)), (2, .int (nI mm)), (4, .int ((f_X5_lookOf_8_p nl bk ro ss lt bo mm pj i1).2)), (5, .int (nI i1)), (6, .int ((f_X5_lookOf_26_v6 nl bk ro ss bo i1 mm (f_X5_lookOf_8_Ml nl ro ss lt mm pj i1) pj (2 ^ mm)))), (7, .int ((f_X5_lookOf_26_v7 nl bk ro ss bo i1 mm (f_X5_lookOf_8_Ml nl ro ss lt mm pj i1) pj (2 ^ mm))))]) hx hb dX5_lookOf_151 rfl hl (by decide) rfl (fun ls hl => ?_)
              refine lv_iload hx hb dX5_lookOf_152 (lv_at hl 1 rfl) ?_
              refine lv_if_eq (tgt := 162) hx hb dX5_lookOf_154 (by decide) (fun _ => ?_) (fun c => absurd (by decide) c)
              refine lv_iload hx hb dX5_lookOf_162 (lv_at hl 6 rfl) ?_
              refine lv_istore (lv' := [(4, .int ((f_X5_lookOf_8_p nl bk ro ss lt bo mm pj i1).2)), (3, .int ((f_X5_lookOf_8_p nl bk ro ss lt bo mm pj i1).1)), (9, .int 0), (8, .int ((f_X5_lookOf_26_v7 nl bk ro ss bo i1 mm (f_X5_lookOf_8_Ml nl ro ss lt mm pj i1) pj (2 ^ mm)))), (0, .ref aM), (1, .int (nI pj)), (2, .int (nI mm)), (5, .int (nI i1)), (6, .int ((f_X5_lookOf_26_v6 nl bk ro ss bo i1 mm (f_X5_lookOf_8_Ml nl ro ss lt mm pj i1) pj (2 ^ mm)))), (7, .int ((f_X5_lookOf_26_v7 nl bk ro ss bo i1 mm (f_X5_lookOf_8_Ml nl ro ss lt mm pj i1) pj (2 ^ mm))))]) hx hb dX5_lookOf_164 hl (by decide) rfl (fun ls hl => ?_)
              refine lv_iinc (v := nI (i1 + 1)) (lv' := [(5, .int (nI (i1 + 1))), (4, .int ((f_X5_lookOf_8_p nl bk ro ss lt bo mm pj i1).2)), (3, .int ((f_X5_lookOf_8_p nl bk ro ss lt bo mm pj i1).1)), (9, .int 0), (8, .int ((f_X5_lookOf_26_v7 nl bk ro ss bo i1 mm (f_X5_lookOf_8_Ml nl ro ss lt mm pj i1) pj (2 ^ mm)))), (0, .ref aM), (1, .int (nI pj)), (2, .int (nI mm)), (6, .int ((f_X5_lookOf_26_v6 nl bk ro ss bo i1 mm (f_X5_lookOf_8_Ml nl ro ss lt mm pj i1) pj (2 ^ mm)))), (7, .int ((f_X5_lookOf_26_v7 nl bk ro ss bo i1 mm (f_X5_lookOf_8_Ml nl ro ss lt mm pj i1) pj (2 ^ mm))))]) hx hb dX5_lookOf_166 hl (k := 7) rfl (nI_add i1 1) (by decide) rfl (fun ls hl => ?_)
              refine lv_goto (tgt := 8) hx hb dX5_lookOf_169 (by decide) ?_
              have e_v3 : (f_X5_lookOf_8_p nl bk ro ss lt bo mm pj (i1 + 1)).1 = (f_X5_lookOf_8_p nl bk ro ss lt bo mm pj i1).1 := (by simp only [f_X5_lookOf_8_p, if_pos c1, if_pos c2])
              have e_v4 : (f_X5_lookOf_8_p nl bk ro ss lt bo mm pj (i1 + 1)).2 = (f_X5_lookOf_8_p nl bk ro ss lt bo mm pj i1).2 := (by simp only [f_X5_lookOf_8_p, if_pos c1, if_pos c2])
              have e_Ml : (f_X5_lookOf_8_Ml nl ro ss lt mm pj (i1 + 1)) = (f_X5_lookOf_26_Ml nl ro ss mm (f_X5_lookOf_8_Ml nl ro ss lt mm pj i1) pj (2 ^ mm)) := (by simp only [f_X5_lookOf_8_Ml, if_pos c1, if_pos c2])
              exact ih8 (i1 + 1) (by omega) _ _ (by rw [e_Ml]; exact hP) (by rw [e_Ml]; exact hD) hS ls (by rw [e_v3, e_v4]; exact lv_sub hl [5, 6, 7, 2, 1, 0] rfl)
            · refine lv_iload_n hx hb dX5_lookOf_121 rfl (lv_at hl 4 rfl) ?_
              refine lv_iconst (v := (-1)) hx hb dX5_lookOf_122 (by decide) ?_
              refine lv_icmp_eq (tgt := 133) hx hb dX5_lookOf_123 (by decide) (fun c3 => ?_) (fun c3 => ?_)
              · refine lv_iconst (v := 1) hx hb dX5_lookOf_133 (by decide) ?_
                refine lv_goto (tgt := 138) hx hb dX5_lookOf_134 (by decide) ?_
                refine lv_istore (lv' := [(9, .int 1), (8, .int ((f_X5_lookOf_26_v7 nl bk ro ss bo i1 mm (f_X5_lookOf_8_Ml nl ro ss lt mm pj i1) pj (2 ^ mm)))), (0, .ref aM), (1, .int (nI pj)), (2, .int (nI mm)), (3, .int ((f_X5_lookOf_8_p nl bk ro ss lt bo mm pj i1).1)), (4, .int ((f_X5_lookOf_8_p nl bk ro ss lt bo mm pj i1).2)), (5, .int (nI i1)), (6, .int ((f_X5_lookOf_26_v6 nl bk ro ss bo i1 mm (f_X5_lookOf_8_Ml nl ro ss lt mm pj i1) pj (2 ^ mm)))), (7, .int ((f_X5_lookOf_26_v7 nl bk ro ss bo i1 mm (f_X5_lookOf_8_Ml nl ro ss lt mm pj i1) pj (2 ^ mm))))]) hx hb dX5_lookOf_138 hl (by decide) rfl (fun ls hl => ?_)
                refine lv_iload hx hb dX5_lookOf_140 (lv_at hl 0 rfl) ?_
                refine lv_if_eq (tgt := 150) hx hb dX5_lookOf_142 (by decide) (fun c => absurd c (by decide)) (fun _ => ?_)
                refine lv_iload hx hb dX5_lookOf_145 (lv_at hl 7 rfl) ?_
                refine lv_goto (tgt := 151) hx hb dX5_lookOf_147 (by decide) ?_
                refine lv_istore_n (lv' := [(3, .int (nI i1)), (9, .int 1), (8, .int ((f_X5_lookOf_26_v7 nl bk ro ss bo i1 mm (f_X5_lookOf_8_Ml nl ro ss lt mm pj i1) pj (2 ^ mm)))), (0, .ref aM), (1, .int (nI pj)), (2, .int (nI mm)), (4, .int ((f_X5_lookOf_8_p nl bk ro ss lt bo mm pj i1).2)), (5, .int (nI i1)), (6, .int ((f_X5_lookOf_26_v6 nl bk ro ss bo i1 mm (f_X5_lookOf_8_Ml nl ro ss lt mm pj i1) pj (2 ^ mm)))), (7, .int ((f_X5_lookOf_26_v7 nl bk ro ss bo i1 mm (f_X5_lookOf_8_Ml nl ro ss lt mm pj i1) pj (2 ^ mm))))]) hx hb dX5_lookOf_151 rfl hl (by decide) rfl (fun ls hl => ?_)
                refine lv_iload hx hb dX5_lookOf_152 (lv_at hl 1 rfl) ?_
                refine lv_if_eq (tgt := 162) hx hb dX5_lookOf_154 (by decide) (fun c => absurd c (by decide)) (fun _ => ?_)
                refine lv_iload hx hb dX5_lookOf_157 (lv_at hl 2 rfl) ?_
                refine lv_goto (tgt := 164) hx hb dX5_lookOf_159 (by decide) ?_
                refine lv_istore (lv' := [(4, .int ((f_X5_lookOf_26_v7 nl bk ro ss bo i1 mm (f_X5_lookOf_8_Ml nl ro ss lt mm pj i1) pj (2 ^ mm)))), (3, .int (nI i1)), (9, .int 1), (8, .int ((f_X5_lookOf_26_v7 nl bk ro ss bo i1 mm (f_X5_lookOf_8_Ml nl ro ss lt mm pj i1) pj (2 ^ mm)))), (0, .ref aM), (1, .int (nI pj)), (2, .int (nI mm)), (5, .int (nI i1)), (6, .int ((f_X5_lookOf_26_v6 nl bk ro ss bo i1 mm (f_X5_lookOf_8_Ml nl ro ss lt mm pj i1) pj (2 ^ mm)))), (7, .int ((f_X5_lookOf_26_v7 nl bk ro ss bo i1 mm (f_X5_lookOf_8_Ml nl ro ss lt mm pj i1) pj (2 ^ mm))))]) hx hb dX5_lookOf_164 hl (by decide) rfl (fun ls hl => ?_)
                refine lv_iinc (v := nI (i1 + 1)) (lv' := [(5, .int (nI (i1 + 1))), (4, .int ((f_X5_lookOf_26_v7 nl bk ro ss bo i1 mm (f_X5_lookOf_8_Ml nl ro ss lt mm pj i1) pj (2 ^ mm)))), (3, .int (nI i1)), (9, .int 1), (8, .int ((f_X5_lookOf_26_v7 nl bk ro ss bo i1 mm (f_X5_lookOf_8_Ml nl ro ss lt mm pj i1) pj (2 ^ mm)))), (0, .ref aM), (1, .int (nI pj)), (2, .int (nI mm)), (6, .int ((f_X5_lookOf_26_v6 nl bk ro ss bo i1 mm (f_X5_lookOf_8_Ml nl ro ss lt mm pj i1) pj (2 ^ mm)))), (7, .int ((f_X5_lookOf_26_v7 nl bk ro ss bo i1 mm (f_X5_lookOf_8_Ml nl ro ss lt mm pj i1) pj (2 ^ mm))))]) hx hb dX5_lookOf_166 hl (k := 7) rfl (nI_add i1 1) (by decide) rfl (fun ls hl => ?_)
                refine lv_goto (tgt := 8) hx hb dX5_lookOf_169 (by decide) ?_
                have e_v3 : (f_X5_lookOf_8_p nl bk ro ss lt bo mm pj (i1 + 1)).1 = nI i1 := (by simp only [f_X5_lookOf_8_p, if_pos c1, if_neg c2, if_pos c3])
                have e_v4 : (f_X5_lookOf_8_p nl bk ro ss lt bo mm pj (i1 + 1)).2 = (f_X5_lookOf_26_v7 nl bk ro ss bo i1 mm (f_X5_lookOf_8_Ml nl ro ss lt mm pj i1) pj (2 ^ mm)) := (by simp only [f_X5_lookOf_8_p, if_pos c1, if_neg c2, if_pos c3])
                have e_Ml : (f_X5_lookOf_8_Ml nl ro ss lt mm pj (i1 + 1)) = (f_X5_lookOf_26_Ml nl ro ss mm (f_X5_lookOf_8_Ml nl ro ss lt mm pj i1) pj (2 ^ mm)) := (by simp only [f_X5_lookOf_8_Ml, if_pos c1, if_neg c2, if_pos c3])
                exact ih8 (i1 + 1) (by omega) _ _ (by rw [e_Ml]; exact hP) (by rw [e_Ml]; exact hD) hS ls (by rw [e_v3, e_v4]; exact lv_sub hl [5, 6, 7, 2, 1, 0] rfl)
              · refine lv_iload hx hb dX5_lookOf_126 (lv_at hl 0 rfl) ?_
                refine lv_iload hx hb dX5_lookOf_128 (lv_at hl 5 rfl) ?_
                refine lv_icmp_ge (tgt := 137) hx hb dX5_lookOf_130 (by decide) (fun c4 => ?_) (fun c4 => ?_)
                · refine lv_iconst (v := 0) hx hb dX5_lookOf_137 (by decide) ?_
                  refine lv_istore (lv' := [(9, .int 0), (8, .int ((f_X5_lookOf_26_v7 nl bk ro ss bo i1 mm (f_X5_lookOf_8_Ml nl ro ss lt mm pj i1) pj (2 ^ mm)))), (0, .ref aM), (1, .int (nI pj)), (2, .int (nI mm)), (3, .int ((f_X5_lookOf_8_p nl bk ro ss lt bo mm pj i1).1)), (4, .int ((f_X5_lookOf_8_p nl bk ro ss lt bo mm pj i1).2)), (5, .int (nI i1)), (6, .int ((f_X5_lookOf_26_v6 nl bk ro ss bo i1 mm (f_X5_lookOf_8_Ml nl ro ss lt mm pj i1) pj (2 ^ mm)))), (7, .int ((f_X5_lookOf_26_v7 nl bk ro ss bo i1 mm (f_X5_lookOf_8_Ml nl ro ss lt mm pj i1) pj (2 ^ mm))))]) hx hb dX5_lookOf_138 hl (by decide) rfl (fun ls hl => ?_)
                  refine lv_iload hx hb dX5_lookOf_140 (lv_at hl 0 rfl) ?_
                  refine lv_if_eq (tgt := 150) hx hb dX5_lookOf_142 (by decide) (fun _ => ?_) (fun c => absurd (by decide) c)
                  refine lv_iload_n hx hb dX5_lookOf_150 rfl (lv_at hl 5 rfl) ?_
                  refine lv_istore_n (lv' := [(3, .int ((f_X5_lookOf_8_p nl bk ro ss lt bo mm pj i1).1)), (9, .int 0), (8, .int ((f_X5_lookOf_26_v7 nl bk ro ss bo i1 mm (f_X5_lookOf_8_Ml nl ro ss lt mm pj i1) pj (2 ^ mm)))), (0, .ref aM), (1, .int (nI pj)), (2, .int (nI mm)), (4, .int ((f_X5_lookOf_8_p nl bk ro ss lt bo mm pj i1).2)), (5, .int (nI i1)), (6, .int ((f_X5_lookOf_26_v6 nl bk ro ss bo i1 mm (f_X5_lookOf_8_Ml nl ro ss lt mm pj i1) pj (2 ^ mm)))), (7, .int ((f_X5_lookOf_26_v7 nl bk ro ss bo i1 mm (f_X5_lookOf_8_Ml nl ro ss lt mm pj i1) pj (2 ^ mm))))]) hx hb dX5_lookOf_151 rfl hl (by decide) rfl (fun ls hl => ?_)
                  refine lv_iload hx hb dX5_lookOf_152 (lv_at hl 1 rfl) ?_
                  refine lv_if_eq (tgt := 162) hx hb dX5_lookOf_154 (by decide) (fun _ => ?_) (fun c => absurd (by decide) c)
                  refine lv_iload hx hb dX5_lookOf_162 (lv_at hl 6 rfl) ?_
                  refine lv_istore (lv' := [(4, .int ((f_X5_lookOf_8_p nl bk ro ss lt bo mm pj i1).2)), (3, .int ((f_X5_lookOf_8_p nl bk ro ss lt bo mm pj i1).1)), (9, .int 0), (8, .int ((f_X5_lookOf_26_v7 nl bk ro ss bo i1 mm (f_X5_lookOf_8_Ml nl ro ss lt mm pj i1) pj (2 ^ mm)))), (0, .ref aM), (1, .int (nI pj)), (2, .int (nI mm)), (5, .int (nI i1)), (6, .int ((f_X5_lookOf_26_v6 nl bk ro ss bo i1 mm (f_X5_lookOf_8_Ml nl ro ss lt mm pj i1) pj (2 ^ mm)))), (7, .int ((f_X5_lookOf_26_v7 nl bk ro ss bo i1 mm (f_X5_lookOf_8_Ml nl ro ss lt mm pj i1) pj (2 ^ mm))))]) hx hb dX5_lookOf_164 hl (by decide) rfl (fun ls hl => ?_)
                  refine lv_iinc (v := nI (i1 + 1)) (lv' := [(5, .int (nI (i1 + 1))), (4, .int ((f_X5_lookOf_8_p nl bk ro ss lt bo mm pj i1).2)), (3, .int ((f_X5_lookOf_8_p nl bk ro ss lt bo mm pj i1).1)), (9, .int 0), (8, .int ((f_X5_lookOf_26_v7 nl bk ro ss bo i1 mm (f_X5_lookOf_8_Ml nl ro ss lt mm pj i1) pj (2 ^ mm)))), (0, .ref aM), (1, .int (nI pj)), (2, .int (nI mm)), (6, .int ((f_X5_lookOf_26_v6 nl bk ro ss bo i1 mm (f_X5_lookOf_8_Ml nl ro ss lt mm pj i1) pj (2 ^ mm)))), (7, .int ((f_X5_lookOf_26_v7 nl bk ro ss bo i1 mm (f_X5_lookOf_8_Ml nl ro ss lt mm pj i1) pj (2 ^ mm))))]) hx hb dX5_lookOf_166 hl (k := 7) rfl (nI_add i1 1) (by decide) rfl (fun ls hl => ?_)
                  refine lv_goto (tgt := 8) hx hb dX5_lookOf_169 (by decide) ?_
                  have e_v3 : (f_X5_lookOf_8_p nl bk ro ss lt bo mm pj (i1 + 1)).1 = (f_X5_lookOf_8_p nl bk ro ss lt bo mm pj i1).1 := (by simp only [f_X5_lookOf_8_p, if_pos c1, if_neg c2, if_neg c3, if_pos c4])
                  have e_v4 : (f_X5_lookOf_8_p nl bk ro ss lt bo mm pj (i1 + 1)).2 = (f_X5_lookOf_8_p nl bk ro ss lt bo mm pj i1).2 := (by simp only [f_X5_lookOf_8_p, if_pos c1, if_neg c2, if_neg c3, if_pos c4])
                  have e_Ml : (f_X5_lookOf_8_Ml nl ro ss lt mm pj (i1 + 1)) = (f_X5_lookOf_26_Ml nl ro ss mm (f_X5_lookOf_8_Ml nl ro ss lt mm pj i1) pj (2 ^ mm)) := (by simp only [f_X5_lookOf_8_Ml, if_pos c1, if_neg c2, if_neg c3, if_pos c4])
                  exact ih8 (i1 + 1) (by omega) _ _ (by rw [e_Ml]; exact hP) (by rw [e_Ml]; exact hD) hS ls (by rw [e_v3, e_v4]; exact lv_sub hl [5, 6, 7, 2, 1, 0] rfl)
                · refine lv_iconst (v := 1) hx hb dX5_lookOf_133 (by decide) ?_
                  refine lv_goto (tgt := 138) hx hb dX5_lookOf_134 (by decide) ?_
                  refine lv_istore (lv' := [(9, .int 1), (8, .int ((f_X5_lookOf_26_v7 nl bk ro ss bo i1 mm (f_X5_lookOf_8_Ml nl ro ss lt mm pj i1) pj (2 ^ mm)))), (0, .ref aM), (1, .int (nI pj)), (2, .int (nI mm)), (3, .int ((f_X5_lookOf_8_p nl bk ro ss lt bo mm pj i1).1)), (4, .int ((f_X5_lookOf_8_p nl bk ro ss lt bo mm pj i1).2)), (5, .int (nI i1)), (6, .int ((f_X5_lookOf_26_v6 nl bk ro ss bo i1 mm (f_X5_lookOf_8_Ml nl ro ss lt mm pj i1) pj (2 ^ mm)))), (7, .int ((f_X5_lookOf_26_v7 nl bk ro ss bo i1 mm (f_X5_lookOf_8_Ml nl ro ss lt mm pj i1) pj (2 ^ mm))))]) hx hb dX5_lookOf_138 hl (by decide) rfl (fun ls hl => ?_)
                  refine lv_iload hx hb dX5_lookOf_140 (lv_at hl 0 rfl) ?_
                  refine lv_if_eq (tgt := 150) hx hb dX5_lookOf_142 (by decide) (fun c => absurd c (by decide)) (fun _ => ?_)
                  refine lv_iload hx hb dX5_lookOf_145 (lv_at hl 7 rfl) ?_
                  refine lv_goto (tgt := 151) hx hb dX5_lookOf_147 (by decide) ?_
                  refine lv_istore_n (lv' := [(3, .int (nI i1)), (9, .int 1), (8, .int ((f_X5_lookOf_26_v7 nl bk ro ss bo i1 mm (f_X5_lookOf_8_Ml nl ro ss lt mm pj i1) pj (2 ^ mm)))), (0, .ref aM), (1, .int (nI pj)), (2, .int (nI mm)), (4, .int ((f_X5_lookOf_8_p nl bk ro ss lt bo mm pj i1).2)), (5, .int (nI i1)), (6, .int ((f_X5_lookOf_26_v6 nl bk ro ss bo i1 mm (f_X5_lookOf_8_Ml nl ro ss lt mm pj i1) pj (2 ^ mm)))), (7, .int ((f_X5_lookOf_26_v7 nl bk ro ss bo i1 mm (f_X5_lookOf_8_Ml nl ro ss lt mm pj i1) pj (2 ^ mm))))]) hx hb dX5_lookOf_151 rfl hl (by decide) rfl (fun ls hl => ?_)
                  refine lv_iload hx hb dX5_lookOf_152 (lv_at hl 1 rfl) ?_
                  refine lv_if_eq (tgt := 162) hx hb dX5_lookOf_154 (by decide) (fun c => absurd c (by decide)) (fun _ => ?_)
                  refine lv_iload hx hb dX5_lookOf_157 (lv_at hl 2 rfl) ?_
                  refine lv_goto (tgt := 164) hx hb dX5_lookOf_159 (by decide) ?_
                  refine lv_istore (lv' := [(4, .int ((f_X5_lookOf_26_v7 nl bk ro ss bo i1 mm (f_X5_lookOf_8_Ml nl ro ss lt mm pj i1) pj (2 ^ mm)))), (3, .int (nI i1)), (9, .int 1), (8, .int ((f_X5_lookOf_26_v7 nl bk ro ss bo i1 mm (f_X5_lookOf_8_Ml nl ro ss lt mm pj i1) pj (2 ^ mm)))), (0, .ref aM), (1, .int (nI pj)), (2, .int (nI mm)), (5, .int (nI i1)), (6, .int ((f_X5_lookOf_26_v6 nl bk ro ss bo i1 mm (f_X5_lookOf_8_Ml nl ro ss lt mm pj i1) pj (2 ^ mm)))), (7, .int ((f_X5_lookOf_26_v7 nl bk ro ss bo i1 mm (f_X5_lookOf_8_Ml nl ro ss lt mm pj i1) pj (2 ^ mm))))]) hx hb dX5_lookOf_164 hl (by decide) rfl (fun ls hl => ?_)
                  refine lv_iinc (v := nI (i1 + 1)) (lv' := [(5, .int (nI (i1 + 1))), (4, .int ((f_X5_lookOf_26_v7 nl bk ro ss bo i1 mm (f_X5_lookOf_8_Ml nl ro ss lt mm pj i1) pj (2 ^ mm)))), (3, .int (nI i1)), (9, .int 1), (8, .int ((f_X5_lookOf_26_v7 nl bk ro ss bo i1 mm (f_X5_lookOf_8_Ml nl ro ss lt mm pj i1) pj (2 ^ mm)))), (0, .ref aM), (1, .int (nI pj)), (2, .int (nI mm)), (6, .int ((f_X5_lookOf_26_v6 nl bk ro ss bo i1 mm (f_X5_lookOf_8_Ml nl ro ss lt mm pj i1) pj (2 ^ mm)))), (7, .int ((f_X5_lookOf_26_v7 nl bk ro ss bo i1 mm (f_X5_lookOf_8_Ml nl ro ss lt mm pj i1) pj (2 ^ mm))))]) hx hb dX5_lookOf_166 hl (k := 7) rfl (nI_add i1 1) (by decide) rfl (fun ls hl => ?_)
                  refine lv_goto (tgt := 8) hx hb dX5_lookOf_169 (by decide) ?_
                  have e_v3 : (f_X5_lookOf_8_p nl bk ro ss lt bo mm pj (i1 + 1)).1 = nI i1 := (by simp only [f_X5_lookOf_8_p, if_pos c1, if_neg c2, if_neg c3, if_neg c4])
                  have e_v4 : (f_X5_lookOf_8_p nl bk ro ss lt bo mm pj (i1 + 1)).2 = (f_X5_lookOf_26_v7 nl bk ro ss bo i1 mm (f_X5_lookOf_8_Ml nl ro ss lt mm pj i1) pj (2 ^ mm)) := (by simp only [f_X5_lookOf_8_p, if_pos c1, if_neg c2, if_neg c3, if_neg c4])
                  have e_Ml : (f_X5_lookOf_8_Ml nl ro ss lt mm pj (i1 + 1)) = (f_X5_lookOf_26_Ml nl ro ss mm (f_X5_lookOf_8_Ml nl ro ss lt mm pj i1) pj (2 ^ mm)) := (by simp only [f_X5_lookOf_8_Ml, if_pos c1, if_neg c2, if_neg c3, if_neg c4])
                  exact ih8 (i1 + 1) (by omega) _ _ (by rw [e_Ml]; exact hP) (by rw [e_Ml]; exact hD) hS ls (by rw [e_v3, e_v4]; exact lv_sub hl [5, 6, 7, 2, 1, 0] rfl)
          · refine lv_iload hx hb dX5_lookOf_107 (lv_at hl 6 rfl) ?_
            refine lv_goto (tgt := 114) hx hb dX5_lookOf_109 (by decide) ?_
            refine lv_istore (lv' := [(8, .int ((f_X5_lookOf_26_v6 nl bk ro ss bo i1 mm (f_X5_lookOf_8_Ml nl ro ss lt mm pj i1) pj (2 ^ mm)))), (0, .ref aM), (1, .int (nI pj)), (2, .int (nI mm)), (3, .int ((f_X5_lookOf_8_p nl bk ro ss lt bo mm pj i1).1)), (4, .int ((f_X5_lookOf_8_p nl bk ro ss lt bo mm pj i1).2)), (5, .int (nI i1)), (6, .int ((f_X5_lookOf_26_v6 nl bk ro ss bo i1 mm (f_X5_lookOf_8_Ml nl ro ss lt mm pj i1) pj (2 ^ mm)))), (7, .int ((f_X5_lookOf_26_v7 nl bk ro ss bo i1 mm (f_X5_lookOf_8_Ml nl ro ss lt mm pj i1) pj (2 ^ mm))))]) hx hb dX5_lookOf_114 hl (by decide) rfl (fun ls hl => ?_)
            refine lv_iload hx hb dX5_lookOf_116 (lv_at hl 0 rfl) ?_
            refine lv_if_le (tgt := 137) hx hb dX5_lookOf_118 (by decide) (fun c5 => ?_) (fun c5 => ?_)
            · refine lv_iconst (v := 0) hx hb dX5_lookOf_137 (by decide) ?_
              refine lv_istore (lv' := [(9, .int 0), (8, .int ((f_X5_lookOf_26_v6 nl bk ro ss bo i1 mm (f_X5_lookOf_8_Ml nl ro ss lt mm pj i1) pj (2 ^ mm)))), (0, .ref aM), (1, .int (nI pj)), (2, .int (nI mm)), (3, .int ((f_X5_lookOf_8_p nl bk ro ss lt bo mm pj i1).1)), (4, .int ((f_X5_lookOf_8_p nl bk ro ss lt bo mm pj i1).2)), (5, .int (nI i1)), (6, .int ((f_X5_lookOf_26_v6 nl bk ro ss bo i1 mm (f_X5_lookOf_8_Ml nl ro ss lt mm pj i1) pj (2 ^ mm)))), (7, .int ((f_X5_lookOf_26_v7 nl bk ro ss bo i1 mm (f_X5_lookOf_8_Ml nl ro ss lt mm pj i1) pj (2 ^ mm))))]) hx hb dX5_lookOf_138 hl (by decide) rfl (fun ls hl => ?_)
              refine lv_iload hx hb dX5_lookOf_140 (lv_at hl 0 rfl) ?_
              refine lv_if_eq (tgt := 150) hx hb dX5_lookOf_142 (by decide) (fun _ => ?_) (fun c => absurd (by decide) c)
              refine lv_iload_n hx hb dX5_lookOf_150 rfl (lv_at hl 5 rfl) ?_
              refine lv_istore_n (lv' := [(3, .int ((f_X5_lookOf_8_p nl bk ro ss lt bo mm pj i1).1)), (9, .int 0), (8, .int ((f_X5_lookOf_26_v6 nl bk ro ss bo i1 mm (f_X5_lookOf_8_Ml nl ro ss lt mm pj i1) pj (2 ^ mm)))), (0, .ref aM), (1, .int (nI pj)), (2, .int (nI mm)), (4, .int ((f_X5_lookOf_8_p nl bk ro ss lt bo mm pj i1).2)), (5, .int (nI i1)), (6, .int ((f_X5_lookOf_26_v6 nl bk ro ss bo i1 mm (f_X5_lookOf_8_Ml nl ro ss lt mm pj i1) pj (2 ^ mm)))), (7, .int ((f_X5_lookOf_26_v7 nl bk ro ss bo i1 mm (f_X5_lookOf_8_Ml nl ro ss lt mm pj i1) pj (2 ^ mm))))]) hx hb dX5_lookOf_151 rfl hl (by decide) rfl (fun ls hl => ?_)
              refine lv_iload hx hb dX5_lookOf_152 (lv_at hl 1 rfl) ?_
              refine lv_if_eq (tgt := 162) hx hb dX5_lookOf_154 (by decide) (fun _ => ?_) (fun c => absurd (by decide) c)
              refine lv_iload hx hb dX5_lookOf_162 (lv_at hl 6 rfl) ?_
              refine lv_istore (lv' := [(4, .int ((f_X5_lookOf_8_p nl bk ro ss lt bo mm pj i1).2)), (3, .int ((f_X5_lookOf_8_p nl bk ro ss lt bo mm pj i1).1)), (9, .int 0), (8, .int ((f_X5_lookOf_26_v6 nl bk ro ss bo i1 mm (f_X5_lookOf_8_Ml nl ro ss lt mm pj i1) pj (2 ^ mm)))), (0, .ref aM), (1, .int (nI pj)), (2, .int (nI mm)), (5, .int (nI i1)), (6, .int ((f_X5_lookOf_26_v6 nl bk ro ss bo i1 mm (f_X5_lookOf_8_Ml nl ro ss lt mm pj i1) pj (2 ^ mm)))), (7, .int ((f_X5_lookOf_26_v7 nl bk ro ss bo i1 mm (f_X5_lookOf_8_Ml nl ro ss lt mm pj i1) pj (2 ^ mm))))]) hx hb dX5_lookOf_164 hl (by decide) rfl (fun ls hl => ?_)
              refine lv_iinc (v := nI (i1 + 1)) (lv' := [(5, .int (nI (i1 + 1))), (4, .int ((f_X5_lookOf_8_p nl bk ro ss lt bo mm pj i1).2)), (3, .int ((f_X5_lookOf_8_p nl bk ro ss lt bo mm pj i1).1)), (9, .int 0), (8, .int ((f_X5_lookOf_26_v6 nl bk ro ss bo i1 mm (f_X5_lookOf_8_Ml nl ro ss lt mm pj i1) pj (2 ^ mm)))), (0, .ref aM), (1, .int (nI pj)), (2, .int (nI mm)), (6, .int ((f_X5_lookOf_26_v6 nl bk ro ss bo i1 mm (f_X5_lookOf_8_Ml nl ro ss lt mm pj i1) pj (2 ^ mm)))), (7, .int ((f_X5_lookOf_26_v7 nl bk ro ss bo i1 mm (f_X5_lookOf_8_Ml nl ro ss lt mm pj i1) pj (2 ^ mm))))]) hx hb dX5_lookOf_166 hl (k := 7) rfl (nI_add i1 1) (by decide) rfl (fun ls hl => ?_)
              refine lv_goto (tgt := 8) hx hb dX5_lookOf_169 (by decide) ?_
              have e_v3 : (f_X5_lookOf_8_p nl bk ro ss lt bo mm pj (i1 + 1)).1 = (f_X5_lookOf_8_p nl bk ro ss lt bo mm pj i1).1 := (by simp only [f_X5_lookOf_8_p, if_neg c1, if_pos c5])
              have e_v4 : (f_X5_lookOf_8_p nl bk ro ss lt bo mm pj (i1 + 1)).2 = (f_X5_lookOf_8_p nl bk ro ss lt bo mm pj i1).2 := (by simp only [f_X5_lookOf_8_p, if_neg c1, if_pos c5])
              have e_Ml : (f_X5_lookOf_8_Ml nl ro ss lt mm pj (i1 + 1)) = (f_X5_lookOf_26_Ml nl ro ss mm (f_X5_lookOf_8_Ml nl ro ss lt mm pj i1) pj (2 ^ mm)) := (by simp only [f_X5_lookOf_8_Ml, if_neg c1, if_pos c5])
              exact ih8 (i1 + 1) (by omega) _ _ (by rw [e_Ml]; exact hP) (by rw [e_Ml]; exact hD) hS ls (by rw [e_v3, e_v4]; exact lv_sub hl [5, 6, 7, 2, 1, 0] rfl)
            · refine lv_iload_n hx hb dX5_lookOf_121 rfl (lv_at hl 4 rfl) ?_
              refine lv_iconst (v := (-1)) hx hb dX5_lookOf_122 (by decide) ?_
              refine lv_icmp_eq (tgt := 133) hx hb dX5_lookOf_123 (by decide) (fun c6 => ?_) (fun c6 => ?_)
              · refine lv_iconst (v := 1) hx hb dX5_lookOf_133 (by decide) ?_
                refine lv_goto (tgt := 138) hx hb dX5_lookOf_134 (by decide) ?_
                refine lv_istore (lv' := [(9, .int 1), (8, .int ((f_X5_lookOf_26_v6 nl bk ro ss bo i1 mm (f_X5_lookOf_8_Ml nl ro ss lt mm pj i1) pj (2 ^ mm)))), (0, .ref aM), (1, .int (nI pj)), (2, .int (nI mm)), (3, .int ((f_X5_lookOf_8_p nl bk ro ss lt bo mm pj i1).1)), (4, .int ((f_X5_lookOf_8_p nl bk ro ss lt bo mm pj i1).2)), (5, .int (nI i1)), (6, .int ((f_X5_lookOf_26_v6 nl bk ro ss bo i1 mm (f_X5_lookOf_8_Ml nl ro ss lt mm pj i1) pj (2 ^ mm)))), (7, .int ((f_X5_lookOf_26_v7 nl bk ro ss bo i1 mm (f_X5_lookOf_8_Ml nl ro ss lt mm pj i1) pj (2 ^ mm))))]) hx hb dX5_lookOf_138 hl (by decide) rfl (fun ls hl => ?_)
                refine lv_iload hx hb dX5_lookOf_140 (lv_at hl 0 rfl) ?_
                refine lv_if_eq (tgt := 150) hx hb dX5_lookOf_142 (by decide) (fun c => absurd c (by decide)) (fun _ => ?_)
                refine lv_iload hx hb dX5_lookOf_145 (lv_at hl 7 rfl) ?_
                refine lv_goto (tgt := 151) hx hb dX5_lookOf_147 (by decide) ?_
                refine lv_istore_n (lv' := [(3, .int (nI i1)), (9, .int 1), (8, .int ((f_X5_lookOf_26_v6 nl bk ro ss bo i1 mm (f_X5_lookOf_8_Ml nl ro ss lt mm pj i1) pj (2 ^ mm)))), (0, .ref aM), (1, .int (nI pj)), (2, .int (nI mm)), (4, .int ((f_X5_lookOf_8_p nl bk ro ss lt bo mm pj i1).2)), (5, .int (nI i1)), (6, .int ((f_X5_lookOf_26_v6 nl bk ro ss bo i1 mm (f_X5_lookOf_8_Ml nl ro ss lt mm pj i1) pj (2 ^ mm)))), (7, .int ((f_X5_lookOf_26_v7 nl bk ro ss bo i1 mm (f_X5_lookOf_8_Ml nl ro ss lt mm pj i1) pj (2 ^ mm))))]) hx hb dX5_lookOf_151 rfl hl (by decide) rfl (fun ls hl => ?_)
                refine lv_iload hx hb dX5_lookOf_152 (lv_at hl 1 rfl) ?_
                refine lv_if_eq (tgt := 162) hx hb dX5_lookOf_154 (by decide) (fun c => absurd c (by decide)) (fun _ => ?_)
                refine lv_iload hx hb dX5_lookOf_157 (lv_at hl 2 rfl) ?_
                refine lv_goto (tgt := 164) hx hb dX5_lookOf_159 (by decide) ?_
                refine lv_istore (lv' := [(4, .int ((f_X5_lookOf_26_v6 nl bk ro ss bo i1 mm (f_X5_lookOf_8_Ml nl ro ss lt mm pj i1) pj (2 ^ mm)))), (3, .int (nI i1)), (9, .int 1), (8, .int ((f_X5_lookOf_26_v6 nl bk ro ss bo i1 mm (f_X5_lookOf_8_Ml nl ro ss lt mm pj i1) pj (2 ^ mm)))), (0, .ref aM), (1, .int (nI pj)), (2, .int (nI mm)), (5, .int (nI i1)), (6, .int ((f_X5_lookOf_26_v6 nl bk ro ss bo i1 mm (f_X5_lookOf_8_Ml nl ro ss lt mm pj i1) pj (2 ^ mm)))), (7, .int ((f_X5_lookOf_26_v7 nl bk ro ss bo i1 mm (f_X5_lookOf_8_Ml nl ro ss lt mm pj i1) pj (2 ^ mm))))]) hx hb dX5_lookOf_164 hl (by decide) rfl (fun ls hl => ?_)
                refine lv_iinc (v := nI (i1 + 1)) (lv' := [(5, .int (nI (i1 + 1))), (4, .int ((f_X5_lookOf_26_v6 nl bk ro ss bo i1 mm (f_X5_lookOf_8_Ml nl ro ss lt mm pj i1) pj (2 ^ mm)))), (3, .int (nI i1)), (9, .int 1), (8, .int ((f_X5_lookOf_26_v6 nl bk ro ss bo i1 mm (f_X5_lookOf_8_Ml nl ro ss lt mm pj i1) pj (2 ^ mm)))), (0, .ref aM), (1, .int (nI pj)), (2, .int (nI mm)), (6, .int ((f_X5_lookOf_26_v6 nl bk ro ss bo i1 mm (f_X5_lookOf_8_Ml nl ro ss lt mm pj i1) pj (2 ^ mm)))), (7, .int ((f_X5_lookOf_26_v7 nl bk ro ss bo i1 mm (f_X5_lookOf_8_Ml nl ro ss lt mm pj i1) pj (2 ^ mm))))]) hx hb dX5_lookOf_166 hl (k := 7) rfl (nI_add i1 1) (by decide) rfl (fun ls hl => ?_)
                refine lv_goto (tgt := 8) hx hb dX5_lookOf_169 (by decide) ?_
                have e_v3 : (f_X5_lookOf_8_p nl bk ro ss lt bo mm pj (i1 + 1)).1 = nI i1 := (by simp only [f_X5_lookOf_8_p, if_neg c1, if_neg c5, if_pos c6])
                have e_v4 : (f_X5_lookOf_8_p nl bk ro ss lt bo mm pj (i1 + 1)).2 = (f_X5_lookOf_26_v6 nl bk ro ss bo i1 mm (f_X5_lookOf_8_Ml nl ro ss lt mm pj i1) pj (2 ^ mm)) := (by simp only [f_X5_lookOf_8_p, if_neg c1, if_neg c5, if_pos c6])
                have e_Ml : (f_X5_lookOf_8_Ml nl ro ss lt mm pj (i1 + 1)) = (f_X5_lookOf_26_Ml nl ro ss mm (f_X5_lookOf_8_Ml nl ro ss lt mm pj i1) pj (2 ^ mm)) := (by simp only [f_X5_lookOf_8_Ml, if_neg c1, if_neg c5, if_pos c6])
                exact ih8 (i1 + 1) (by omega) _ _ (by rw [e_Ml]; exact hP) (by rw [e_Ml]; exact hD) hS ls (by rw [e_v3, e_v4]; exact lv_sub hl [5, 6, 7, 2, 1, 0] rfl)
              · refine lv_iload hx hb dX5_lookOf_126 (lv_at hl 0 rfl) ?_
                refine lv_iload hx hb dX5_lookOf_128 (lv_at hl 5 rfl) ?_
                refine lv_icmp_ge (tgt := 137) hx hb dX5_lookOf_130 (by decide) (fun c7 => ?_) (fun c7 => ?_)
                · refine lv_iconst (v := 0) hx hb dX5_lookOf_137 (by decide) ?_
                  refine lv_istore (lv' := [(9, .int 0), (8, .int ((f_X5_lookOf_26_v6 nl bk ro ss bo i1 mm (f_X5_lookOf_8_Ml nl ro ss lt mm pj i1) pj (2 ^ mm)))), (0, .ref aM), (1, .int (nI pj)), (2, .int (nI mm)), (3, .int ((f_X5_lookOf_8_p nl bk ro ss lt bo mm pj i1).1)), (4, .int ((f_X5_lookOf_8_p nl bk ro ss lt bo mm pj i1).2)), (5, .int (nI i1)), (6, .int ((f_X5_lookOf_26_v6 nl bk ro ss bo i1 mm (f_X5_lookOf_8_Ml nl ro ss lt mm pj i1) pj (2 ^ mm)))), (7, .int ((f_X5_lookOf_26_v7 nl bk ro ss bo i1 mm (f_X5_lookOf_8_Ml nl ro ss lt mm pj i1) pj (2 ^ mm))))]) hx hb dX5_lookOf_138 hl (by decide) rfl (fun ls hl => ?_)
                  refine lv_iload hx hb dX5_lookOf_140 (lv_at hl 0 rfl) ?_
                  refine lv_if_eq (tgt := 150) hx hb dX5_lookOf_142 (by decide) (fun _ => ?_) (fun c => absurd (by decide) c)
                  refine lv_iload_n hx hb dX5_lookOf_150 rfl (lv_at hl 5 rfl) ?_
                  refine lv_istore_n (lv' := [(3, .int ((f_X5_lookOf_8_p nl bk ro ss lt bo mm pj i1).1)), (9, .int 0), (8, .int ((f_X5_lookOf_26_v6 nl bk ro ss bo i1 mm (f_X5_lookOf_8_Ml nl ro ss lt mm pj i1) pj (2 ^ mm)))), (0, .ref aM), (1, .int (nI pj)), (2, .int (nI mm)), (4, .int ((f_X5_lookOf_8_p nl bk ro ss lt bo mm pj i1).2)), (5, .int (nI i1)), (6, .int ((f_X5_lookOf_26_v6 nl bk ro ss bo i1 mm (f_X5_lookOf_8_Ml nl ro ss lt mm pj i1) pj (2 ^ mm)))), (7, .int ((f_X5_lookOf_26_v7 nl bk ro ss bo i1 mm (f_X5_lookOf_8_Ml nl ro ss lt mm pj i1) pj (2 ^ mm))))]) hx hb dX5_lookOf_151 rfl hl (by decide) rfl (fun ls hl => ?_)
                  refine lv_iload hx hb dX5_lookOf_152 (lv_at hl 1 rfl) ?_
                  refine lv_if_eq (tgt := 162) hx hb dX5_lookOf_154 (by decide) (fun _ => ?_) (fun c => absurd (by decide) c)
                  refine lv_iload hx hb dX5_lookOf_162 (lv_at hl 6 rfl) ?_
                  refine lv_istore (lv' := [(4, .int ((f_X5_lookOf_8_p nl bk ro ss lt bo mm pj i1).2)), (3, .int ((f_X5_lookOf_8_p nl bk ro ss lt bo mm pj i1).1)), (9, .int 0), (8, .int ((f_X5_lookOf_26_v6 nl bk ro ss bo i1 mm (f_X5_lookOf_8_Ml nl ro ss lt mm pj i1) pj (2 ^ mm)))), (0, .ref aM), (1, .int (nI pj)), (2, .int (nI mm)), (5, .int (nI i1)), (6, .int ((f_X5_lookOf_26_v6 nl bk ro ss bo i1 mm (f_X5_lookOf_8_Ml nl ro ss lt mm pj i1) pj (2 ^ mm)))), (7, .int ((f_X5_lookOf_26_v7 nl bk ro ss bo i1 mm (f_X5_lookOf_8_Ml nl ro ss lt mm pj i1) pj (2 ^ mm))))]) hx hb dX5_lookOf_164 hl (by decide) rfl (fun ls hl => ?_)
                  refine lv_iinc (v := nI (i1 + 1)) (lv' := [(5, .int (nI (i1 + 1))), (4, .int ((f_X5_lookOf_8_p nl bk ro ss lt bo mm pj i1).2)), (3, .int ((f_X5_lookOf_8_p nl bk ro ss lt bo mm pj i1).1)), (9, .int 0), (8, .int ((f_X5_lookOf_26_v6 nl bk ro ss bo i1 mm (f_X5_lookOf_8_Ml nl ro ss lt mm pj i1) pj (2 ^ mm)))), (0, .ref aM), (1, .int (nI pj)), (2, .int (nI mm)), (6, .int ((f_X5_lookOf_26_v6 nl bk ro ss bo i1 mm (f_X5_lookOf_8_Ml nl ro ss lt mm pj i1) pj (2 ^ mm)))), (7, .int ((f_X5_lookOf_26_v7 nl bk ro ss bo i1 mm (f_X5_lookOf_8_Ml nl ro ss lt mm pj i1) pj (2 ^ mm))))]) hx hb dX5_lookOf_166 hl (k := 7) rfl (nI_add i1 1) (by decide) rfl (fun ls hl => ?_)
                  refine lv_goto (tgt := 8) hx hb dX5_lookOf_169 (by decide) ?_
                  have e_v3 : (f_X5_lookOf_8_p nl bk ro ss lt bo mm pj (i1 + 1)).1 = (f_X5_lookOf_8_p nl bk ro ss lt bo mm pj i1).1 := (by simp only [f_X5_lookOf_8_p, if_neg c1, if_neg c5, if_neg c6, if_pos c7])
                  have e_v4 : (f_X5_lookOf_8_p nl bk ro ss lt bo mm pj (i1 + 1)).2 = (f_X5_lookOf_8_p nl bk ro ss lt bo mm pj i1).2 := (by simp only [f_X5_lookOf_8_p, if_neg c1, if_neg c5, if_neg c6, if_pos c7])
                  have e_Ml : (f_X5_lookOf_8_Ml nl ro ss lt mm pj (i1 + 1)) = (f_X5_lookOf_26_Ml nl ro ss mm (f_X5_lookOf_8_Ml nl ro ss lt mm pj i1) pj (2 ^ mm)) := (by simp only [f_X5_lookOf_8_Ml, if_neg c1, if_neg c5, if_neg c6, if_pos c7])
                  exact ih8 (i1 + 1) (by omega) _ _ (by rw [e_Ml]; exact hP) (by rw [e_Ml]; exact hD) hS ls (by rw [e_v3, e_v4]; exact lv_sub hl [5, 6, 7, 2, 1, 0] rfl)
                · refine lv_iconst (v := 1) hx hb dX5_lookOf_133 (by decide) ?_
                  refine lv_goto (tgt := 138) hx hb dX5_lookOf_134 (by decide) ?_
                  refine lv_istore (lv' := [(9, .int 1), (8, .int ((f_X5_lookOf_26_v6 nl bk ro ss bo i1 mm (f_X5_lookOf_8_Ml nl ro ss lt mm pj i1) pj (2 ^ mm)))), (0, .ref aM), (1, .int (nI pj)), (2, .int (nI mm)), (3, .int ((f_X5_lookOf_8_p nl bk ro ss lt bo mm pj i1).1)), (4, .int ((f_X5_lookOf_8_p nl bk ro ss lt bo mm pj i1).2)), (5, .int (nI i1)), (6, .int ((f_X5_lookOf_26_v6 nl bk ro ss bo i1 mm (f_X5_lookOf_8_Ml nl ro ss lt mm pj i1) pj (2 ^ mm)))), (7, .int ((f_X5_lookOf_26_v7 nl bk ro ss bo i1 mm (f_X5_lookOf_8_Ml nl ro ss lt mm pj i1) pj (2 ^ mm))))]) hx hb dX5_lookOf_138 hl (by decide) rfl (fun ls hl => ?_)
                  refine lv_iload hx hb dX5_lookOf_140 (lv_at hl 0 rfl) ?_
                  refine lv_if_eq (tgt := 150) hx hb dX5_lookOf_142 (by decide) (fun c => absurd c (by decide)) (fun _ => ?_)
                  refine lv_iload hx hb dX5_lookOf_145 (lv_at hl 7 rfl) ?_
                  refine lv_goto (tgt := 151) hx hb dX5_lookOf_147 (by decide) ?_
                  refine lv_istore_n (lv' := [(3, .int (nI i1)), (9, .int 1), (8, .int ((f_X5_lookOf_26_v6 nl bk ro ss bo i1 mm (f_X5_lookOf_8_Ml nl ro ss lt mm pj i1) pj (2 ^ mm)))), (0, .ref aM), (1, .int (nI pj)), (2, .int (nI mm)), (4, .int ((f_X5_lookOf_8_p nl bk ro ss lt bo mm pj i1).2)), (5, .int (nI i1)), (6, .int ((f_X5_lookOf_26_v6 nl bk ro ss bo i1 mm (f_X5_lookOf_8_Ml nl ro ss lt mm pj i1) pj (2 ^ mm)))), (7, .int ((f_X5_lookOf_26_v7 nl bk ro ss bo i1 mm (f_X5_lookOf_8_Ml nl ro ss lt mm pj i1) pj (2 ^ mm))))]) hx hb dX5_lookOf_151 rfl hl (by decide) rfl (fun ls hl => ?_)
                  refine lv_iload hx hb dX5_lookOf_152 (lv_at hl 1 rfl) ?_
                  refine lv_if_eq (tgt := 162) hx hb dX5_lookOf_154 (by decide) (fun c => absurd c (by decide)) (fun _ => ?_)
                  refine lv_iload hx hb dX5_lookOf_157 (lv_at hl 2 rfl) ?_
                  refine lv_goto (tgt := 164) hx hb dX5_lookOf_159 (by decide) ?_
                  refine lv_istore (lv' := [(4, .int ((f_X5_lookOf_26_v6 nl bk ro ss bo i1 mm (f_X5_lookOf_8_Ml nl ro ss lt mm pj i1) pj (2 ^ mm)))), (3, .int (nI i1)), (9, .int 1), (8, .int ((f_X5_lookOf_26_v6 nl bk ro ss bo i1 mm (f_X5_lookOf_8_Ml nl ro ss lt mm pj i1) pj (2 ^ mm)))), (0, .ref aM), (1, .int (nI pj)), (2, .int (nI mm)), (5, .int (nI i1)), (6, .int ((f_X5_lookOf_26_v6 nl bk ro ss bo i1 mm (f_X5_lookOf_8_Ml nl ro ss lt mm pj i1) pj (2 ^ mm)))), (7, .int ((f_X5_lookOf_26_v7 nl bk ro ss bo i1 mm (f_X5_lookOf_8_Ml nl ro ss lt mm pj i1) pj (2 ^ mm))))]) hx hb dX5_lookOf_164 hl (by decide) rfl (fun ls hl => ?_)
                  refine lv_iinc (v := nI (i1 + 1)) (lv' := [(5, .int (nI (i1 + 1))), (4, .int ((f_X5_lookOf_26_v6 nl bk ro ss bo i1 mm (f_X5_lookOf_8_Ml nl ro ss lt mm pj i1) pj (2 ^ mm)))), (3, .int (nI i1)), (9, .int 1), (8, .int ((f_X5_lookOf_26_v6 nl bk ro ss bo i1 mm (f_X5_lookOf_8_Ml nl ro ss lt mm pj i1) pj (2 ^ mm)))), (0, .ref aM), (1, .int (nI pj)), (2, .int (nI mm)), (6, .int ((f_X5_lookOf_26_v6 nl bk ro ss bo i1 mm (f_X5_lookOf_8_Ml nl ro ss lt mm pj i1) pj (2 ^ mm)))), (7, .int ((f_X5_lookOf_26_v7 nl bk ro ss bo i1 mm (f_X5_lookOf_8_Ml nl ro ss lt mm pj i1) pj (2 ^ mm))))]) hx hb dX5_lookOf_166 hl (k := 7) rfl (nI_add i1 1) (by decide) rfl (fun ls hl => ?_)
                  refine lv_goto (tgt := 8) hx hb dX5_lookOf_169 (by decide) ?_
                  have e_v3 : (f_X5_lookOf_8_p nl bk ro ss lt bo mm pj (i1 + 1)).1 = nI i1 := (by simp only [f_X5_lookOf_8_p, if_neg c1, if_neg c5, if_neg c6, if_neg c7])
                  have e_v4 : (f_X5_lookOf_8_p nl bk ro ss lt bo mm pj (i1 + 1)).2 = (f_X5_lookOf_26_v6 nl bk ro ss bo i1 mm (f_X5_lookOf_8_Ml nl ro ss lt mm pj i1) pj (2 ^ mm)) := (by simp only [f_X5_lookOf_8_p, if_neg c1, if_neg c5, if_neg c6, if_neg c7])
                  have e_Ml : (f_X5_lookOf_8_Ml nl ro ss lt mm pj (i1 + 1)) = (f_X5_lookOf_26_Ml nl ro ss mm (f_X5_lookOf_8_Ml nl ro ss lt mm pj i1) pj (2 ^ mm)) := (by simp only [f_X5_lookOf_8_Ml, if_neg c1, if_neg c5, if_neg c6, if_neg c7])
                  exact ih8 (i1 + 1) (by omega) _ _ (by rw [e_Ml]; exact hP) (by rw [e_Ml]; exact hD) hS ls (by rw [e_v3, e_v4]; exact lv_sub hl [5, 6, 7, 2, 1, 0] rfl)
        | succ k26 ih26 =>
          intro i2 hk26 H locs hP hD hS ls hl
          refine lv_iload hx hb dX5_lookOf_26 (lv_at hl 8 rfl) ?_
          refine lv_iconst (v := 1) hx hb dX5_lookOf_28 (by decide) ?_
          refine lv_iload_n hx hb dX5_lookOf_29 rfl (lv_at hl 2 rfl) ?_
          refine lv_ishl hx hb dX5_lookOf_30 ?_
          refine tpi (y := nI (2 ^ mm)) (one_shl mm (by omega)) ?_
          refine lv_icmp_ge (tgt := 100) hx hb dX5_lookOf_31 (by decide) (fun c => absurd c (nle_f (a := 2 ^ mm) (b := i2) rfl rfl (by omega) (by omega) (by omega))) (fun _ => ?_)
          refine lv_aload_n hx hb dX5_lookOf_34 rfl (lv_at hl 0 rfl) ?_
          refine lv_iload_n hx hb dX5_lookOf_35 rfl (lv_at hl 1 rfl) ?_
          refine lv_iload_n hx hb dX5_lookOf_36 rfl (lv_at hl 2 rfl) ?_
          refine lv_iload hx hb dX5_lookOf_37 (lv_at hl 8 rfl) ?_
          refine xV (w2 := [(aM, .inr (5, [.ref aMp, .int (nI pl), .int (nI nl), .int mi, .int ofr, .ref aMr, .int (nI pe), .ref aMs, .ref aMl, .int bc, .int rd, .ref aMg, .ref aMb, .int (nI bk), .ref aMo, .int sd, .int ko, .int kpe, .int kmi, .int kbk, .ref aMkr, .ref aMks, .ref aMkb, .long ha])), (aMr, .inl (cI, 18, .inl ro)), (aMs, .inl (cI, 12, .inl ss)), (aMl, .inl (cI, 6, .inl (f_X5_canWave_Ml nl ro ss ((f_X5_lookOf_26_Ml nl ro ss mm (f_X5_lookOf_8_Ml nl ro ss lt mm pj i1) pj i2)) mm pj (nI i2)))), (aMo, .inl (cI, 24, .inl bo))]) ⟨hx, hb, hml, hown, hts⟩ (c_X5_canWave l D cI aM aMp aMr aMs aMl aMg aMb aMo aMkr aMks aMkb ofr rd pl nl mi pe kmi kpe bc bk sd ko kbk ha ro ss ((f_X5_lookOf_26_Ml nl ro ss mm (f_X5_lookOf_8_Ml nl ro ss lt mm pj i1) pj i2)) bo mm pj (nI i2) hn hpe hbk hbo hpj hmm) (cwV 3 hts gX5_lookOf_X5_canWave rfl rfl rfl hd_X5_canWave ⟨Nat.le_of_ble_eq_true rfl, Nat.le_of_ble_eq_true rfl⟩) hK hP hD hS hA [0, 1, 2, 3, 4] [] [0, 1, 2, 3, 4] rfl rfl rfl rfl rfl (by decide) rfl rfl rfl 0 rfl rfl rfl rfl hl.1 (rest := []) (st' := [.int (f_X5_canWave nl bk ro ss ((f_X5_lookOf_26_Ml nl ro ss mm (f_X5_lookOf_8_Ml nl ro ss lt mm pj i1) pj i2)) bo mm pj (nI i2))]) rfl rfl (Nat.le_of_ble_eq_true rfl) dX5_lookOf_39 ⟨Nat.zero_le _, Nat.zero_le _⟩ (fun H locs hP hD hS => ?_)
          refine lv_istore (lv' := [(9, .int (f_X5_canWave nl bk ro ss ((f_X5_lookOf_26_Ml nl ro ss mm (f_X5_lookOf_8_Ml nl ro ss lt mm pj i1) pj i2)) bo mm pj (nI i2))), (0, .ref aM), (1, .int (nI pj)), (2, .int (nI mm)), (3, .int ((f_X5_lookOf_8_p nl bk ro ss lt bo mm pj i1).1)), (4, .int ((f_X5_lookOf_8_p nl bk ro ss lt bo mm pj i1).2)), (5, .int (nI i1)), (6, .int ((f_X5_lookOf_26_v6 nl bk ro ss bo i1 mm (f_X5_lookOf_8_Ml nl ro ss lt mm pj i1) pj i2))), (7, .int ((f_X5_lookOf_26_v7 nl bk ro ss bo i1 mm (f_X5_lookOf_8_Ml nl ro ss lt mm pj i1) pj i2))), (8, .int (nI i2))]) hx hb dX5_lookOf_42 hl (by decide) rfl (fun ls hl => ?_)
          refine lv_iload hx hb dX5_lookOf_44 (lv_at hl 7 rfl) ?_
          refine lv_iload hx hb dX5_lookOf_46 (lv_at hl 0 rfl) ?_
          refine lv_if_eq (tgt := 65) hx hb dX5_lookOf_48 (by decide) (fun c8 => ?_) (fun c8 => ?_)
          · refine lv_iconst (v := 0) hx hb dX5_lookOf_65 (by decide) ?_
            refine lv_iadd hx hb dX5_lookOf_66 ?_
            refine lv_istore (lv' := [(6, .int ((f_X5_lookOf_26_v6 nl bk ro ss bo i1 mm (f_X5_lookOf_8_Ml nl ro ss lt mm pj i1) pj i2) + 0)), (9, .int (f_X5_canWave nl bk ro ss ((f_X5_lookOf_26_Ml nl ro ss mm (f_X5_lookOf_8_Ml nl ro ss lt mm pj i1) pj i2)) bo mm pj (nI i2))), (0, .ref aM), (1, .int (nI pj)), (2, .int (nI mm)), (3, .int ((f_X5_lookOf_8_p nl bk ro ss lt bo mm pj i1).1)), (4, .int ((f_X5_lookOf_8_p nl bk ro ss lt bo mm pj i1).2)), (5, .int (nI i1)), (7, .int ((f_X5_lookOf_26_v7 nl bk ro ss bo i1 mm (f_X5_lookOf_8_Ml nl ro ss lt mm pj i1) pj i2))), (8, .int (nI i2))]) hx hb dX5_lookOf_67 hl (by decide) rfl (fun ls hl => ?_)
            refine lv_iload hx hb dX5_lookOf_69 (lv_at hl 8 rfl) ?_
            refine lv_iload hx hb dX5_lookOf_71 (lv_at hl 1 rfl) ?_
            refine lv_if_eq (tgt := 90) hx hb dX5_lookOf_73 (by decide) (fun _ => ?_) (fun c => absurd c8 c)
            refine lv_iconst (v := 0) hx hb dX5_lookOf_90 (by decide) ?_
            refine lv_iadd hx hb dX5_lookOf_91 ?_
            refine lv_istore (lv' := [(7, .int ((f_X5_lookOf_26_v7 nl bk ro ss bo i1 mm (f_X5_lookOf_8_Ml nl ro ss lt mm pj i1) pj i2) + 0)), (6, .int ((f_X5_lookOf_26_v6 nl bk ro ss bo i1 mm (f_X5_lookOf_8_Ml nl ro ss lt mm pj i1) pj i2) + 0)), (9, .int (f_X5_canWave nl bk ro ss ((f_X5_lookOf_26_Ml nl ro ss mm (f_X5_lookOf_8_Ml nl ro ss lt mm pj i1) pj i2)) bo mm pj (nI i2))), (0, .ref aM), (1, .int (nI pj)), (2, .int (nI mm)), (3, .int ((f_X5_lookOf_8_p nl bk ro ss lt bo mm pj i1).1)), (4, .int ((f_X5_lookOf_8_p nl bk ro ss lt bo mm pj i1).2)), (5, .int (nI i1)), (8, .int (nI i2))]) hx hb dX5_lookOf_92 hl (by decide) rfl (fun ls hl => ?_)
            refine lv_iinc (v := nI (i2 + 1)) (lv' := [(8, .int (nI (i2 + 1))), (7, .int ((f_X5_lookOf_26_v7 nl bk ro ss bo i1 mm (f_X5_lookOf_8_Ml nl ro ss lt mm pj i1) pj i2) + 0)), (6, .int ((f_X5_lookOf_26_v6 nl bk ro ss bo i1 mm (f_X5_lookOf_8_Ml nl ro ss lt mm pj i1) pj i2) + 0)), (9, .int (f_X5_canWave nl bk ro ss ((f_X5_lookOf_26_Ml nl ro ss mm (f_X5_lookOf_8_Ml nl ro ss lt mm pj i1) pj i2)) bo mm pj (nI i2))), (0, .ref aM), (1, .int (nI pj)), (2, .int (nI mm)), (3, .int ((f_X5_lookOf_8_p nl bk ro ss lt bo mm pj i1).1)), (4, .int ((f_X5_lookOf_8_p nl bk ro ss lt bo mm pj i1).2)), (5, .int (nI i1))]) hx hb dX5_lookOf_94 hl (k := 9) rfl (nI_add i2 1) (by decide) rfl (fun ls hl => ?_)
            refine lv_goto (tgt := 26) hx hb dX5_lookOf_97 (by decide) ?_
            have e_v6 : (f_X5_lookOf_26_v6 nl bk ro ss bo i1 mm (f_X5_lookOf_8_Ml nl ro ss lt mm pj i1) pj (i2 + 1)) = ((f_X5_lookOf_26_v6 nl bk ro ss bo i1 mm (f_X5_lookOf_8_Ml nl ro ss lt mm pj i1) pj i2) + 0) := (by simp only [f_X5_lookOf_26_v6, if_pos c8])
            have e_v7 : (f_X5_lookOf_26_v7 nl bk ro ss bo i1 mm (f_X5_lookOf_8_Ml nl ro ss lt mm pj i1) pj (i2 + 1)) = ((f_X5_lookOf_26_v7 nl bk ro ss bo i1 mm (f_X5_lookOf_8_Ml nl ro ss lt mm pj i1) pj i2) + 0) := (by simp only [f_X5_lookOf_26_v7, if_pos c8])
            have e_Ml : (f_X5_lookOf_26_Ml nl ro ss mm (f_X5_lookOf_8_Ml nl ro ss lt mm pj i1) pj (i2 + 1)) = (f_X5_canWave_Ml nl ro ss ((f_X5_lookOf_26_Ml nl ro ss mm (f_X5_lookOf_8_Ml nl ro ss lt mm pj i1) pj i2)) mm pj (nI i2)) := (by simp only [f_X5_lookOf_26_Ml, if_pos c8])
            exact ih26 (i2 + 1) (by omega) _ _ (by rw [e_Ml]; exact hP) (by rw [e_Ml]; exact hD) hS ls (by rw [e_v6, e_v7]; exact lv_sub hl [4, 5, 6, 7, 8, 9, 2, 1, 0] rfl)
          · refine lv_aload_n hx hb dX5_lookOf_51 rfl (lv_at hl 1 rfl) ?_
            refine va_get (D := D) (ci := 5) (v := .ref aMl) (C := RX5) (T := TX5) (N := 24) hx hb hts uX5 hown hK hP 0 rfl rfl 8 (by decide) w2 (fun _ h9 => h9) rfl dX5_lookOf_52 ?_
            refine lv_iload hx hb dX5_lookOf_55 (lv_at hl 6 rfl) ?_
            refine xald hx hb hK hP 3 rfl i1 rfl (by omega) (by decide) dX5_lookOf_57 ?_
            refine lv_if_le (tgt := 65) hx hb dX5_lookOf_58 (by decide) (fun c9 => ?_) (fun c9 => ?_)
            · refine lv_iconst (v := 0) hx hb dX5_lookOf_65 (by decide) ?_
              refine lv_iadd hx hb dX5_lookOf_66 ?_
              refine lv_istore (lv' := [(6, .int ((f_X5_lookOf_26_v6 nl bk ro ss bo i1 mm (f_X5_lookOf_8_Ml nl ro ss lt mm pj i1) pj i2) + 0)), (9, .int (f_X5_canWave nl bk ro ss ((f_X5_lookOf_26_Ml nl ro ss mm (f_X5_lookOf_8_Ml nl ro ss lt mm pj i1) pj i2)) bo mm pj (nI i2))), (0, .ref aM), (1, .int (nI pj)), (2, .int (nI mm)), (3, .int ((f_X5_lookOf_8_p nl bk ro ss lt bo mm pj i1).1)), (4, .int ((f_X5_lookOf_8_p nl bk ro ss lt bo mm pj i1).2)), (5, .int (nI i1)), (7, .int ((f_X5_lookOf_26_v7 nl bk ro ss bo i1 mm (f_X5_lookOf_8_Ml nl ro ss lt mm pj i1) pj i2))), (8, .int (nI i2))]) hx hb dX5_lookOf_67 hl (by decide) rfl (fun ls hl => ?_)
              refine lv_iload hx hb dX5_lookOf_69 (lv_at hl 8 rfl) ?_
              refine lv_iload hx hb dX5_lookOf_71 (lv_at hl 1 rfl) ?_
              refine lv_if_eq (tgt := 90) hx hb dX5_lookOf_73 (by decide) (fun c => absurd c c8) (fun _ => ?_)
              refine lv_aload_n hx hb dX5_lookOf_76 rfl (lv_at hl 2 rfl) ?_
              refine va_get (D := D) (ci := 5) (v := .ref aMl) (C := RX5) (T := TX5) (N := 24) hx hb hts uX5 hown hK hP 0 rfl rfl 8 (by decide) w2 (fun _ h9 => h9) rfl dX5_lookOf_77 ?_
              refine lv_iload hx hb dX5_lookOf_80 (lv_at hl 7 rfl) ?_
              refine xald hx hb hK hP 3 rfl i1 rfl (by omega) (by decide) dX5_lookOf_82 ?_
              refine lv_if_ne (tgt := 90) hx hb dX5_lookOf_83 (by decide) (fun c10 => ?_) (fun c10 => ?_)
              · refine lv_iconst (v := 0) hx hb dX5_lookOf_90 (by decide) ?_
                refine lv_iadd hx hb dX5_lookOf_91 ?_
                refine lv_istore (lv' := [(7, .int ((f_X5_lookOf_26_v7 nl bk ro ss bo i1 mm (f_X5_lookOf_8_Ml nl ro ss lt mm pj i1) pj i2) + 0)), (6, .int ((f_X5_lookOf_26_v6 nl bk ro ss bo i1 mm (f_X5_lookOf_8_Ml nl ro ss lt mm pj i1) pj i2) + 0)), (9, .int (f_X5_canWave nl bk ro ss ((f_X5_lookOf_26_Ml nl ro ss mm (f_X5_lookOf_8_Ml nl ro ss lt mm pj i1) pj i2)) bo mm pj (nI i2))), (0, .ref aM), (1, .int (nI pj)), (2, .int (nI mm)), (3, .int ((f_X5_lookOf_8_p nl bk ro ss lt bo mm pj i1).1)), (4, .int ((f_X5_lookOf_8_p nl bk ro ss lt bo mm pj i1).2)), (5, .int (nI i1)), (8, .int (nI i2))]) hx hb dX5_lookOf_92 hl (by decide) rfl (fun ls hl => ?_)
                refine lv_iinc (v := nI (i2 + 1)) (lv' := [(8, .int (nI (i2 + 1))), (7, .int ((f_X5_lookOf_26_v7 nl bk ro ss bo i1 mm (f_X5_lookOf_8_Ml nl ro ss lt mm pj i1) pj i2) + 0)), (6, .int ((f_X5_lookOf_26_v6 nl bk ro ss bo i1 mm (f_X5_lookOf_8_Ml nl ro ss lt mm pj i1) pj i2) + 0)), (9, .int (f_X5_canWave nl bk ro ss ((f_X5_lookOf_26_Ml nl ro ss mm (f_X5_lookOf_8_Ml nl ro ss lt mm pj i1) pj i2)) bo mm pj (nI i2))), (0, .ref aM), (1, .int (nI pj)), (2, .int (nI mm)), (3, .int ((f_X5_lookOf_8_p nl bk ro ss lt bo mm pj i1).1)), (4, .int ((f_X5_lookOf_8_p nl bk ro ss lt bo mm pj i1).2)), (5, .int (nI i1))]) hx hb dX5_lookOf_94 hl (k := 9) rfl (nI_add i2 1) (by decide) rfl (fun ls hl => ?_)
                refine lv_goto (tgt := 26) hx hb dX5_lookOf_97 (by decide) ?_
                have e_v6 : (f_X5_lookOf_26_v6 nl bk ro ss bo i1 mm (f_X5_lookOf_8_Ml nl ro ss lt mm pj i1) pj (i2 + 1)) = ((f_X5_lookOf_26_v6 nl bk ro ss bo i1 mm (f_X5_lookOf_8_Ml nl ro ss lt mm pj i1) pj i2) + 0) := (by simp only [f_X5_lookOf_26_v6, if_neg c8, if_pos c9, if_neg c10])
                have e_v7 : (f_X5_lookOf_26_v7 nl bk ro ss bo i1 mm (f_X5_lookOf_8_Ml nl ro ss lt mm pj i1) pj (i2 + 1)) = ((f_X5_lookOf_26_v7 nl bk ro ss bo i1 mm (f_X5_lookOf_8_Ml nl ro ss lt mm pj i1) pj i2) + 0) := (by simp only [f_X5_lookOf_26_v7, if_neg c8, if_pos c9, if_neg c10])
                have e_Ml : (f_X5_lookOf_26_Ml nl ro ss mm (f_X5_lookOf_8_Ml nl ro ss lt mm pj i1) pj (i2 + 1)) = (f_X5_canWave_Ml nl ro ss ((f_X5_lookOf_26_Ml nl ro ss mm (f_X5_lookOf_8_Ml nl ro ss lt mm pj i1) pj i2)) mm pj (nI i2)) := (by simp only [f_X5_lookOf_26_Ml, if_neg c8, if_pos c9, if_neg c10])
                exact ih26 (i2 + 1) (by omega) _ _ (by rw [e_Ml]; exact hP) (by rw [e_Ml]; exact hD) hS ls (by rw [e_v6, e_v7]; exact lv_sub hl [4, 5, 6, 7, 8, 9, 2, 1, 0] rfl)
              · refine lv_iconst (v := 1) hx hb dX5_lookOf_86 (by decide) ?_
                refine lv_goto (tgt := 91) hx hb dX5_lookOf_87 (by decide) ?_
                refine lv_iadd hx hb dX5_lookOf_91 ?_
                refine lv_istore (lv' := [(7, .int ((f_X5_lookOf_26_v7 nl bk ro ss bo i1 mm (f_X5_lookOf_8_Ml nl ro ss lt mm pj i1) pj i2) + 1)), (6, .int ((f_X5_lookOf_26_v6 nl bk ro ss bo i1 mm (f_X5_lookOf_8_Ml nl ro ss lt mm pj i1) pj i2) + 0)), (9, .int (f_X5_canWave nl bk ro ss ((f_X5_lookOf_26_Ml nl ro ss mm (f_X5_lookOf_8_Ml nl ro ss lt mm pj i1) pj i2)) bo mm pj (nI i2))), (0, .ref aM), (1, .int (nI pj)), (2, .int (nI mm)), (3, .int ((f_X5_lookOf_8_p nl bk ro ss lt bo mm pj i1).1)), (4, .int ((f_X5_lookOf_8_p nl bk ro ss lt bo mm pj i1).2)), (5, .int (nI i1)), (8, .int (nI i2))]) hx hb dX5_lookOf_92 hl (by decide) rfl (fun ls hl => ?_)
                refine lv_iinc (v := nI (i2 + 1)) (lv' := [(8, .int (nI (i2 + 1))), (7, .int ((f_X5_lookOf_26_v7 nl bk ro ss bo i1 mm (f_X5_lookOf_8_Ml nl ro ss lt mm pj i1) pj i2) + 1)), (6, .int ((f_X5_lookOf_26_v6 nl bk ro ss bo i1 mm (f_X5_lookOf_8_Ml nl ro ss lt mm pj i1) pj i2) + 0)), (9, .int (f_X5_canWave nl bk ro ss ((f_X5_lookOf_26_Ml nl ro ss mm (f_X5_lookOf_8_Ml nl ro ss lt mm pj i1) pj i2)) bo mm pj (nI i2))), (0, .ref aM), (1, .int (nI pj)), (2, .int (nI mm)), (3, .int ((f_X5_lookOf_8_p nl bk ro ss lt bo mm pj i1).1)), (4, .int ((f_X5_lookOf_8_p nl bk ro ss lt bo mm pj i1).2)), (5, .int (nI i1))]) hx hb dX5_lookOf_94 hl (k := 9) rfl (nI_add i2 1) (by decide) rfl (fun ls hl => ?_)
                refine lv_goto (tgt := 26) hx hb dX5_lookOf_97 (by decide) ?_
                have e_v6 : (f_X5_lookOf_26_v6 nl bk ro ss bo i1 mm (f_X5_lookOf_8_Ml nl ro ss lt mm pj i1) pj (i2 + 1)) = ((f_X5_lookOf_26_v6 nl bk ro ss bo i1 mm (f_X5_lookOf_8_Ml nl ro ss lt mm pj i1) pj i2) + 0) := (by simp only [f_X5_lookOf_26_v6, if_neg c8, if_pos c9, if_pos c10])
                have e_v7 : (f_X5_lookOf_26_v7 nl bk ro ss bo i1 mm (f_X5_lookOf_8_Ml nl ro ss lt mm pj i1) pj (i2 + 1)) = ((f_X5_lookOf_26_v7 nl bk ro ss bo i1 mm (f_X5_lookOf_8_Ml nl ro ss lt mm pj i1) pj i2) + 1) := (by simp only [f_X5_lookOf_26_v7, if_neg c8, if_pos c9, if_pos c10])
                have e_Ml : (f_X5_lookOf_26_Ml nl ro ss mm (f_X5_lookOf_8_Ml nl ro ss lt mm pj i1) pj (i2 + 1)) = (f_X5_canWave_Ml nl ro ss ((f_X5_lookOf_26_Ml nl ro ss mm (f_X5_lookOf_8_Ml nl ro ss lt mm pj i1) pj i2)) mm pj (nI i2)) := (by simp only [f_X5_lookOf_26_Ml, if_neg c8, if_pos c9, if_pos c10])
                exact ih26 (i2 + 1) (by omega) _ _ (by rw [e_Ml]; exact hP) (by rw [e_Ml]; exact hD) hS ls (by rw [e_v6, e_v7]; exact lv_sub hl [4, 5, 6, 7, 8, 9, 2, 1, 0] rfl)
            · refine lv_iconst (v := 1) hx hb dX5_lookOf_61 (by decide) ?_
              refine lv_goto (tgt := 66) hx hb dX5_lookOf_62 (by decide) ?_
              refine lv_iadd hx hb dX5_lookOf_66 ?_
              refine lv_istore (lv' := [(6, .int ((f_X5_lookOf_26_v6 nl bk ro ss bo i1 mm (f_X5_lookOf_8_Ml nl ro ss lt mm pj i1) pj i2) + 1)), (9, .int (f_X5_canWave nl bk ro ss ((f_X5_lookOf_26_Ml nl ro ss mm (f_X5_lookOf_8_Ml nl ro ss lt mm pj i1) pj i2)) bo mm pj (nI i2))), (0, .ref aM), (1, .int (nI pj)), (2, .int (nI mm)), (3, .int ((f_X5_lookOf_8_p nl bk ro ss lt bo mm pj i1).1)), (4, .int ((f_X5_lookOf_8_p nl bk ro ss lt bo mm pj i1).2)), (5, .int (nI i1)), (7, .int ((f_X5_lookOf_26_v7 nl bk ro ss bo i1 mm (f_X5_lookOf_8_Ml nl ro ss lt mm pj i1) pj i2))), (8, .int (nI i2))]) hx hb dX5_lookOf_67 hl (by decide) rfl (fun ls hl => ?_)
              refine lv_iload hx hb dX5_lookOf_69 (lv_at hl 8 rfl) ?_
              refine lv_iload hx hb dX5_lookOf_71 (lv_at hl 1 rfl) ?_
              refine lv_if_eq (tgt := 90) hx hb dX5_lookOf_73 (by decide) (fun c => absurd c c8) (fun _ => ?_)
              refine lv_aload_n hx hb dX5_lookOf_76 rfl (lv_at hl 2 rfl) ?_
              refine va_get (D := D) (ci := 5) (v := .ref aMl) (C := RX5) (T := TX5) (N := 24) hx hb hts uX5 hown hK hP 0 rfl rfl 8 (by decide) w2 (fun _ h9 => h9) rfl dX5_lookOf_77 ?_
              refine lv_iload hx hb dX5_lookOf_80 (lv_at hl 7 rfl) ?_
              refine xald hx hb hK hP 3 rfl i1 rfl (by omega) (by decide) dX5_lookOf_82 ?_
              refine lv_if_ne (tgt := 90) hx hb dX5_lookOf_83 (by decide) (fun c11 => ?_) (fun c11 => ?_)
              · refine lv_iconst (v := 0) hx hb dX5_lookOf_90 (by decide) ?_
                refine lv_iadd hx hb dX5_lookOf_91 ?_
                refine lv_istore (lv' := [(7, .int ((f_X5_lookOf_26_v7 nl bk ro ss bo i1 mm (f_X5_lookOf_8_Ml nl ro ss lt mm pj i1) pj i2) + 0)), (6, .int ((f_X5_lookOf_26_v6 nl bk ro ss bo i1 mm (f_X5_lookOf_8_Ml nl ro ss lt mm pj i1) pj i2) + 1)), (9, .int (f_X5_canWave nl bk ro ss ((f_X5_lookOf_26_Ml nl ro ss mm (f_X5_lookOf_8_Ml nl ro ss lt mm pj i1) pj i2)) bo mm pj (nI i2))), (0, .ref aM), (1, .int (nI pj)), (2, .int (nI mm)), (3, .int ((f_X5_lookOf_8_p nl bk ro ss lt bo mm pj i1).1)), (4, .int ((f_X5_lookOf_8_p nl bk ro ss lt bo mm pj i1).2)), (5, .int (nI i1)), (8, .int (nI i2))]) hx hb dX5_lookOf_92 hl (by decide) rfl (fun ls hl => ?_)
                refine lv_iinc (v := nI (i2 + 1)) (lv' := [(8, .int (nI (i2 + 1))), (7, .int ((f_X5_lookOf_26_v7 nl bk ro ss bo i1 mm (f_X5_lookOf_8_Ml nl ro ss lt mm pj i1) pj i2) + 0)), (6, .int ((f_X5_lookOf_26_v6 nl bk ro ss bo i1 mm (f_X5_lookOf_8_Ml nl ro ss lt mm pj i1) pj i2) + 1)), (9, .int (f_X5_canWave nl bk ro ss ((f_X5_lookOf_26_Ml nl ro ss mm (f_X5_lookOf_8_Ml nl ro ss lt mm pj i1) pj i2)) bo mm pj (nI i2))), (0, .ref aM), (1, .int (nI pj)), (2, .int (nI mm)), (3, .int ((f_X5_lookOf_8_p nl bk ro ss lt bo mm pj i1).1)), (4, .int ((f_X5_lookOf_8_p nl bk ro ss lt bo mm pj i1).2)), (5, .int (nI i1))]) hx hb dX5_lookOf_94 hl (k := 9) rfl (nI_add i2 1) (by decide) rfl (fun ls hl => ?_)
                refine lv_goto (tgt := 26) hx hb dX5_lookOf_97 (by decide) ?_
                have e_v6 : (f_X5_lookOf_26_v6 nl bk ro ss bo i1 mm (f_X5_lookOf_8_Ml nl ro ss lt mm pj i1) pj (i2 + 1)) = ((f_X5_lookOf_26_v6 nl bk ro ss bo i1 mm (f_X5_lookOf_8_Ml nl ro ss lt mm pj i1) pj i2) + 1) := (by simp only [f_X5_lookOf_26_v6, if_neg c8, if_neg c9, if_neg c11])
                have e_v7 : (f_X5_lookOf_26_v7 nl bk ro ss bo i1 mm (f_X5_lookOf_8_Ml nl ro ss lt mm pj i1) pj (i2 + 1)) = ((f_X5_lookOf_26_v7 nl bk ro ss bo i1 mm (f_X5_lookOf_8_Ml nl ro ss lt mm pj i1) pj i2) + 0) := (by simp only [f_X5_lookOf_26_v7, if_neg c8, if_neg c9, if_neg c11])
                have e_Ml : (f_X5_lookOf_26_Ml nl ro ss mm (f_X5_lookOf_8_Ml nl ro ss lt mm pj i1) pj (i2 + 1)) = (f_X5_canWave_Ml nl ro ss ((f_X5_lookOf_26_Ml nl ro ss mm (f_X5_lookOf_8_Ml nl ro ss lt mm pj i1) pj i2)) mm pj (nI i2)) := (by simp only [f_X5_lookOf_26_Ml, if_neg c8, if_neg c9, if_neg c11])
                exact ih26 (i2 + 1) (by omega) _ _ (by rw [e_Ml]; exact hP) (by rw [e_Ml]; exact hD) hS ls (by rw [e_v6, e_v7]; exact lv_sub hl [4, 5, 6, 7, 8, 9, 2, 1, 0] rfl)
              · refine lv_iconst (v := 1) hx hb dX5_lookOf_86 (by decide) ?_
                refine lv_goto (tgt := 91) hx hb dX5_lookOf_87 (by decide) ?_
                refine lv_iadd hx hb dX5_lookOf_91 ?_
                refine lv_istore (lv' := [(7, .int ((f_X5_lookOf_26_v7 nl bk ro ss bo i1 mm (f_X5_lookOf_8_Ml nl ro ss lt mm pj i1) pj i2) + 1)), (6, .int ((f_X5_lookOf_26_v6 nl bk ro ss bo i1 mm (f_X5_lookOf_8_Ml nl ro ss lt mm pj i1) pj i2) + 1)), (9, .int (f_X5_canWave nl bk ro ss ((f_X5_lookOf_26_Ml nl ro ss mm (f_X5_lookOf_8_Ml nl ro ss lt mm pj i1) pj i2)) bo mm pj (nI i2))), (0, .ref aM), (1, .int (nI pj)), (2, .int (nI mm)), (3, .int ((f_X5_lookOf_8_p nl bk ro ss lt bo mm pj i1).1)), (4, .int ((f_X5_lookOf_8_p nl bk ro ss lt bo mm pj i1).2)), (5, .int (nI i1)), (8, .int (nI i2))]) hx hb dX5_lookOf_92 hl (by decide) rfl (fun ls hl => ?_)
                refine lv_iinc (v := nI (i2 + 1)) (lv' := [(8, .int (nI (i2 + 1))), (7, .int ((f_X5_lookOf_26_v7 nl bk ro ss bo i1 mm (f_X5_lookOf_8_Ml nl ro ss lt mm pj i1) pj i2) + 1)), (6, .int ((f_X5_lookOf_26_v6 nl bk ro ss bo i1 mm (f_X5_lookOf_8_Ml nl ro ss lt mm pj i1) pj i2) + 1)), (9, .int (f_X5_canWave nl bk ro ss ((f_X5_lookOf_26_Ml nl ro ss mm (f_X5_lookOf_8_Ml nl ro ss lt mm pj i1) pj i2)) bo mm pj (nI i2))), (0, .ref aM), (1, .int (nI pj)), (2, .int (nI mm)), (3, .int ((f_X5_lookOf_8_p nl bk ro ss lt bo mm pj i1).1)), (4, .int ((f_X5_lookOf_8_p nl bk ro ss lt bo mm pj i1).2)), (5, .int (nI i1))]) hx hb dX5_lookOf_94 hl (k := 9) rfl (nI_add i2 1) (by decide) rfl (fun ls hl => ?_)
                refine lv_goto (tgt := 26) hx hb dX5_lookOf_97 (by decide) ?_
                have e_v6 : (f_X5_lookOf_26_v6 nl bk ro ss bo i1 mm (f_X5_lookOf_8_Ml nl ro ss lt mm pj i1) pj (i2 + 1)) = ((f_X5_lookOf_26_v6 nl bk ro ss bo i1 mm (f_X5_lookOf_8_Ml nl ro ss lt mm pj i1) pj i2) + 1) := (by simp only [f_X5_lookOf_26_v6, if_neg c8, if_neg c9, if_pos c11])
                have e_v7 : (f_X5_lookOf_26_v7 nl bk ro ss bo i1 mm (f_X5_lookOf_8_Ml nl ro ss lt mm pj i1) pj (i2 + 1)) = ((f_X5_lookOf_26_v7 nl bk ro ss bo i1 mm (f_X5_lookOf_8_Ml nl ro ss lt mm pj i1) pj i2) + 1) := (by simp only [f_X5_lookOf_26_v7, if_neg c8, if_neg c9, if_pos c11])
                have e_Ml : (f_X5_lookOf_26_Ml nl ro ss mm (f_X5_lookOf_8_Ml nl ro ss lt mm pj i1) pj (i2 + 1)) = (f_X5_canWave_Ml nl ro ss ((f_X5_lookOf_26_Ml nl ro ss mm (f_X5_lookOf_8_Ml nl ro ss lt mm pj i1) pj i2)) mm pj (nI i2)) := (by simp only [f_X5_lookOf_26_Ml, if_neg c8, if_neg c9, if_pos c11])
                exact ih26 (i2 + 1) (by omega) _ _ (by rw [e_Ml]; exact hP) (by rw [e_Ml]; exact hD) hS ls (by rw [e_v6, e_v7]; exact lv_sub hl [4, 5, 6, 7, 8, 9, 2, 1, 0] rfl)
      exact lp26 (2 ^ mm) 0 (by omega) _ _ hP hD hS ls (lv_sub hl [3, 4, 5, 6, 7, 8, 2, 1, 0] rfl)
  exact lp8 nl 0 (by omega) _ _ hP hD hS ls (lv_sub hl [3, 4, 5, 2, 1, 0] rfl)

def rm_X5_look : Room := { frames := 4, cells := 0, slots := 0, locals := 101 }
def f_X5_look (nl : Nat) (pe : Nat) (bk : Nat) (ro : Nat → Int32) (ss : Nat → Int32) (lt : Nat → Int32) (bo : Nat → Int32) (many : Int32) (person : Int32) : Int32 := (if (f_X5_isPerson pe person) = 0 then (-101) else (if (f_X5_in (many.toInt64) 1 6) = 0 then (-102) else (f_X5_lookOf nl bk ro ss lt bo (many.toNatClampNeg) (person.toNatClampNeg))))
def f_X5_look_Ml (nl : Nat) (pe : Nat) (ro : Nat → Int32) (ss : Nat → Int32) (lt : Nat → Int32) (many : Int32) (person : Int32) : Nat → Int32 := (if (f_X5_isPerson pe person) = 0 then lt else (if (f_X5_in (many.toInt64) 1 6) = 0 then lt else (f_X5_lookOf_Ml nl ro ss lt (many.toNatClampNeg) (person.toNatClampNeg))))
theorem hd_X5_look : yX5_look.cls = RX5 ∧ yX5_look.cls ≠ "java/lang/invoke/MethodHandle" ∧ yX5_look.cls ≠ "java/lang/invoke/VarHandle" ∧ (parseMethodDescriptor yX5_look.desc).map (fun d => d.parameters.length) = some 2 := by decide +kernel
set_option maxHeartbeats 4000000 in
set_option maxRecDepth 100000 in
theorem c_X5_look (l : Launch) (D : va_G) (cI : ClassId) (aM aMp aMr aMs aMl aMg aMb aMo aMkr aMks aMkb : Nat) (ofr : Int32) (rd : Int32) (pl : Nat) (nl : Nat) (mi : Int32) (pe : Nat) (kmi : Int32) (kpe : Int32) (bc : Int32) (bk : Nat) (sd : Int32) (ko : Int32) (kbk : Int32) (ha : Int64) (ro : Nat → Int32) (ss : Nat → Int32) (lt : Nat → Int32) (bo : Nat → Int32) (many : Int32) (person : Int32) (hn : nl ≤ 6) (hpe : pe ≤ 4) (hbk : bk ≤ 8) (hbo : ∀ j, j < bk → vp_in (bo (3 * j + 1)) 6) : MetX l yX5_look wsX5_look rm_X5_look D cI [.ref aM, .int person, .int many] [(aM, .inr (5, [.ref aMp, .int (nI pl), .int (nI nl), .int mi, .int ofr, .ref aMr, .int (nI pe), .ref aMs, .ref aMl, .int bc, .int rd, .ref aMg, .ref aMb, .int (nI bk), .ref aMo, .int sd, .int ko, .int kpe, .int kmi, .int kbk, .ref aMkr, .ref aMks, .ref aMkb, .long ha])), (aMr, .inl (cI, 18, .inl ro)), (aMs, .inl (cI, 12, .inl ss)), (aMl, .inl (cI, 6, .inl lt)), (aMo, .inl (cI, 24, .inl bo))] (some (.int (f_X5_look nl pe bk ro ss lt bo many person))) [(aM, .inr (5, [.ref aMp, .int (nI pl), .int (nI nl), .int mi, .int ofr, .ref aMr, .int (nI pe), .ref aMs, .ref aMl, .int bc, .int rd, .ref aMg, .ref aMb, .int (nI bk), .ref aMo, .int sd, .int ko, .int kpe, .int kmi, .int kbk, .ref aMkr, .ref aMks, .ref aMkb, .long ha])), (aMr, .inl (cI, 18, .inl ro)), (aMs, .inl (cI, 12, .inl ss)), (aMl, .inl (cI, 6, .inl (f_X5_look_Ml nl pe ro ss lt many person))), (aMo, .inl (cI, 24, .inl bo))] := by
  refine mX (cc := cX5_look) (maxL := 3) (ret := (some .int)) (by decide) rfl (Nat.le_of_ble_eq_true rfl) ?_
  intro p e s m args below meth c Q A hx hb hr hml hown hts hlk hP hK hD hA hS hQ ls hl
  have hown : s.vm.findClass RX5 = some m.cls := hown
  have hl : lv_has ls 3 [(0, .ref aM), (1, .int person), (2, .int many)] := hl
  have w1 := hts (.constantLong RX5 164 (6)) (List.mem_of_getElem? (i := 1) rfl)
  refine lv_aload_n hx hb dX5_look_0 rfl (lv_at hl 0 rfl) ?_
  refine lv_iload_n hx hb dX5_look_1 rfl (lv_at hl 1 rfl) ?_
  refine rV ⟨hx, hb, hml, hown, hts⟩ (c_X5_isPerson l D cI aM aMp aMr aMs aMl aMg aMb aMo aMkr aMks aMkb ofr rd pl nl mi pe kmi kpe bc bk sd ko kbk ha person) (cwV 1 hts gX5_look_X5_isPerson rfl rfl rfl hd_X5_isPerson ⟨Nat.le_of_ble_eq_true rfl, Nat.le_of_ble_eq_true rfl⟩) hK (hP.sub [0] rfl) 0 rfl rfl rfl rfl hl.1 (rest := []) (st' := [.int (f_X5_isPerson pe person)]) rfl rfl (Nat.le_of_ble_eq_true rfl) dX5_look_2 ⟨Nat.zero_le _, Nat.zero_le _⟩ ?_
  refine lv_if_ne (tgt := 11) hx hb dX5_look_5 (by decide) (fun c1 => ?_) (fun c1 => ?_)
  · refine lv_iload_n hx hb dX5_look_11 rfl (lv_at hl 2 rfl) ?_
    refine lv_i2l (v := many.toInt64) hx hb dX5_look_12 rfl ?_
    refine lv_lconst (v := 1) hx hb dX5_look_13 (by decide) ?_
    refine lv_ldc2 (v := 6) hx hb hown w1 dX5_look_14 ?_
    refine rS ⟨hx, hb, hml, hown, hts⟩ (c_X5_in l D cI (many.toInt64) 1 6) (va_cwS 3 hts gX5_look_X5_in rfl rfl rfl hd_X5_in ⟨Nat.le_of_ble_eq_true rfl, Nat.le_of_ble_eq_true rfl⟩) hK (hP.sub [] rfl) rfl hl.1 (rest := []) (st' := [.int (f_X5_in (many.toInt64) 1 6)]) rfl rfl (Nat.le_of_ble_eq_true rfl) dX5_look_17 ⟨Nat.zero_le _, Nat.zero_le _⟩ ?_
    refine lv_if_eq (tgt := 32) hx hb dX5_look_20 (by decide) (fun c2 => ?_) (fun c2 => ?_)
    · refine lv_bipush (v := (-102)) hx hb dX5_look_32 (by decide) ?_
      have e_Ml : (f_X5_look_Ml nl pe ro ss lt many person) = lt := (by simp only [f_X5_look_Ml, if_neg c1, if_pos c2])
      exact eXi hx hb hr hlk hQ (by rw [e_Ml]; exact hP) (by rw [e_Ml]; exact hD) hS dX5_look_34 (Eq.symm (by simp only [f_X5_look, if_neg c1, if_pos c2]))
    · have hm1 := persM hpe c1
      have hm : person = nI person.toNatClampNeg := hm1.1
      have hm2 : person.toNatClampNeg < pe := hm1.2
      have hy1 := in_nat (v := many) (a := 1) (b := 6) rfl rfl (by decide) (by decide) c2
      refine lv_aload_n hx hb dX5_look_23 rfl (lv_at hl 0 rfl) ?_
      refine lv_iload_n hx hb dX5_look_24 rfl (lv_at hl 1 rfl) ?_
      refine tpi (y := nI (person.toNatClampNeg)) hm ?_
      refine lv_iload_n hx hb dX5_look_25 rfl (lv_at hl 2 rfl) ?_
      refine tpi (y := nI (many.toNatClampNeg)) hy1.1 ?_
      refine xV (w2 := [(aM, .inr (5, [.ref aMp, .int (nI pl), .int (nI nl), .int mi, .int ofr, .ref aMr, .int (nI pe), .ref aMs, .ref aMl, .int bc, .int rd, .ref aMg, .ref aMb, .int (nI bk), .ref aMo, .int sd, .int ko, .int kpe, .int kmi, .int kbk, .ref aMkr, .ref aMks, .ref aMkb, .long ha])), (aMr, .inl (cI, 18, .inl ro)), (aMs, .inl (cI, 12, .inl ss)), (aMl, .inl (cI, 6, .inl (f_X5_lookOf_Ml nl ro ss lt (many.toNatClampNeg) (person.toNatClampNeg)))), (aMo, .inl (cI, 24, .inl bo))]) ⟨hx, hb, hml, hown, hts⟩ (c_X5_lookOf l D cI aM aMp aMr aMs aMl aMg aMb aMo aMkr aMks aMkb ofr rd pl nl mi pe kmi kpe bc bk sd ko kbk ha ro ss lt bo (many.toNatClampNeg) (person.toNatClampNeg) hn hpe hbk hbo hm2 hy1.2.2) (cwV 2 hts gX5_look_X5_lookOf rfl rfl rfl hd_X5_lookOf ⟨Nat.le_of_ble_eq_true rfl, Nat.le_of_ble_eq_true rfl⟩) hK hP hD hS hA [0, 1, 2, 3, 4] [] [0, 1, 2, 3, 4] rfl rfl rfl rfl rfl (by decide) rfl rfl rfl 0 rfl rfl rfl rfl hl.1 (rest := []) (st' := [.int (f_X5_lookOf nl bk ro ss lt bo (many.toNatClampNeg) (person.toNatClampNeg))]) rfl rfl (Nat.le_of_ble_eq_true rfl) dX5_look_26 ⟨Nat.zero_le _, Nat.zero_le _⟩ (fun H locs hP hD hS => ?_)
      refine lv_goto (tgt := 34) hx hb dX5_look_29 (by decide) ?_
      have e_Ml : (f_X5_look_Ml nl pe ro ss lt many person) = (f_X5_lookOf_Ml nl ro ss lt (many.toNatClampNeg) (person.toNatClampNeg)) := (by simp only [f_X5_look_Ml, if_neg c1, if_neg c2])
      exact eXi hx hb hr hlk hQ (by rw [e_Ml]; exact hP) (by rw [e_Ml]; exact hD) hS dX5_look_34 (Eq.symm (by simp only [f_X5_look, if_neg c1, if_neg c2]))
  · refine lv_bipush (v := (-101)) hx hb dX5_look_8 (by decide) ?_
    have e_Ml : (f_X5_look_Ml nl pe ro ss lt many person) = lt := (by simp only [f_X5_look_Ml, if_pos c1])
    exact eXi hx hb hr hlk hQ (by rw [e_Ml]; exact hP) (by rw [e_Ml]; exact hD) hS dX5_look_10 (Eq.symm (by simp only [f_X5_look, if_pos c1]))

def rm_X5_draw : Room := { frames := 0, cells := 0, slots := 0, locals := 0 }
def f_X5_draw (sd : Int32) (of : Int32) : Int32 := (((((1103515245 * sd.toInt64) + 12345) &&& 2147483647).toInt32 / 65536) - ((((1103515245 * sd.toInt64) + 12345) &&& 2147483647).toInt32 / 65536) / of * of)
def f_X5_draw_M_15 (sd : Int32) : Int32 := (((1103515245 * sd.toInt64) + 12345) &&& 2147483647).toInt32
theorem hd_X5_draw : yX5_draw.cls = RX5 ∧ yX5_draw.cls ≠ "java/lang/invoke/MethodHandle" ∧ yX5_draw.cls ≠ "java/lang/invoke/VarHandle" ∧ (parseMethodDescriptor yX5_draw.desc).map (fun d => d.parameters.length) = some 1 := by decide +kernel
set_option maxHeartbeats 4000000 in
set_option maxRecDepth 100000 in
theorem c_X5_draw (l : Launch) (D : va_G) (cI : ClassId) (aM aMp aMr aMs aMl aMg aMb aMo aMkr aMks aMkb : Nat) (ofr : Int32) (rd : Int32) (pl : Nat) (nl : Nat) (mi : Int32) (pe : Nat) (kmi : Int32) (kpe : Int32) (bc : Int32) (bk : Nat) (sd : Int32) (ko : Int32) (kbk : Int32) (ha : Int64) (of : Int32) (hof : ¬ of = 0) : MetX l yX5_draw wsX5_draw rm_X5_draw D cI [.ref aM, .int of] [(aM, .inr (5, [.ref aMp, .int (nI pl), .int (nI nl), .int mi, .int ofr, .ref aMr, .int (nI pe), .ref aMs, .ref aMl, .int bc, .int rd, .ref aMg, .ref aMb, .int (nI bk), .ref aMo, .int sd, .int ko, .int kpe, .int kmi, .int kbk, .ref aMkr, .ref aMks, .ref aMkb, .long ha]))] (some (.int (f_X5_draw sd of))) [(aM, .inr (5, [.ref aMp, .int (nI pl), .int (nI nl), .int mi, .int ofr, .ref aMr, .int (nI pe), .ref aMs, .ref aMl, .int bc, .int rd, .ref aMg, .ref aMb, .int (nI bk), .ref aMo, .int (f_X5_draw_M_15 sd), .int ko, .int kpe, .int kmi, .int kbk, .ref aMkr, .ref aMks, .ref aMkb, .long ha]))] := by
  refine mX (cc := cX5_draw) (maxL := 2) (ret := (some .int)) (by decide) rfl (Nat.le_of_ble_eq_true rfl) ?_
  intro p e s m args below meth c Q A hx hb hr hml hown hts hlk hP hK hD hA hS hQ ls hl
  have hown : s.vm.findClass RX5 = some m.cls := hown
  have hl : lv_has ls 2 [(0, .ref aM), (1, .int of)] := hl
  have w1 := hts (.constantLong RX5 179 (1103515245)) (List.mem_of_getElem? (i := 1) rfl)
  have w2 := hts (.fieldLink RX5 181 "DarkOfficeModel" "seedNow" "I") (List.mem_of_getElem? (i := 2) rfl)
  have uX5 : ∀ w ∈ wsX50, w ∈ wsX5_draw := fun _ h => List.mem_cons_of_mem _ (List.mem_append_right _ h)
  have w3 := hts (.constantLong RX5 184 (12345)) (List.mem_of_getElem? (i := 3) rfl)
  have w4 := hts (.constantLong RX5 186 (2147483647)) (List.mem_of_getElem? (i := 4) rfl)
  have w5 := hts (.constant RX5 188 (65536)) (List.mem_of_getElem? (i := 5) rfl)
  refine lv_aload_n hx hb dX5_draw_0 rfl (lv_at hl 0 rfl) ?_
  refine lv_ldc2 (v := 1103515245) hx hb hown w1 dX5_draw_1 ?_
  refine lv_aload_n hx hb dX5_draw_4 rfl (lv_at hl 0 rfl) ?_
  refine va_get (D := D) (ci := 5) (v := .int sd) (C := RX5) (T := TX5) (N := 24) hx hb hts uX5 hown hK hP 0 rfl rfl 15 (by decide) w2 (fun _ h9 => h9) rfl dX5_draw_5 ?_
  refine lv_i2l (v := sd.toInt64) hx hb dX5_draw_8 rfl ?_
  refine lv_lmul hx hb dX5_draw_9 ?_
  refine lv_ldc2 (v := 12345) hx hb hown w3 dX5_draw_10 ?_
  refine lv_ladd hx hb dX5_draw_13 ?_
  refine lv_ldc2 (v := 2147483647) hx hb hown w4 dX5_draw_14 ?_
  refine lv_land hx hb dX5_draw_17 ?_
  refine lv_l2i (v := (((1103515245 * sd.toInt64) + 12345) &&& 2147483647).toInt32) hx hb dX5_draw_18 rfl ?_
  refine va_put (D := D) (ci := 5) (v := .int ((((1103515245 * sd.toInt64) + 12345) &&& 2147483647).toInt32)) (ty := .int) (C := RX5) (T := TX5) (N := 24) hx hb hts uX5 tyX5 tyX5_ok nmX5 hown hK hP hD hS 0 rfl rfl 15 (by decide) w2 (fun _ h9 => h9) rfl (by decide +kernel) rfl rfl (Nat.le_of_ble_eq_true rfl) dX5_draw_19 (fun H locs hP hD hS => ?_)
  have hP : va_P D vwCl [(aM, .inr (5, [.ref aMp, .int (nI pl), .int (nI nl), .int mi, .int ofr, .ref aMr, .int (nI pe), .ref aMs, .ref aMl, .int bc, .int rd, .ref aMg, .ref aMb, .int (nI bk), .ref aMo, .int ((((1103515245 * sd.toInt64) + 12345) &&& 2147483647).toInt32), .int ko, .int kpe, .int kmi, .int kbk, .ref aMkr, .ref aMks, .ref aMkb, .long ha]))] H := hP
  have hD : va_D A [(aM, .inr (5, [.ref aMp, .int (nI pl), .int (nI nl), .int mi, .int ofr, .ref aMr, .int (nI pe), .ref aMs, .ref aMl, .int bc, .int rd, .ref aMg, .ref aMb, .int (nI bk), .ref aMo, .int ((((1103515245 * sd.toInt64) + 12345) &&& 2147483647).toInt32), .int ko, .int kpe, .int kmi, .int kbk, .ref aMkr, .ref aMks, .ref aMkb, .long ha]))] := hD
  refine lv_aload_n hx hb dX5_draw_22 rfl (lv_at hl 0 rfl) ?_
  refine va_get (D := D) (ci := 5) (v := .int ((((1103515245 * sd.toInt64) + 12345) &&& 2147483647).toInt32)) (C := RX5) (T := TX5) (N := 24) hx hb hts uX5 hown hK hP 0 rfl rfl 15 (by decide) w2 (fun _ h9 => h9) rfl dX5_draw_23 ?_
  refine lv_ldc (v := 65536) hx hb hown w5 dX5_draw_26 ?_
  refine lv_idiv hx hb dX5_draw_28 (by decide) ?_
  refine lv_iload_n hx hb dX5_draw_29 rfl (lv_at hl 1 rfl) ?_
  refine lv_irem hx hb dX5_draw_30 hof ?_
  have e_M_15 : (f_X5_draw_M_15 sd) = (((1103515245 * sd.toInt64) + 12345) &&& 2147483647).toInt32 := (by simp only [f_X5_draw_M_15])
  exact eXi hx hb hr hlk hQ (by rw [e_M_15]; exact hP) (by rw [e_M_15]; exact hD) hS dX5_draw_31 (Eq.symm (by simp only [f_X5_draw]))

def rm_X5_nights : Room := { frames := 2, cells := 0, slots := 0, locals := 47 }
def f_X5_nights_68_M_15 (o56_M_15 : Int32) : Nat → Int32
  | 0 => o56_M_15
  | i2 + 1 => (f_X5_draw_M_15 ((f_X5_nights_68_M_15 o56_M_15 i2)))
def f_X5_nights_56_M_15 (pe : Nat) (seed : Int32) : Nat → Int32
  | 0 => seed
  | i1 + 1 => (f_X5_nights_68_M_15 (f_X5_nights_56_M_15 pe seed i1) pe)
def f_X5_nights_M_15 (nl : Nat) (pe : Nat) (sd : Int32) (many : Int32) (seed : Int32) (what : Int32) : Int32 := (if (f_X5_in (many.toInt64) 1 60) = 0 then sd else (if seed < 0 then sd else (if (f_X5_in (what.toInt64) 0 2) = 0 then sd else (if (f_X5_lacks nl) = 0 then (f_X5_nights_56_M_15 pe seed (many.toNatClampNeg)) else sd))))
def f_X5_nights_68_v6 (o56_M_15 : Int32) : Nat → Int32
  | 0 => 0
  | i2 + 1 => (if (f_X5_draw ((f_X5_nights_68_M_15 o56_M_15 i2)) 6) = 0 then ((f_X5_nights_68_v6 o56_M_15 i2) ||| ((1 : Int32) <<< (nI i2 &&& 31))) else ((f_X5_nights_68_v6 o56_M_15 i2) ||| 0))
def f_X5_nights_56_Ml (nl : Nat) (pe : Nat) (ro : Nat → Int32) (ss : Nat → Int32) (lt : Nat → Int32) (seed : Int32) : Nat → (Nat → Int32)
  | 0 => (f_X5_asItIs_Ml nl ro lt)
  | i1 + 1 => (f_X5_goesBy_Ml nl ro ((f_X5_nights_56_Ml nl pe ro ss lt seed i1)) (f_X5_sectionsOf pe ss ((f_X5_nights_68_v6 (f_X5_nights_56_M_15 pe seed i1) pe))))
def f_X5_nights_Ml (nl : Nat) (pe : Nat) (ro : Nat → Int32) (ss : Nat → Int32) (lt : Nat → Int32) (many : Int32) (seed : Int32) (what : Int32) : Nat → Int32 := (if (f_X5_in (many.toInt64) 1 60) = 0 then lt else (if seed < 0 then lt else (if (f_X5_in (what.toInt64) 0 2) = 0 then lt else (if (f_X5_lacks nl) = 0 then (f_X5_nights_56_Ml nl pe ro ss lt seed (many.toNatClampNeg)) else lt))))
def f_X5_nights_136_v5 (nl : Nat) (pe : Nat) (ro : Nat → Int32) (ss : Nat → Int32) (lt : Nat → Int32) (many : Int32) (seed : Int32) : Nat → Int32
  | 0 => 0
  | i3 + 1 => (if ((f_X5_nights_56_Ml nl pe ro ss lt seed (many.toNatClampNeg)) i3) ≤ 0 then ((f_X5_nights_136_v5 nl pe ro ss lt many seed i3) + 0) else ((f_X5_nights_136_v5 nl pe ro ss lt many seed i3) + 1))
def f_X5_nights_56_v4 (nl : Nat) (pe : Nat) (ro : Nat → Int32) (ss : Nat → Int32) (lt : Nat → Int32) (seed : Int32) : Nat → Int32
  | 0 => 0
  | i1 + 1 => ((f_X5_nights_56_v4 nl pe ro ss lt seed i1) + (f_X5_darkNow pe ss (f_X5_goesBy_Ml nl ro ((f_X5_nights_56_Ml nl pe ro ss lt seed i1)) (f_X5_sectionsOf pe ss ((f_X5_nights_68_v6 (f_X5_nights_56_M_15 pe seed i1) pe))))))
def f_X5_nights (nl : Nat) (pe : Nat) (ro : Nat → Int32) (ss : Nat → Int32) (lt : Nat → Int32) (many : Int32) (seed : Int32) (what : Int32) : Int32 := (if (f_X5_in (many.toInt64) 1 60) = 0 then (-102) else (if seed < 0 then (-102) else (if (f_X5_in (what.toInt64) 0 2) = 0 then (-102) else (if (f_X5_lacks nl) = 0 then (if what = 0 then (f_X5_nights_56_v4 nl pe ro ss lt seed (many.toNatClampNeg)) else (if what = 1 then (f_X5_nights_136_v5 nl pe ro ss lt many seed nl) else (f_X5_nights_56_M_15 pe seed (many.toNatClampNeg)))) else (-103)))))
theorem hd_X5_nights : yX5_nights.cls = RX5 ∧ yX5_nights.cls ≠ "java/lang/invoke/MethodHandle" ∧ yX5_nights.cls ≠ "java/lang/invoke/VarHandle" ∧ (parseMethodDescriptor yX5_nights.desc).map (fun d => d.parameters.length) = some 3 := by decide +kernel
set_option maxHeartbeats 4000000 in
set_option maxRecDepth 100000 in
theorem c_X5_nights (l : Launch) (D : va_G) (cI : ClassId) (aM aMp aMr aMs aMl aMg aMb aMo aMkr aMks aMkb : Nat) (ofr : Int32) (rd : Int32) (pl : Nat) (nl : Nat) (mi : Int32) (pe : Nat) (kmi : Int32) (kpe : Int32) (bc : Int32) (bk : Nat) (sd : Int32) (ko : Int32) (kbk : Int32) (ha : Int64) (ro : Nat → Int32) (ss : Nat → Int32) (lt : Nat → Int32) (many : Int32) (seed : Int32) (what : Int32) (hn : nl ≤ 6) (hpe : pe ≤ 4) (hss : ∀ j, j < pe → vp_in (ss (3 * j)) 6) : MetX l yX5_nights wsX5_nights rm_X5_nights D cI [.ref aM, .int many, .int seed, .int what] [(aM, .inr (5, [.ref aMp, .int (nI pl), .int (nI nl), .int mi, .int ofr, .ref aMr, .int (nI pe), .ref aMs, .ref aMl, .int bc, .int rd, .ref aMg, .ref aMb, .int (nI bk), .ref aMo, .int sd, .int ko, .int kpe, .int kmi, .int kbk, .ref aMkr, .ref aMks, .ref aMkb, .long ha])), (aMr, .inl (cI, 18, .inl ro)), (aMs, .inl (cI, 12, .inl ss)), (aMl, .inl (cI, 6, .inl lt))] (some (.int (f_X5_nights nl pe ro ss lt many seed what))) [(aM, .inr (5, [.ref aMp, .int (nI pl), .int (nI nl), .int mi, .int ofr, .ref aMr, .int (nI pe), .ref aMs, .ref aMl, .int bc, .int rd, .ref aMg, .ref aMb, .int (nI bk), .ref aMo, .int (f_X5_nights_M_15 nl pe sd many seed what), .int ko, .int kpe, .int kmi, .int kbk, .ref aMkr, .ref aMks, .ref aMkb, .long ha])), (aMr, .inl (cI, 18, .inl ro)), (aMs, .inl (cI, 12, .inl ss)), (aMl, .inl (cI, 6, .inl (f_X5_nights_Ml nl pe ro ss lt many seed what)))] := by
  refine mX (cc := cX5_nights) (maxL := 8) (ret := (some .int)) (by decide) rfl (Nat.le_of_ble_eq_true rfl) ?_
  intro p e s m args below meth c Q A hx hb hr hml hown hts hlk hP hK hD hA hS hQ ls hl
  have hown : s.vm.findClass RX5 = some m.cls := hown
  have hl : lv_has ls 8 [(0, .ref aM), (1, .int many), (2, .int seed), (3, .int what)] := hl
  have w1 := hts (.constantLong RX5 189 (60)) (List.mem_of_getElem? (i := 1) rfl)
  have w2 := hts (.constantLong RX5 191 (2)) (List.mem_of_getElem? (i := 2) rfl)
  have w3 := hts (.fieldLink RX5 181 "DarkOfficeModel" "seedNow" "I") (List.mem_of_getElem? (i := 3) rfl)
  have uX5 : ∀ w ∈ wsX50, w ∈ wsX5_nights := fun _ h => List.mem_cons_of_mem _ (List.mem_append_right _ h)
  have w5 := hts (.fieldLink RX5 67 "DarkOfficeModel" "lamps" "I") (List.mem_of_getElem? (i := 5) rfl)
  have w6 := hts (.fieldLink RX5 19 "DarkOfficeModel" "lit" "[I") (List.mem_of_getElem? (i := 6) rfl)
  have w4 := hts (.fieldLink RX5 73 "DarkOfficeModel" "people" "I") (List.mem_of_getElem? (i := 4) rfl)
  refine lv_iload_n hx hb dX5_nights_0 rfl (lv_at hl 1 rfl) ?_
  refine lv_i2l (v := many.toInt64) hx hb dX5_nights_1 rfl ?_
  refine lv_lconst (v := 1) hx hb dX5_nights_2 (by decide) ?_
  refine lv_ldc2 (v := 60) hx hb hown w1 dX5_nights_3 ?_
  refine rS ⟨hx, hb, hml, hown, hts⟩ (c_X5_in l D cI (many.toInt64) 1 60) (va_cwS 3 hts gX5_nights_X5_in rfl rfl rfl hd_X5_in ⟨Nat.le_of_ble_eq_true rfl, Nat.le_of_ble_eq_true rfl⟩) hK (hP.sub [] rfl) rfl hl.1 (rest := []) (st' := [.int (f_X5_in (many.toInt64) 1 60)]) rfl rfl (Nat.le_of_ble_eq_true rfl) dX5_nights_6 ⟨Nat.zero_le _, Nat.zero_le _⟩ ?_
  refine lv_if_eq (tgt := 28) hx hb dX5_nights_9 (by decide) (fun c1 => ?_) (fun c1 => ?_)
  · refine lv_bipush (v := (-102)) hx hb dX5_nights_28 (by decide) ?_
    have e_M_15 : (f_X5_nights_M_15 nl pe sd many seed what) = sd := (by simp only [f_X5_nights_M_15, if_pos c1])
    have e_Ml : (f_X5_nights_Ml nl pe ro ss lt many seed what) = lt := (by simp only [f_X5_nights_Ml, if_pos c1])
    exact eXi hx hb hr hlk hQ (by rw [e_M_15, e_Ml]; exact hP) (by rw [e_M_15, e_Ml]; exact hD) hS dX5_nights_30 (Eq.symm (by simp only [f_X5_nights, if_pos c1]))
  · refine lv_iload_n hx hb dX5_nights_12 rfl (lv_at hl 2 rfl) ?_
    refine lv_if_lt (tgt := 28) hx hb dX5_nights_13 (by decide) (fun c2 => ?_) (fun c2 => ?_)
    · refine lv_bipush (v := (-102)) hx hb dX5_nights_28 (by decide) ?_
      have e_M_15 : (f_X5_nights_M_15 nl pe sd many seed what) = sd := (by simp only [f_X5_nights_M_15, if_neg c1, if_pos c2])
      have e_Ml : (f_X5_nights_Ml nl pe ro ss lt many seed what) = lt := (by simp only [f_X5_nights_Ml, if_neg c1, if_pos c2])
      exact eXi hx hb hr hlk hQ (by rw [e_M_15, e_Ml]; exact hP) (by rw [e_M_15, e_Ml]; exact hD) hS dX5_nights_30 (Eq.symm (by simp only [f_X5_nights, if_neg c1, if_pos c2]))
    · refine lv_iload_n hx hb dX5_nights_16 rfl (lv_at hl 3 rfl) ?_
      refine lv_i2l (v := what.toInt64) hx hb dX5_nights_17 rfl ?_
      refine lv_lconst (v := 0) hx hb dX5_nights_18 (by decide) ?_
      refine lv_ldc2 (v := 2) hx hb hown w2 dX5_nights_19 ?_
      refine rS ⟨hx, hb, hml, hown, hts⟩ (c_X5_in l D cI (what.toInt64) 0 2) (va_cwS 3 hts gX5_nights_X5_in rfl rfl rfl hd_X5_in ⟨Nat.le_of_ble_eq_true rfl, Nat.le_of_ble_eq_true rfl⟩) hK (hP.sub [] rfl) rfl hl.1 (rest := []) (st' := [.int (f_X5_in (what.toInt64) 0 2)]) rfl rfl (Nat.le_of_ble_eq_true rfl) dX5_nights_22 ⟨Nat.zero_le _, Nat.zero_le _⟩ ?_
      refine lv_if_ne (tgt := 31) hx hb dX5_nights_25 (by decide) (fun c3 => ?_) (fun c3 => ?_)
      · refine lv_aload_n hx hb dX5_nights_31 rfl (lv_at hl 0 rfl) ?_
        refine rV ⟨hx, hb, hml, hown, hts⟩ (c_X5_lacks l D cI aM aMp aMr aMs aMl aMg aMb aMo aMkr aMks aMkb ofr rd pl nl mi pe kmi kpe bc bk sd ko kbk ha hn) (cwV 0 hts gX5_nights_X5_lacks rfl rfl rfl hd_X5_lacks ⟨Nat.le_of_ble_eq_true rfl, Nat.le_of_ble_eq_true rfl⟩) hK (hP.sub [0] rfl) 0 rfl rfl rfl rfl hl.1 (rest := []) (st' := [.int (f_X5_lacks nl)]) rfl rfl (Nat.le_of_ble_eq_true rfl) dX5_nights_32 ⟨Nat.zero_le _, Nat.zero_le _⟩ ?_
        refine lv_if_eq (tgt := 41) hx hb dX5_nights_35 (by decide) (fun c4 => ?_) (fun c4 => ?_)
        · have hm1 := in_nat (v := many) (a := 1) (b := 60) rfl rfl (by decide) (by decide) c1
          have hm : many = nI many.toNatClampNeg := hm1.1
          have hm2 : many.toNatClampNeg ≤ 60 := hm1.2.2
          refine lv_aload_n hx hb dX5_nights_41 rfl (lv_at hl 0 rfl) ?_
          refine xV (w2 := [(aM, .inr (5, [.ref aMp, .int (nI pl), .int (nI nl), .int mi, .int ofr, .ref aMr, .int (nI pe), .ref aMs, .ref aMl, .int bc, .int rd, .ref aMg, .ref aMb, .int (nI bk), .ref aMo, .int sd, .int ko, .int kpe, .int kmi, .int kbk, .ref aMkr, .ref aMks, .ref aMkb, .long ha])), (aMr, .inl (cI, 18, .inl ro)), (aMs, .inl (cI, 12, .inl ss)), (aMl, .inl (cI, 6, .inl (f_X5_asItIs_Ml nl ro lt)))]) ⟨hx, hb, hml, hown, hts⟩ (c_X5_asItIs l D cI aM aMp aMr aMs aMl aMg aMb aMo aMkr aMks aMkb ofr rd pl nl mi pe kmi kpe bc bk sd ko kbk ha ro lt hn) (cwV 0 hts gX5_nights_X5_asItIs rfl rfl rfl hd_X5_asItIs ⟨Nat.le_of_ble_eq_true rfl, Nat.le_of_ble_eq_true rfl⟩) hK hP hD hS hA [0, 1, 3] [2] [1, 2, 0, 3] rfl rfl rfl rfl rfl (by decide) rfl rfl rfl 0 rfl rfl rfl rfl hl.1 (rest := []) (st' := []) rfl rfl (Nat.le_of_ble_eq_true rfl) dX5_nights_42 ⟨Nat.zero_le _, Nat.zero_le _⟩ (fun H locs hP hD hS => ?_)
          refine lv_aload_n hx hb dX5_nights_45 rfl (lv_at hl 0 rfl) ?_
          refine lv_iload_n hx hb dX5_nights_46 rfl (lv_at hl 2 rfl) ?_
          refine va_put (D := D) (ci := 5) (v := .int seed) (ty := .int) (C := RX5) (T := TX5) (N := 24) hx hb hts uX5 tyX5 tyX5_ok nmX5 hown hK hP hD hS 0 rfl rfl 15 (by decide) w3 (fun _ h9 => h9) rfl (by decide +kernel) rfl rfl (Nat.le_of_ble_eq_true rfl) dX5_nights_47 (fun H locs hP hD hS => ?_)
          have hP : va_P D vwCl [(aM, .inr (5, [.ref aMp, .int (nI pl), .int (nI nl), .int mi, .int ofr, .ref aMr, .int (nI pe), .ref aMs, .ref aMl, .int bc, .int rd, .ref aMg, .ref aMb, .int (nI bk), .ref aMo, .int seed, .int ko, .int kpe, .int kmi, .int kbk, .ref aMkr, .ref aMks, .ref aMkb, .long ha])), (aMr, .inl (cI, 18, .inl ro)), (aMs, .inl (cI, 12, .inl ss)), (aMl, .inl (cI, 6, .inl (f_X5_asItIs_Ml nl ro lt)))] H := hP
          have hD : va_D A [(aM, .inr (5, [.ref aMp, .int (nI pl), .int (nI nl), .int mi, .int ofr, .ref aMr, .int (nI pe), .ref aMs, .ref aMl, .int bc, .int rd, .ref aMg, .ref aMb, .int (nI bk), .ref aMo, .int seed, .int ko, .int kpe, .int kmi, .int kbk, .ref aMkr, .ref aMks, .ref aMkb, .long ha])), (aMr, .inl (cI, 18, .inl ro)), (aMs, .inl (cI, 12, .inl ss)), (aMl, .inl (cI, 6, .inl (f_X5_asItIs_Ml nl ro lt)))] := hD
          refine lv_iconst (v := 0) hx hb dX5_nights_50 (by decide) ?_
          refine lv_istore (lv' := [(4, .int 0), (0, .ref aM), (1, .int many), (2, .int seed), (3, .int what)]) hx hb dX5_nights_51 hl (by decide) rfl (fun ls hl => ?_)
          refine lv_iconst (v := 0) hx hb dX5_nights_53 (by decide) ?_
          refine lv_istore (lv' := [(5, .int 0), (4, .int 0), (0, .ref aM), (1, .int many), (2, .int seed), (3, .int what)]) hx hb dX5_nights_54 hl (by decide) rfl (fun ls hl => ?_)
          have lp56 : ∀ (k56 i1 : Nat), i1 + k56 = many.toNatClampNeg → ∀ (H : Heap) (locs : List Loc), va_P D vwCl [(aM, .inr (5, [.ref aMp, .int (nI pl), .int (nI nl), .int mi, .int ofr, .ref aMr, .int (nI pe), .ref aMs, .ref aMl, .int bc, .int rd, .ref aMg, .ref aMb, .int (nI bk), .ref aMo, .int ((f_X5_nights_56_M_15 pe seed i1)), .int ko, .int kpe, .int kmi, .int kbk, .ref aMkr, .ref aMks, .ref aMkb, .long ha])), (aMr, .inl (cI, 18, .inl ro)), (aMs, .inl (cI, 12, .inl ss)), (aMl, .inl (cI, 6, .inl ((f_X5_nights_56_Ml nl pe ro ss lt seed i1))))] H → va_D A [(aM, .inr (5, [.ref aMp, .int (nI pl), .int (nI nl), .int mi, .int ofr, .ref aMr, .int (nI pe), .ref aMs, .ref aMl, .int bc, .int rd, .ref aMg, .ref aMb, .int (nI bk), .ref aMo, .int ((f_X5_nights_56_M_15 pe seed i1)), .int ko, .int kpe, .int kmi, .int kbk, .ref aMkr, .ref aMks, .ref aMkb, .long ha])), (aMr, .inl (cI, 18, .inl ro)), (aMs, .inl (cI, 12, .inl ss)), (aMl, .inl (cI, 6, .inl ((f_X5_nights_56_Ml nl pe ro ss lt seed i1))))] → va_S A s.heap H locs → ∀ ls : Array Slot, lv_has ls 8 [(0, .ref aM), (1, .int many), (3, .int what), (4, .int ((f_X5_nights_56_v4 nl pe ro ss lt seed i1))), (5, .int (nI i1))] → W p l e rm_X5_nights s m args below meth c H locs 0 0 Q (F0 m 56 ls []) := by
            intro k56
            induction k56 with
            | zero =>
              intro i1 hk56 H locs hP hD hS ls hl
              have hN56 : many.toNatClampNeg = i1 := by omega
              subst hN56
              refine lv_iload hx hb dX5_nights_56 (lv_at hl 4 rfl) ?_
              refine lv_iload_n hx hb dX5_nights_58 rfl (lv_at hl 1 rfl) ?_
              refine tpi (y := nI (many.toNatClampNeg)) hm ?_
              refine lv_icmp_ge (tgt := 130) hx hb dX5_nights_59 (by decide) (fun _ => ?_) (fun c => absurd (nle_t (a := many.toNatClampNeg) (b := (many.toNatClampNeg)) rfl rfl (by omega) (by omega) (by omega)) c)
              refine lv_iconst (v := 0) hx hb dX5_nights_130 (by decide) ?_
              refine lv_istore (lv' := [(5, .int 0), (0, .ref aM), (1, .int many), (3, .int what), (4, .int ((f_X5_nights_56_v4 nl pe ro ss lt seed (many.toNatClampNeg))))]) hx hb dX5_nights_131 hl (by decide) rfl (fun ls hl => ?_)
              refine lv_iconst (v := 0) hx hb dX5_nights_133 (by decide) ?_
              refine lv_istore (lv' := [(6, .int 0), (5, .int 0), (0, .ref aM), (1, .int many), (3, .int what), (4, .int ((f_X5_nights_56_v4 nl pe ro ss lt seed (many.toNatClampNeg))))]) hx hb dX5_nights_134 hl (by decide) rfl (fun ls hl => ?_)
              have lp136 : ∀ (k136 i3 : Nat), i3 + k136 = nl → ∀ (H : Heap) (locs : List Loc), va_P D vwCl [(aM, .inr (5, [.ref aMp, .int (nI pl), .int (nI nl), .int mi, .int ofr, .ref aMr, .int (nI pe), .ref aMs, .ref aMl, .int bc, .int rd, .ref aMg, .ref aMb, .int (nI bk), .ref aMo, .int ((f_X5_nights_56_M_15 pe seed (many.toNatClampNeg))), .int ko, .int kpe, .int kmi, .int kbk, .ref aMkr, .ref aMks, .ref aMkb, .long ha])), (aMr, .inl (cI, 18, .inl ro)), (aMs, .inl (cI, 12, .inl ss)), (aMl, .inl (cI, 6, .inl ((f_X5_nights_56_Ml nl pe ro ss lt seed (many.toNatClampNeg)))))] H → va_D A [(aM, .inr (5, [.ref aMp, .int (nI pl), .int (nI nl), .int mi, .int ofr, .ref aMr, .int (nI pe), .ref aMs, .ref aMl, .int bc, .int rd, .ref aMg, .ref aMb, .int (nI bk), .ref aMo, .int ((f_X5_nights_56_M_15 pe seed (many.toNatClampNeg))), .int ko, .int kpe, .int kmi, .int kbk, .ref aMkr, .ref aMks, .ref aMkb, .long ha])), (aMr, .inl (cI, 18, .inl ro)), (aMs, .inl (cI, 12, .inl ss)), (aMl, .inl (cI, 6, .inl ((f_X5_nights_56_Ml nl pe ro ss lt seed (many.toNatClampNeg)))))] → va_S A s.heap H locs → ∀ ls : Array Slot, lv_has ls 8 [(0, .ref aM), (3, .int what), (4, .int ((f_X5_nights_56_v4 nl pe ro ss lt seed (many.toNatClampNeg)))), (5, .int ((f_X5_nights_136_v5 nl pe ro ss lt many seed i3))), (6, .int (nI i3))] → W p l e rm_X5_nights s m args below meth c H locs 0 0 Q (F0 m 136 ls []) := by
                intro k136
                induction k136 with
                | zero =>
                  intro i3 hk136 H locs hP hD hS ls hl
                  have hN136 : nl = i3 := by omega
                  subst hN136
                  refine lv_iload hx hb dX5_nights_136 (lv_at hl 4 rfl) ?_
                  refine lv_aload_n hx hb dX5_nights_138 rfl (lv_at hl 0 rfl) ?_
                  refine va_get (D := D) (ci := 5) (v := .int (nI nl)) (C := RX5) (T := TX5) (N := 24) hx hb hts uX5 hown hK hP 0 rfl rfl 2 (by decide) w5 (fun _ h9 => h9) rfl dX5_nights_139 ?_
                  refine lv_icmp_ge (tgt := 171) hx hb dX5_nights_142 (by decide) (fun _ => ?_) (fun c => absurd (nle_t (a := nl) (b := nl) rfl rfl (by omega) (by omega) (by omega)) c)
                  refine lv_iload_n hx hb dX5_nights_171 rfl (lv_at hl 1 rfl) ?_
                  refine lv_if_ne (tgt := 180) hx hb dX5_nights_172 (by decide) (fun c5 => ?_) (fun c5 => ?_)
                  · refine lv_iload_n hx hb dX5_nights_180 rfl (lv_at hl 1 rfl) ?_
                    refine lv_iconst (v := 1) hx hb dX5_nights_181 (by decide) ?_
                    refine lv_icmp_ne (tgt := 190) hx hb dX5_nights_182 (by decide) (fun c6 => ?_) (fun c6 => ?_)
                    · refine lv_aload_n hx hb dX5_nights_190 rfl (lv_at hl 0 rfl) ?_
                      refine va_get (D := D) (ci := 5) (v := .int ((f_X5_nights_56_M_15 pe seed (many.toNatClampNeg)))) (C := RX5) (T := TX5) (N := 24) hx hb hts uX5 hown hK hP 0 rfl rfl 15 (by decide) w3 (fun _ h9 => h9) rfl dX5_nights_191 ?_
                      have e_M_15 : (f_X5_nights_M_15 nl pe sd many seed what) = (f_X5_nights_56_M_15 pe seed (many.toNatClampNeg)) := (by simp only [f_X5_nights_M_15, if_neg c1, if_neg c2, if_neg c3, if_pos c4, if_neg c5, if_neg c6])
                      have e_Ml : (f_X5_nights_Ml nl pe ro ss lt many seed what) = (f_X5_nights_56_Ml nl pe ro ss lt seed (many.toNatClampNeg)) := (by simp only [f_X5_nights_Ml, if_neg c1, if_neg c2, if_neg c3, if_pos c4, if_neg c5, if_neg c6])
                      exact eXi hx hb hr hlk hQ (by rw [e_M_15, e_Ml]; exact hP) (by rw [e_M_15, e_Ml]; exact hD) hS dX5_nights_194 (Eq.symm (by simp only [f_X5_nights, if_neg c1, if_neg c2, if_neg c3, if_pos c4, if_neg c5, if_neg c6]))
                    · refine lv_iload hx hb dX5_nights_185 (lv_at hl 3 rfl) ?_
                      refine lv_goto (tgt := 194) hx hb dX5_nights_187 (by decide) ?_
                      have e_M_15 : (f_X5_nights_M_15 nl pe sd many seed what) = (f_X5_nights_56_M_15 pe seed (many.toNatClampNeg)) := (by simp only [f_X5_nights_M_15, if_neg c1, if_neg c2, if_neg c3, if_pos c4, if_neg c5, if_pos c6])
                      have e_Ml : (f_X5_nights_Ml nl pe ro ss lt many seed what) = (f_X5_nights_56_Ml nl pe ro ss lt seed (many.toNatClampNeg)) := (by simp only [f_X5_nights_Ml, if_neg c1, if_neg c2, if_neg c3, if_pos c4, if_neg c5, if_pos c6])
                      exact eXi hx hb hr hlk hQ (by rw [e_M_15, e_Ml]; exact hP) (by rw [e_M_15, e_Ml]; exact hD) hS dX5_nights_194 (Eq.symm (by simp only [f_X5_nights, if_neg c1, if_neg c2, if_neg c3, if_pos c4, if_neg c5, if_pos c6]))
                  · refine lv_iload hx hb dX5_nights_175 (lv_at hl 2 rfl) ?_
                    refine lv_goto (tgt := 194) hx hb dX5_nights_177 (by decide) ?_
                    have e_M_15 : (f_X5_nights_M_15 nl pe sd many seed what) = (f_X5_nights_56_M_15 pe seed (many.toNatClampNeg)) := (by simp only [f_X5_nights_M_15, if_neg c1, if_neg c2, if_neg c3, if_pos c4, if_pos c5])
                    have e_Ml : (f_X5_nights_Ml nl pe ro ss lt many seed what) = (f_X5_nights_56_Ml nl pe ro ss lt seed (many.toNatClampNeg)) := (by simp only [f_X5_nights_Ml, if_neg c1, if_neg c2, if_neg c3, if_pos c4, if_pos c5])
                    exact eXi hx hb hr hlk hQ (by rw [e_M_15, e_Ml]; exact hP) (by rw [e_M_15, e_Ml]; exact hD) hS dX5_nights_194 (Eq.symm (by simp only [f_X5_nights, if_neg c1, if_neg c2, if_neg c3, if_pos c4, if_pos c5]))
                | succ k136 ih136 =>
                  intro i3 hk136 H locs hP hD hS ls hl
                  refine lv_iload hx hb dX5_nights_136 (lv_at hl 4 rfl) ?_
                  refine lv_aload_n hx hb dX5_nights_138 rfl (lv_at hl 0 rfl) ?_
                  refine va_get (D := D) (ci := 5) (v := .int (nI nl)) (C := RX5) (T := TX5) (N := 24) hx hb hts uX5 hown hK hP 0 rfl rfl 2 (by decide) w5 (fun _ h9 => h9) rfl dX5_nights_139 ?_
                  refine lv_icmp_ge (tgt := 171) hx hb dX5_nights_142 (by decide) (fun c => absurd c (nle_f (a := nl) (b := i3) rfl rfl (by omega) (by omega) (by omega))) (fun _ => ?_)
                  refine lv_iload hx hb dX5_nights_145 (lv_at hl 3 rfl) ?_
                  refine lv_aload_n hx hb dX5_nights_147 rfl (lv_at hl 0 rfl) ?_
                  refine va_get (D := D) (ci := 5) (v := .ref aMl) (C := RX5) (T := TX5) (N := 24) hx hb hts uX5 hown hK hP 0 rfl rfl 8 (by decide) w6 (fun _ h9 => h9) rfl dX5_nights_148 ?_
                  refine lv_iload hx hb dX5_nights_151 (lv_at hl 4 rfl) ?_
                  refine xald hx hb hK hP 3 rfl i3 rfl (by omega) (by decide) dX5_nights_153 ?_
                  refine lv_if_le (tgt := 161) hx hb dX5_nights_154 (by decide) (fun c7 => ?_) (fun c7 => ?_)
                  · refine lv_iconst (v := 0) hx hb dX5_nights_161 (by decide) ?_
                    refine lv_iadd hx hb dX5_nights_162 ?_
                    refine lv_istore (lv' := [(5, .int ((f_X5_nights_136_v5 nl pe ro ss lt many seed i3) + 0)), (0, .ref aM), (3, .int what), (4, .int ((f_X5_nights_56_v4 nl pe ro ss lt seed (many.toNatClampNeg)))), (6, .int (nI i3))]) hx hb dX5_nights_163 hl (by decide) rfl (fun ls hl => ?_)
                    refine lv_iinc (v := nI (i3 + 1)) (lv' := [(6, .int (nI (i3 + 1))), (5, .int ((f_X5_nights_136_v5 nl pe ro ss lt many seed i3) + 0)), (0, .ref aM), (3, .int what), (4, .int ((f_X5_nights_56_v4 nl pe ro ss lt seed (many.toNatClampNeg))))]) hx hb dX5_nights_165 hl (k := 4) rfl (nI_add i3 1) (by decide) rfl (fun ls hl => ?_)
                    refine lv_goto (tgt := 136) hx hb dX5_nights_168 (by decide) ?_
                    have e_v5 : (f_X5_nights_136_v5 nl pe ro ss lt many seed (i3 + 1)) = ((f_X5_nights_136_v5 nl pe ro ss lt many seed i3) + 0) := (by simp only [f_X5_nights_136_v5, if_pos c7])
                    exact ih136 (i3 + 1) (by omega) _ _ (hP) (hD) hS ls (by rw [e_v5]; exact lv_sub hl [2, 3, 4, 1, 0] rfl)
                  · refine lv_iconst (v := 1) hx hb dX5_nights_157 (by decide) ?_
                    refine lv_goto (tgt := 162) hx hb dX5_nights_158 (by decide) ?_
                    refine lv_iadd hx hb dX5_nights_162 ?_
                    refine lv_istore (lv' := [(5, .int ((f_X5_nights_136_v5 nl pe ro ss lt many seed i3) + 1)), (0, .ref aM), (3, .int what), (4, .int ((f_X5_nights_56_v4 nl pe ro ss lt seed (many.toNatClampNeg)))), (6, .int (nI i3))]) hx hb dX5_nights_163 hl (by decide) rfl (fun ls hl => ?_)
                    refine lv_iinc (v := nI (i3 + 1)) (lv' := [(6, .int (nI (i3 + 1))), (5, .int ((f_X5_nights_136_v5 nl pe ro ss lt many seed i3) + 1)), (0, .ref aM), (3, .int what), (4, .int ((f_X5_nights_56_v4 nl pe ro ss lt seed (many.toNatClampNeg))))]) hx hb dX5_nights_165 hl (k := 4) rfl (nI_add i3 1) (by decide) rfl (fun ls hl => ?_)
                    refine lv_goto (tgt := 136) hx hb dX5_nights_168 (by decide) ?_
                    have e_v5 : (f_X5_nights_136_v5 nl pe ro ss lt many seed (i3 + 1)) = ((f_X5_nights_136_v5 nl pe ro ss lt many seed i3) + 1) := (by simp only [f_X5_nights_136_v5, if_neg c7])
                    exact ih136 (i3 + 1) (by omega) _ _ (hP) (hD) hS ls (by rw [e_v5]; exact lv_sub hl [2, 3, 4, 1, 0] rfl)
              exact lp136 nl 0 (by omega) _ _ hP hD hS ls (lv_sub hl [2, 4, 5, 1, 0] rfl)
            | succ k56 ih56 =>
              intro i1 hk56 H locs hP hD hS ls hl
              refine lv_iload hx hb dX5_nights_56 (lv_at hl 4 rfl) ?_
              refine lv_iload_n hx hb dX5_nights_58 rfl (lv_at hl 1 rfl) ?_
              refine tpi (y := nI (many.toNatClampNeg)) hm ?_
              refine lv_icmp_ge (tgt := 130) hx hb dX5_nights_59 (by decide) (fun c => absurd c (nle_f (a := many.toNatClampNeg) (b := i1) rfl rfl (by omega) (by omega) (by omega))) (fun _ => ?_)
              refine lv_iconst (v := 0) hx hb dX5_nights_62 (by decide) ?_
              refine lv_istore (lv' := [(6, .int 0), (0, .ref aM), (1, .int many), (3, .int what), (4, .int ((f_X5_nights_56_v4 nl pe ro ss lt seed i1))), (5, .int (nI i1))]) hx hb dX5_nights_63 hl (by decide) rfl (fun ls hl => ?_)
              refine lv_iconst (v := 0) hx hb dX5_nights_65 (by decide) ?_
              refine lv_istore (lv' := [(7, .int 0), (6, .int 0), (0, .ref aM), (1, .int many), (3, .int what), (4, .int ((f_X5_nights_56_v4 nl pe ro ss lt seed i1))), (5, .int (nI i1))]) hx hb dX5_nights_66 hl (by decide) rfl (fun ls hl => ?_)
              have lp68 : ∀ (k68 i2 : Nat), i2 + k68 = pe → ∀ (H : Heap) (locs : List Loc), va_P D vwCl [(aM, .inr (5, [.ref aMp, .int (nI pl), .int (nI nl), .int mi, .int ofr, .ref aMr, .int (nI pe), .ref aMs, .ref aMl, .int bc, .int rd, .ref aMg, .ref aMb, .int (nI bk), .ref aMo, .int ((f_X5_nights_68_M_15 (f_X5_nights_56_M_15 pe seed i1) i2)), .int ko, .int kpe, .int kmi, .int kbk, .ref aMkr, .ref aMks, .ref aMkb, .long ha])), (aMr, .inl (cI, 18, .inl ro)), (aMs, .inl (cI, 12, .inl ss)), (aMl, .inl (cI, 6, .inl ((f_X5_nights_56_Ml nl pe ro ss lt seed i1))))] H → va_D A [(aM, .inr (5, [.ref aMp, .int (nI pl), .int (nI nl), .int mi, .int ofr, .ref aMr, .int (nI pe), .ref aMs, .ref aMl, .int bc, .int rd, .ref aMg, .ref aMb, .int (nI bk), .ref aMo, .int ((f_X5_nights_68_M_15 (f_X5_nights_56_M_15 pe seed i1) i2)), .int ko, .int kpe, .int kmi, .int kbk, .ref aMkr, .ref aMks, .ref aMkb, .long ha])), (aMr, .inl (cI, 18, .inl ro)), (aMs, .inl (cI, 12, .inl ss)), (aMl, .inl (cI, 6, .inl ((f_X5_nights_56_Ml nl pe ro ss lt seed i1))))] → va_S A s.heap H locs → ∀ ls : Array Slot, lv_has ls 8 [(0, .ref aM), (1, .int many), (3, .int what), (4, .int ((f_X5_nights_56_v4 nl pe ro ss lt seed i1))), (5, .int (nI i1)), (6, .int ((f_X5_nights_68_v6 (f_X5_nights_56_M_15 pe seed i1) i2))), (7, .int (nI i2))] → W p l e rm_X5_nights s m args below meth c H locs 0 0 Q (F0 m 68 ls []) := by
                intro k68
                induction k68 with
                | zero =>
                  intro i2 hk68 H locs hP hD hS ls hl
                  have hN68 : pe = i2 := by omega
                  subst hN68
                  refine lv_iload hx hb dX5_nights_68 (lv_at hl 6 rfl) ?_
                  refine lv_aload_n hx hb dX5_nights_70 rfl (lv_at hl 0 rfl) ?_
                  refine va_get (D := D) (ci := 5) (v := .int (nI pe)) (C := RX5) (T := TX5) (N := 24) hx hb hts uX5 hown hK hP 0 rfl rfl 6 (by decide) w4 (fun _ h9 => h9) rfl dX5_nights_71 ?_
                  refine lv_icmp_ge (tgt := 105) hx hb dX5_nights_74 (by decide) (fun _ => ?_) (fun c => absurd (nle_t (a := pe) (b := pe) rfl rfl (by omega) (by omega) (by omega)) c)
                  refine lv_aload_n hx hb dX5_nights_105 rfl (lv_at hl 0 rfl) ?_
                  refine lv_aload_n hx hb dX5_nights_106 rfl (lv_at hl 0 rfl) ?_
                  refine lv_iload hx hb dX5_nights_107 (lv_at hl 5 rfl) ?_
                  refine rV ⟨hx, hb, hml, hown, hts⟩ (c_X5_sectionsOf l D cI aM aMp aMr aMs aMl aMg aMb aMo aMkr aMks aMkb ofr rd pl nl mi pe kmi kpe bc bk ((f_X5_nights_68_M_15 (f_X5_nights_56_M_15 pe seed i1) pe)) ko kbk ha ss ((f_X5_nights_68_v6 (f_X5_nights_56_M_15 pe seed i1) pe)) hpe) (cwV 1 hts gX5_nights_X5_sectionsOf rfl rfl rfl hd_X5_sectionsOf ⟨Nat.le_of_ble_eq_true rfl, Nat.le_of_ble_eq_true rfl⟩) hK (hP.sub [0, 2] rfl) 0 rfl rfl rfl rfl hl.1 (rest := [.ref aM]) (st' := [.int (f_X5_sectionsOf pe ss ((f_X5_nights_68_v6 (f_X5_nights_56_M_15 pe seed i1) pe))), .ref aM]) rfl rfl (Nat.le_of_ble_eq_true rfl) dX5_nights_109 ⟨Nat.zero_le _, Nat.zero_le _⟩ ?_
                  refine xV (w2 := [(aM, .inr (5, [.ref aMp, .int (nI pl), .int (nI nl), .int mi, .int ofr, .ref aMr, .int (nI pe), .ref aMs, .ref aMl, .int bc, .int rd, .ref aMg, .ref aMb, .int (nI bk), .ref aMo, .int ((f_X5_nights_68_M_15 (f_X5_nights_56_M_15 pe seed i1) pe)), .int ko, .int kpe, .int kmi, .int kbk, .ref aMkr, .ref aMks, .ref aMkb, .long ha])), (aMr, .inl (cI, 18, .inl ro)), (aMs, .inl (cI, 12, .inl ss)), (aMl, .inl (cI, 6, .inl (f_X5_goesBy_Ml nl ro ((f_X5_nights_56_Ml nl pe ro ss lt seed i1)) (f_X5_sectionsOf pe ss ((f_X5_nights_68_v6 (f_X5_nights_56_M_15 pe seed i1) pe))))))]) ⟨hx, hb, hml, hown, hts⟩ (c_X5_goesBy l D cI aM aMp aMr aMs aMl aMg aMb aMo aMkr aMks aMkb ofr rd pl nl mi pe kmi kpe bc bk ((f_X5_nights_68_M_15 (f_X5_nights_56_M_15 pe seed i1) pe)) ko kbk ha ro ((f_X5_nights_56_Ml nl pe ro ss lt seed i1)) (f_X5_sectionsOf pe ss ((f_X5_nights_68_v6 (f_X5_nights_56_M_15 pe seed i1) pe))) hn) (cwV 1 hts gX5_nights_X5_goesBy rfl rfl rfl hd_X5_goesBy ⟨Nat.le_of_ble_eq_true rfl, Nat.le_of_ble_eq_true rfl⟩) hK hP hD hS hA [0, 1, 3] [2] [1, 2, 0, 3] rfl rfl rfl rfl rfl (by decide) rfl rfl rfl 0 rfl rfl rfl rfl hl.1 (rest := []) (st' := []) rfl rfl (Nat.le_of_ble_eq_true rfl) dX5_nights_112 ⟨Nat.zero_le _, Nat.zero_le _⟩ (fun H locs hP hD hS => ?_)
                  refine lv_iload hx hb dX5_nights_115 (lv_at hl 3 rfl) ?_
                  refine lv_aload_n hx hb dX5_nights_117 rfl (lv_at hl 0 rfl) ?_
                  refine rV ⟨hx, hb, hml, hown, hts⟩ (c_X5_darkNow l D cI aM aMp aMr aMs aMl aMg aMb aMo aMkr aMks aMkb ofr rd pl nl mi pe kmi kpe bc bk ((f_X5_nights_68_M_15 (f_X5_nights_56_M_15 pe seed i1) pe)) ko kbk ha ss (f_X5_goesBy_Ml nl ro ((f_X5_nights_56_Ml nl pe ro ss lt seed i1)) (f_X5_sectionsOf pe ss ((f_X5_nights_68_v6 (f_X5_nights_56_M_15 pe seed i1) pe)))) hpe hss) (cwV 0 hts gX5_nights_X5_darkNow rfl rfl rfl hd_X5_darkNow ⟨Nat.le_of_ble_eq_true rfl, Nat.le_of_ble_eq_true rfl⟩) hK (hP.sub [0, 2, 3] rfl) 0 rfl rfl rfl rfl hl.1 (rest := [.int ((f_X5_nights_56_v4 nl pe ro ss lt seed i1))]) (st' := [.int (f_X5_darkNow pe ss (f_X5_goesBy_Ml nl ro ((f_X5_nights_56_Ml nl pe ro ss lt seed i1)) (f_X5_sectionsOf pe ss ((f_X5_nights_68_v6 (f_X5_nights_56_M_15 pe seed i1) pe))))), .int ((f_X5_nights_56_v4 nl pe ro ss lt seed i1))]) rfl rfl (Nat.le_of_ble_eq_true rfl) dX5_nights_118 ⟨Nat.zero_le _, Nat.zero_le _⟩ ?_
                  refine lv_iadd hx hb dX5_nights_121 ?_
                  refine lv_istore (lv' := [(4, .int ((f_X5_nights_56_v4 nl pe ro ss lt seed i1) + (f_X5_darkNow pe ss (f_X5_goesBy_Ml nl ro ((f_X5_nights_56_Ml nl pe ro ss lt seed i1)) (f_X5_sectionsOf pe ss ((f_X5_nights_68_v6 (f_X5_nights_56_M_15 pe seed i1) pe))))))), (0, .ref aM), (1, .int many), (3, .int what), (5, .int (nI i1)), (6, .int ((f_X5_nights_68_v6 (f_X5_nights_56_M_15 pe seed i1) pe))), (7, .int (nI pe))]) hx hb dX5_nights_122 hl (by decide) rfl (fun ls hl => ?_)
                  refine lv_iinc (v := nI (i1 + 1)) (lv' := [(5, .int (nI (i1 + 1))), (4, .int ((f_X5_nights_56_v4 nl pe ro ss lt seed i1) + (f_X5_darkNow pe ss (f_X5_goesBy_Ml nl ro ((f_X5_nights_56_Ml nl pe ro ss lt seed i1)) (f_X5_sectionsOf pe ss ((f_X5_nights_68_v6 (f_X5_nights_56_M_15 pe seed i1) pe))))))), (0, .ref aM), (1, .int many), (3, .int what), (6, .int ((f_X5_nights_68_v6 (f_X5_nights_56_M_15 pe seed i1) pe))), (7, .int (nI pe))]) hx hb dX5_nights_124 hl (k := 4) rfl (nI_add i1 1) (by decide) rfl (fun ls hl => ?_)
                  refine lv_goto (tgt := 56) hx hb dX5_nights_127 (by decide) ?_
                  have e_v4 : (f_X5_nights_56_v4 nl pe ro ss lt seed (i1 + 1)) = ((f_X5_nights_56_v4 nl pe ro ss lt seed i1) + (f_X5_darkNow pe ss (f_X5_goesBy_Ml nl ro ((f_X5_nights_56_Ml nl pe ro ss lt seed i1)) (f_X5_sectionsOf pe ss ((f_X5_nights_68_v6 (f_X5_nights_56_M_15 pe seed i1) pe)))))) := (by simp only [f_X5_nights_56_v4])
                  have e_Ml : (f_X5_nights_56_Ml nl pe ro ss lt seed (i1 + 1)) = (f_X5_goesBy_Ml nl ro ((f_X5_nights_56_Ml nl pe ro ss lt seed i1)) (f_X5_sectionsOf pe ss ((f_X5_nights_68_v6 (f_X5_nights_56_M_15 pe seed i1) pe)))) := (by simp only [f_X5_nights_56_Ml])
                  have e_M_15 : (f_X5_nights_56_M_15 pe seed (i1 + 1)) = (f_X5_nights_68_M_15 (f_X5_nights_56_M_15 pe seed i1) pe) := (by simp only [f_X5_nights_56_M_15])
                  exact ih56 (i1 + 1) (by omega) _ _ (by rw [e_Ml, e_M_15]; exact hP) (by rw [e_Ml, e_M_15]; exact hD) hS ls (by rw [e_v4]; exact lv_sub hl [2, 3, 4, 1, 0] rfl)
                | succ k68 ih68 =>
                  intro i2 hk68 H locs hP hD hS ls hl
                  refine lv_iload hx hb dX5_nights_68 (lv_at hl 6 rfl) ?_
                  refine lv_aload_n hx hb dX5_nights_70 rfl (lv_at hl 0 rfl) ?_
                  refine va_get (D := D) (ci := 5) (v := .int (nI pe)) (C := RX5) (T := TX5) (N := 24) hx hb hts uX5 hown hK hP 0 rfl rfl 6 (by decide) w4 (fun _ h9 => h9) rfl dX5_nights_71 ?_
                  refine lv_icmp_ge (tgt := 105) hx hb dX5_nights_74 (by decide) (fun c => absurd c (nle_f (a := pe) (b := i2) rfl rfl (by omega) (by omega) (by omega))) (fun _ => ?_)
                  refine lv_iload hx hb dX5_nights_77 (lv_at hl 5 rfl) ?_
                  refine lv_aload_n hx hb dX5_nights_79 rfl (lv_at hl 0 rfl) ?_
                  refine lv_bipush (v := 6) hx hb dX5_nights_80 (by decide) ?_
                  refine xV (w2 := [(aM, .inr (5, [.ref aMp, .int (nI pl), .int (nI nl), .int mi, .int ofr, .ref aMr, .int (nI pe), .ref aMs, .ref aMl, .int bc, .int rd, .ref aMg, .ref aMb, .int (nI bk), .ref aMo, .int (f_X5_draw_M_15 ((f_X5_nights_68_M_15 (f_X5_nights_56_M_15 pe seed i1) i2))), .int ko, .int kpe, .int kmi, .int kbk, .ref aMkr, .ref aMks, .ref aMkb, .long ha])), (aMr, .inl (cI, 18, .inl ro)), (aMs, .inl (cI, 12, .inl ss)), (aMl, .inl (cI, 6, .inl ((f_X5_nights_56_Ml nl pe ro ss lt seed i1))))]) ⟨hx, hb, hml, hown, hts⟩ (c_X5_draw l D cI aM aMp aMr aMs aMl aMg aMb aMo aMkr aMks aMkb ofr rd pl nl mi pe kmi kpe bc bk ((f_X5_nights_68_M_15 (f_X5_nights_56_M_15 pe seed i1) i2)) ko kbk ha 6 (by decide)) (cwV 1 hts gX5_nights_X5_draw rfl rfl rfl hd_X5_draw ⟨Nat.le_of_ble_eq_true rfl, Nat.le_of_ble_eq_true rfl⟩) hK hP hD hS hA [0] [1, 2, 3] [3, 0, 1, 2] rfl rfl rfl rfl rfl (by decide) rfl rfl rfl 0 rfl rfl rfl rfl hl.1 (rest := [.int ((f_X5_nights_68_v6 (f_X5_nights_56_M_15 pe seed i1) i2))]) (st' := [.int (f_X5_draw ((f_X5_nights_68_M_15 (f_X5_nights_56_M_15 pe seed i1) i2)) 6), .int ((f_X5_nights_68_v6 (f_X5_nights_56_M_15 pe seed i1) i2))]) rfl rfl (Nat.le_of_ble_eq_true rfl) dX5_nights_82 ⟨Nat.zero_le _, Nat.zero_le _⟩ (fun H locs hP hD hS => ?_)
                  refine lv_if_ne (tgt := 95) hx hb dX5_nights_85 (by decide) (fun c8 => ?_) (fun c8 => ?_)
                  · refine lv_iconst (v := 0) hx hb dX5_nights_95 (by decide) ?_
                    refine lv_ior hx hb dX5_nights_96 ?_
                    refine lv_istore (lv' := [(6, .int ((f_X5_nights_68_v6 (f_X5_nights_56_M_15 pe seed i1) i2) ||| 0)), (0, .ref aM), (1, .int many), (3, .int what), (4, .int ((f_X5_nights_56_v4 nl pe ro ss lt seed i1))), (5, .int (nI i1)), (7, .int (nI i2))]) hx hb dX5_nights_97 hl (by decide) rfl (fun ls hl => ?_)
                    refine lv_iinc (v := nI (i2 + 1)) (lv' := [(7, .int (nI (i2 + 1))), (6, .int ((f_X5_nights_68_v6 (f_X5_nights_56_M_15 pe seed i1) i2) ||| 0)), (0, .ref aM), (1, .int many), (3, .int what), (4, .int ((f_X5_nights_56_v4 nl pe ro ss lt seed i1))), (5, .int (nI i1))]) hx hb dX5_nights_99 hl (k := 6) rfl (nI_add i2 1) (by decide) rfl (fun ls hl => ?_)
                    refine lv_goto (tgt := 68) hx hb dX5_nights_102 (by decide) ?_
                    have e_v6 : (f_X5_nights_68_v6 (f_X5_nights_56_M_15 pe seed i1) (i2 + 1)) = ((f_X5_nights_68_v6 (f_X5_nights_56_M_15 pe seed i1) i2) ||| 0) := (by simp only [f_X5_nights_68_v6, if_neg c8])
                    have e_M_15 : (f_X5_nights_68_M_15 (f_X5_nights_56_M_15 pe seed i1) (i2 + 1)) = (f_X5_draw_M_15 ((f_X5_nights_68_M_15 (f_X5_nights_56_M_15 pe seed i1) i2))) := (by simp only [f_X5_nights_68_M_15, if_neg c8])
                    exact ih68 (i2 + 1) (by omega) _ _ (by rw [e_M_15]; exact hP) (by rw [e_M_15]; exact hD) hS ls (by rw [e_v6]; exact lv_sub hl [2, 3, 4, 5, 6, 1, 0] rfl)
                  · refine lv_iconst (v := 1) hx hb dX5_nights_88 (by decide) ?_
                    refine lv_iload hx hb dX5_nights_89 (lv_at hl 6 rfl) ?_
                    refine lv_ishl hx hb dX5_nights_91 ?_
                    refine lv_goto (tgt := 96) hx hb dX5_nights_92 (by decide) ?_
                    refine lv_ior hx hb dX5_nights_96 ?_
                    refine lv_istore (lv' := [(6, .int ((f_X5_nights_68_v6 (f_X5_nights_56_M_15 pe seed i1) i2) ||| ((1 : Int32) <<< (nI i2 &&& 31)))), (0, .ref aM), (1, .int many), (3, .int what), (4, .int ((f_X5_nights_56_v4 nl pe ro ss lt seed i1))), (5, .int (nI i1)), (7, .int (nI i2))]) hx hb dX5_nights_97 hl (by decide) rfl (fun ls hl => ?_)
                    refine lv_iinc (v := nI (i2 + 1)) (lv' := [(7, .int (nI (i2 + 1))), (6, .int ((f_X5_nights_68_v6 (f_X5_nights_56_M_15 pe seed i1) i2) ||| ((1 : Int32) <<< (nI i2 &&& 31)))), (0, .ref aM), (1, .int many), (3, .int what), (4, .int ((f_X5_nights_56_v4 nl pe ro ss lt seed i1))), (5, .int (nI i1))]) hx hb dX5_nights_99 hl (k := 6) rfl (nI_add i2 1) (by decide) rfl (fun ls hl => ?_)
                    refine lv_goto (tgt := 68) hx hb dX5_nights_102 (by decide) ?_
                    have e_v6 : (f_X5_nights_68_v6 (f_X5_nights_56_M_15 pe seed i1) (i2 + 1)) = ((f_X5_nights_68_v6 (f_X5_nights_56_M_15 pe seed i1) i2) ||| ((1 : Int32) <<< (nI i2 &&& 31))) := (by simp only [f_X5_nights_68_v6, if_pos c8])
                    have e_M_15 : (f_X5_nights_68_M_15 (f_X5_nights_56_M_15 pe seed i1) (i2 + 1)) = (f_X5_draw_M_15 ((f_X5_nights_68_M_15 (f_X5_nights_56_M_15 pe seed i1) i2))) := (by simp only [f_X5_nights_68_M_15, if_pos c8])
                    exact ih68 (i2 + 1) (by omega) _ _ (by rw [e_M_15]; exact hP) (by rw [e_M_15]; exact hD) hS ls (by rw [e_v6]; exact lv_sub hl [2, 3, 4, 5, 6, 1, 0] rfl)
              exact lp68 pe 0 (by omega) _ _ hP hD hS ls (lv_sub hl [2, 3, 4, 5, 6, 1, 0] rfl)
          exact lp56 (many.toNatClampNeg) 0 (by omega) _ _ hP hD hS ls (lv_sub hl [2, 3, 5, 1, 0] rfl)
        · refine lv_bipush (v := (-103)) hx hb dX5_nights_38 (by decide) ?_
          have e_M_15 : (f_X5_nights_M_15 nl pe sd many seed what) = sd := (by simp only [f_X5_nights_M_15, if_neg c1, if_neg c2, if_neg c3, if_neg c4])
          have e_Ml : (f_X5_nights_Ml nl pe ro ss lt many seed what) = lt := (by simp only [f_X5_nights_Ml, if_neg c1, if_neg c2, if_neg c3, if_neg c4])
          exact eXi hx hb hr hlk hQ (by rw [e_M_15, e_Ml]; exact hP) (by rw [e_M_15, e_Ml]; exact hD) hS dX5_nights_40 (Eq.symm (by simp only [f_X5_nights, if_neg c1, if_neg c2, if_neg c3, if_neg c4]))
      · refine lv_bipush (v := (-102)) hx hb dX5_nights_28 (by decide) ?_
        have e_M_15 : (f_X5_nights_M_15 nl pe sd many seed what) = sd := (by simp only [f_X5_nights_M_15, if_neg c1, if_neg c2, if_pos c3])
        have e_Ml : (f_X5_nights_Ml nl pe ro ss lt many seed what) = lt := (by simp only [f_X5_nights_Ml, if_neg c1, if_neg c2, if_pos c3])
        exact eXi hx hb hr hlk hQ (by rw [e_M_15, e_Ml]; exact hP) (by rw [e_M_15, e_Ml]; exact hD) hS dX5_nights_30 (Eq.symm (by simp only [f_X5_nights, if_neg c1, if_neg c2, if_pos c3]))

def rm_X5_image : Room := { frames := 1, cells := 0, slots := 0, locals := 22 }
def f_X5_image (nl : Nat) (mi : Int32) : Int32 := (if (f_X5_lacks nl) = 0 then mi else (-103))
def f_X5_image_M_16 (ofr : Int32) (nl : Nat) (ko : Int32) : Int32 := (if (f_X5_lacks nl) = 0 then ofr else ko)
def f_X5_image_M_17 (nl : Nat) (pe : Nat) (kpe : Int32) : Int32 := (if (f_X5_lacks nl) = 0 then nI pe else kpe)
def f_X5_image_M_18 (nl : Nat) (mi : Int32) (kmi : Int32) : Int32 := (if (f_X5_lacks nl) = 0 then mi else kmi)
def f_X5_image_M_19 (nl : Nat) (bk : Nat) (kbk : Int32) : Int32 := (if (f_X5_lacks nl) = 0 then nI bk else kbk)
def f_X5_image_Mkr (nl : Nat) (ro : Nat → Int32) (kro : Nat → Int32) : Nat → Int32 := (if (f_X5_lacks nl) = 0 then (f_X5_copy_G ro kro 18) else kro)
def f_X5_image_Mks (nl : Nat) (ss : Nat → Int32) (kss : Nat → Int32) : Nat → Int32 := (if (f_X5_lacks nl) = 0 then (f_X5_copy_G ss kss 12) else kss)
def f_X5_image_Mkb (nl : Nat) (bo : Nat → Int32) (kbo : Nat → Int32) : Nat → Int32 := (if (f_X5_lacks nl) = 0 then (f_X5_copy_G bo kbo 24) else kbo)
theorem hd_X5_image : yX5_image.cls = RX5 ∧ yX5_image.cls ≠ "java/lang/invoke/MethodHandle" ∧ yX5_image.cls ≠ "java/lang/invoke/VarHandle" ∧ (parseMethodDescriptor yX5_image.desc).map (fun d => d.parameters.length) = some 0 := by decide +kernel
set_option maxHeartbeats 4000000 in
set_option maxRecDepth 100000 in
theorem c_X5_image (l : Launch) (D : va_G) (cI : ClassId) (aM aMp aMr aMs aMl aMg aMb aMo aMkr aMks aMkb : Nat) (ofr : Int32) (rd : Int32) (pl : Nat) (nl : Nat) (mi : Int32) (pe : Nat) (kmi : Int32) (kpe : Int32) (bc : Int32) (bk : Nat) (sd : Int32) (ko : Int32) (kbk : Int32) (ha : Int64) (ro : Nat → Int32) (ss : Nat → Int32) (bo : Nat → Int32) (kro : Nat → Int32) (kss : Nat → Int32) (kbo : Nat → Int32) (hn : nl ≤ 6) : MetX l yX5_image wsX5_image rm_X5_image D cI [.ref aM] [(aM, .inr (5, [.ref aMp, .int (nI pl), .int (nI nl), .int mi, .int ofr, .ref aMr, .int (nI pe), .ref aMs, .ref aMl, .int bc, .int rd, .ref aMg, .ref aMb, .int (nI bk), .ref aMo, .int sd, .int ko, .int kpe, .int kmi, .int kbk, .ref aMkr, .ref aMks, .ref aMkb, .long ha])), (aMr, .inl (cI, 18, .inl ro)), (aMs, .inl (cI, 12, .inl ss)), (aMo, .inl (cI, 24, .inl bo)), (aMkr, .inl (cI, 18, .inl kro)), (aMks, .inl (cI, 12, .inl kss)), (aMkb, .inl (cI, 24, .inl kbo))] (some (.int (f_X5_image nl mi))) [(aM, .inr (5, [.ref aMp, .int (nI pl), .int (nI nl), .int mi, .int ofr, .ref aMr, .int (nI pe), .ref aMs, .ref aMl, .int bc, .int rd, .ref aMg, .ref aMb, .int (nI bk), .ref aMo, .int sd, .int (f_X5_image_M_16 ofr nl ko), .int (f_X5_image_M_17 nl pe kpe), .int (f_X5_image_M_18 nl mi kmi), .int (f_X5_image_M_19 nl bk kbk), .ref aMkr, .ref aMks, .ref aMkb, .long ha])), (aMr, .inl (cI, 18, .inl ro)), (aMs, .inl (cI, 12, .inl ss)), (aMo, .inl (cI, 24, .inl bo)), (aMkr, .inl (cI, 18, .inl (f_X5_image_Mkr nl ro kro))), (aMks, .inl (cI, 12, .inl (f_X5_image_Mks nl ss kss))), (aMkb, .inl (cI, 24, .inl (f_X5_image_Mkb nl bo kbo)))] := by
  refine mX (cc := cX5_image) (maxL := 1) (ret := (some .int)) (by decide) rfl (Nat.le_of_ble_eq_true rfl) ?_
  intro p e s m args below meth c Q A hx hb hr hml hown hts hlk hP hK hD hA hS hQ ls hl
  have hown : s.vm.findClass RX5 = some m.cls := hown
  have hl : lv_has ls 1 [(0, .ref aM)] := hl
  have w1 := hts (.fieldLink RX5 13 "DarkOfficeModel" "rows" "[I") (List.mem_of_getElem? (i := 1) rfl)
  have uX5 : ∀ w ∈ wsX50, w ∈ wsX5_image := fun _ h => List.mem_cons_of_mem _ (List.mem_append_right _ h)
  have w2 := hts (.fieldLink RX5 31 "DarkOfficeModel" "keptRows" "[I") (List.mem_of_getElem? (i := 2) rfl)
  have w3 := hts (.fieldLink RX5 16 "DarkOfficeModel" "seats" "[I") (List.mem_of_getElem? (i := 3) rfl)
  have w4 := hts (.fieldLink RX5 34 "DarkOfficeModel" "keptSeats" "[I") (List.mem_of_getElem? (i := 4) rfl)
  have w5 := hts (.fieldLink RX5 28 "DarkOfficeModel" "books" "[I") (List.mem_of_getElem? (i := 5) rfl)
  have w6 := hts (.fieldLink RX5 37 "DarkOfficeModel" "keptBooks" "[I") (List.mem_of_getElem? (i := 6) rfl)
  have w7 := hts (.fieldLink RX5 73 "DarkOfficeModel" "people" "I") (List.mem_of_getElem? (i := 7) rfl)
  have w8 := hts (.fieldLink RX5 196 "DarkOfficeModel" "keptPeople" "I") (List.mem_of_getElem? (i := 8) rfl)
  have w9 := hts (.fieldLink RX5 70 "DarkOfficeModel" "minutesNow" "I") (List.mem_of_getElem? (i := 9) rfl)
  have w10 := hts (.fieldLink RX5 199 "DarkOfficeModel" "keptMinutes" "I") (List.mem_of_getElem? (i := 10) rfl)
  have w11 := hts (.fieldLink RX5 76 "DarkOfficeModel" "bookMany" "I") (List.mem_of_getElem? (i := 11) rfl)
  have w12 := hts (.fieldLink RX5 202 "DarkOfficeModel" "keptBookMany" "I") (List.mem_of_getElem? (i := 12) rfl)
  have w13 := hts (.fieldLink RX5 79 "DarkOfficeModel" "officesRead" "I") (List.mem_of_getElem? (i := 13) rfl)
  have w14 := hts (.fieldLink RX5 40 "DarkOfficeModel" "keptOffice" "I") (List.mem_of_getElem? (i := 14) rfl)
  refine lv_aload_n hx hb dX5_image_0 rfl (lv_at hl 0 rfl) ?_
  refine rV ⟨hx, hb, hml, hown, hts⟩ (c_X5_lacks l D cI aM aMp aMr aMs aMl aMg aMb aMo aMkr aMks aMkb ofr rd pl nl mi pe kmi kpe bc bk sd ko kbk ha hn) (cwV 0 hts gX5_image_X5_lacks rfl rfl rfl hd_X5_lacks ⟨Nat.le_of_ble_eq_true rfl, Nat.le_of_ble_eq_true rfl⟩) hK (hP.sub [0] rfl) 0 rfl rfl rfl rfl hl.1 (rest := []) (st' := [.int (f_X5_lacks nl)]) rfl rfl (Nat.le_of_ble_eq_true rfl) dX5_image_1 ⟨Nat.zero_le _, Nat.zero_le _⟩ ?_
  refine lv_if_eq (tgt := 10) hx hb dX5_image_4 (by decide) (fun c1 => ?_) (fun c1 => ?_)
  · refine lv_aload_n hx hb dX5_image_10 rfl (lv_at hl 0 rfl) ?_
    refine va_get (D := D) (ci := 5) (v := .ref aMr) (C := RX5) (T := TX5) (N := 24) hx hb hts uX5 hown hK hP 0 rfl rfl 5 (by decide) w1 (fun _ h9 => h9) rfl dX5_image_11 ?_
    refine lv_aload_n hx hb dX5_image_14 rfl (lv_at hl 0 rfl) ?_
    refine va_get (D := D) (ci := 5) (v := .ref aMkr) (C := RX5) (T := TX5) (N := 24) hx hb hts uX5 hown hK hP 0 rfl rfl 20 (by decide) w2 (fun _ h9 => h9) rfl dX5_image_15 ?_
    refine xS (w2 := [(aM, .inr (5, [.ref aMp, .int (nI pl), .int (nI nl), .int mi, .int ofr, .ref aMr, .int (nI pe), .ref aMs, .ref aMl, .int bc, .int rd, .ref aMg, .ref aMb, .int (nI bk), .ref aMo, .int sd, .int ko, .int kpe, .int kmi, .int kbk, .ref aMkr, .ref aMks, .ref aMkb, .long ha])), (aMr, .inl (cI, 18, .inl ro)), (aMs, .inl (cI, 12, .inl ss)), (aMo, .inl (cI, 24, .inl bo)), (aMkr, .inl (cI, 18, .inl (f_X5_copy_G ro kro 18))), (aMks, .inl (cI, 12, .inl kss)), (aMkb, .inl (cI, 24, .inl kbo))]) ⟨hx, hb, hml, hown, hts⟩ (c_X5_copy l D cI aMr aMkr ro kro 18 18 (by decide) (by decide)) (va_cwS 2 hts gX5_image_X5_copy rfl rfl rfl hd_X5_copy ⟨Nat.le_of_ble_eq_true rfl, Nat.le_of_ble_eq_true rfl⟩) hK hP hD hS hA [1, 4] [0, 2, 3, 5, 6] [0, 5, 1, 2, 6, 3, 4] rfl rfl rfl rfl rfl (by decide) rfl rfl rfl rfl hl.1 (rest := []) (st' := []) rfl rfl (Nat.le_of_ble_eq_true rfl) dX5_image_18 ⟨Nat.zero_le _, Nat.zero_le _⟩ (fun H locs hP hD hS => ?_)
    refine lv_aload_n hx hb dX5_image_21 rfl (lv_at hl 0 rfl) ?_
    refine va_get (D := D) (ci := 5) (v := .ref aMs) (C := RX5) (T := TX5) (N := 24) hx hb hts uX5 hown hK hP 0 rfl rfl 7 (by decide) w3 (fun _ h9 => h9) rfl dX5_image_22 ?_
    refine lv_aload_n hx hb dX5_image_25 rfl (lv_at hl 0 rfl) ?_
    refine va_get (D := D) (ci := 5) (v := .ref aMks) (C := RX5) (T := TX5) (N := 24) hx hb hts uX5 hown hK hP 0 rfl rfl 21 (by decide) w4 (fun _ h9 => h9) rfl dX5_image_26 ?_
    refine xS (w2 := [(aM, .inr (5, [.ref aMp, .int (nI pl), .int (nI nl), .int mi, .int ofr, .ref aMr, .int (nI pe), .ref aMs, .ref aMl, .int bc, .int rd, .ref aMg, .ref aMb, .int (nI bk), .ref aMo, .int sd, .int ko, .int kpe, .int kmi, .int kbk, .ref aMkr, .ref aMks, .ref aMkb, .long ha])), (aMr, .inl (cI, 18, .inl ro)), (aMs, .inl (cI, 12, .inl ss)), (aMo, .inl (cI, 24, .inl bo)), (aMkr, .inl (cI, 18, .inl (f_X5_copy_G ro kro 18))), (aMks, .inl (cI, 12, .inl (f_X5_copy_G ss kss 12))), (aMkb, .inl (cI, 24, .inl kbo))]) ⟨hx, hb, hml, hown, hts⟩ (c_X5_copy l D cI aMs aMks ss kss 12 12 (by decide) (by decide)) (va_cwS 2 hts gX5_image_X5_copy rfl rfl rfl hd_X5_copy ⟨Nat.le_of_ble_eq_true rfl, Nat.le_of_ble_eq_true rfl⟩) hK hP hD hS hA [2, 5] [0, 1, 3, 4, 6] [0, 1, 5, 2, 3, 6, 4] rfl rfl rfl rfl rfl (by decide) rfl rfl rfl rfl hl.1 (rest := []) (st' := []) rfl rfl (Nat.le_of_ble_eq_true rfl) dX5_image_29 ⟨Nat.zero_le _, Nat.zero_le _⟩ (fun H locs hP hD hS => ?_)
    refine lv_aload_n hx hb dX5_image_32 rfl (lv_at hl 0 rfl) ?_
    refine va_get (D := D) (ci := 5) (v := .ref aMo) (C := RX5) (T := TX5) (N := 24) hx hb hts uX5 hown hK hP 0 rfl rfl 14 (by decide) w5 (fun _ h9 => h9) rfl dX5_image_33 ?_
    refine lv_aload_n hx hb dX5_image_36 rfl (lv_at hl 0 rfl) ?_
    refine va_get (D := D) (ci := 5) (v := .ref aMkb) (C := RX5) (T := TX5) (N := 24) hx hb hts uX5 hown hK hP 0 rfl rfl 22 (by decide) w6 (fun _ h9 => h9) rfl dX5_image_37 ?_
    refine xS (w2 := [(aM, .inr (5, [.ref aMp, .int (nI pl), .int (nI nl), .int mi, .int ofr, .ref aMr, .int (nI pe), .ref aMs, .ref aMl, .int bc, .int rd, .ref aMg, .ref aMb, .int (nI bk), .ref aMo, .int sd, .int ko, .int kpe, .int kmi, .int kbk, .ref aMkr, .ref aMks, .ref aMkb, .long ha])), (aMr, .inl (cI, 18, .inl ro)), (aMs, .inl (cI, 12, .inl ss)), (aMo, .inl (cI, 24, .inl bo)), (aMkr, .inl (cI, 18, .inl (f_X5_copy_G ro kro 18))), (aMks, .inl (cI, 12, .inl (f_X5_copy_G ss kss 12))), (aMkb, .inl (cI, 24, .inl (f_X5_copy_G bo kbo 24)))]) ⟨hx, hb, hml, hown, hts⟩ (c_X5_copy l D cI aMo aMkb bo kbo 24 24 (by decide) (by decide)) (va_cwS 2 hts gX5_image_X5_copy rfl rfl rfl hd_X5_copy ⟨Nat.le_of_ble_eq_true rfl, Nat.le_of_ble_eq_true rfl⟩) hK hP hD hS hA [3, 6] [0, 1, 2, 4, 5] [0, 1, 2, 5, 3, 4, 6] rfl rfl rfl rfl rfl (by decide) rfl rfl rfl rfl hl.1 (rest := []) (st' := []) rfl rfl (Nat.le_of_ble_eq_true rfl) dX5_image_40 ⟨Nat.zero_le _, Nat.zero_le _⟩ (fun H locs hP hD hS => ?_)
    refine lv_aload_n hx hb dX5_image_43 rfl (lv_at hl 0 rfl) ?_
    refine lv_aload_n hx hb dX5_image_44 rfl (lv_at hl 0 rfl) ?_
    refine va_get (D := D) (ci := 5) (v := .int (nI pe)) (C := RX5) (T := TX5) (N := 24) hx hb hts uX5 hown hK hP 0 rfl rfl 6 (by decide) w7 (fun _ h9 => h9) rfl dX5_image_45 ?_
    refine va_put (D := D) (ci := 5) (v := .int (nI pe)) (ty := .int) (C := RX5) (T := TX5) (N := 24) hx hb hts uX5 tyX5 tyX5_ok nmX5 hown hK hP hD hS 0 rfl rfl 17 (by decide) w8 (fun _ h9 => h9) rfl (by decide +kernel) rfl rfl (Nat.le_of_ble_eq_true rfl) dX5_image_48 (fun H locs hP hD hS => ?_)
    have hP : va_P D vwCl [(aM, .inr (5, [.ref aMp, .int (nI pl), .int (nI nl), .int mi, .int ofr, .ref aMr, .int (nI pe), .ref aMs, .ref aMl, .int bc, .int rd, .ref aMg, .ref aMb, .int (nI bk), .ref aMo, .int sd, .int ko, .int (nI pe), .int kmi, .int kbk, .ref aMkr, .ref aMks, .ref aMkb, .long ha])), (aMr, .inl (cI, 18, .inl ro)), (aMs, .inl (cI, 12, .inl ss)), (aMo, .inl (cI, 24, .inl bo)), (aMkr, .inl (cI, 18, .inl (f_X5_copy_G ro kro 18))), (aMks, .inl (cI, 12, .inl (f_X5_copy_G ss kss 12))), (aMkb, .inl (cI, 24, .inl (f_X5_copy_G bo kbo 24)))] H := hP
    have hD : va_D A [(aM, .inr (5, [.ref aMp, .int (nI pl), .int (nI nl), .int mi, .int ofr, .ref aMr, .int (nI pe), .ref aMs, .ref aMl, .int bc, .int rd, .ref aMg, .ref aMb, .int (nI bk), .ref aMo, .int sd, .int ko, .int (nI pe), .int kmi, .int kbk, .ref aMkr, .ref aMks, .ref aMkb, .long ha])), (aMr, .inl (cI, 18, .inl ro)), (aMs, .inl (cI, 12, .inl ss)), (aMo, .inl (cI, 24, .inl bo)), (aMkr, .inl (cI, 18, .inl (f_X5_copy_G ro kro 18))), (aMks, .inl (cI, 12, .inl (f_X5_copy_G ss kss 12))), (aMkb, .inl (cI, 24, .inl (f_X5_copy_G bo kbo 24)))] := hD
    refine lv_aload_n hx hb dX5_image_51 rfl (lv_at hl 0 rfl) ?_
    refine lv_aload_n hx hb dX5_image_52 rfl (lv_at hl 0 rfl) ?_
    refine va_get (D := D) (ci := 5) (v := .int mi) (C := RX5) (T := TX5) (N := 24) hx hb hts uX5 hown hK hP 0 rfl rfl 3 (by decide) w9 (fun _ h9 => h9) rfl dX5_image_53 ?_
    refine va_put (D := D) (ci := 5) (v := .int mi) (ty := .int) (C := RX5) (T := TX5) (N := 24) hx hb hts uX5 tyX5 tyX5_ok nmX5 hown hK hP hD hS 0 rfl rfl 18 (by decide) w10 (fun _ h9 => h9) rfl (by decide +kernel) rfl rfl (Nat.le_of_ble_eq_true rfl) dX5_image_56 (fun H locs hP hD hS => ?_)
    have hP : va_P D vwCl [(aM, .inr (5, [.ref aMp, .int (nI pl), .int (nI nl), .int mi, .int ofr, .ref aMr, .int (nI pe), .ref aMs, .ref aMl, .int bc, .int rd, .ref aMg, .ref aMb, .int (nI bk), .ref aMo, .int sd, .int ko, .int (nI pe), .int mi, .int kbk, .ref aMkr, .ref aMks, .ref aMkb, .long ha])), (aMr, .inl (cI, 18, .inl ro)), (aMs, .inl (cI, 12, .inl ss)), (aMo, .inl (cI, 24, .inl bo)), (aMkr, .inl (cI, 18, .inl (f_X5_copy_G ro kro 18))), (aMks, .inl (cI, 12, .inl (f_X5_copy_G ss kss 12))), (aMkb, .inl (cI, 24, .inl (f_X5_copy_G bo kbo 24)))] H := hP
    have hD : va_D A [(aM, .inr (5, [.ref aMp, .int (nI pl), .int (nI nl), .int mi, .int ofr, .ref aMr, .int (nI pe), .ref aMs, .ref aMl, .int bc, .int rd, .ref aMg, .ref aMb, .int (nI bk), .ref aMo, .int sd, .int ko, .int (nI pe), .int mi, .int kbk, .ref aMkr, .ref aMks, .ref aMkb, .long ha])), (aMr, .inl (cI, 18, .inl ro)), (aMs, .inl (cI, 12, .inl ss)), (aMo, .inl (cI, 24, .inl bo)), (aMkr, .inl (cI, 18, .inl (f_X5_copy_G ro kro 18))), (aMks, .inl (cI, 12, .inl (f_X5_copy_G ss kss 12))), (aMkb, .inl (cI, 24, .inl (f_X5_copy_G bo kbo 24)))] := hD
    refine lv_aload_n hx hb dX5_image_59 rfl (lv_at hl 0 rfl) ?_
    refine lv_aload_n hx hb dX5_image_60 rfl (lv_at hl 0 rfl) ?_
    refine va_get (D := D) (ci := 5) (v := .int (nI bk)) (C := RX5) (T := TX5) (N := 24) hx hb hts uX5 hown hK hP 0 rfl rfl 13 (by decide) w11 (fun _ h9 => h9) rfl dX5_image_61 ?_
    refine va_put (D := D) (ci := 5) (v := .int (nI bk)) (ty := .int) (C := RX5) (T := TX5) (N := 24) hx hb hts uX5 tyX5 tyX5_ok nmX5 hown hK hP hD hS 0 rfl rfl 19 (by decide) w12 (fun _ h9 => h9) rfl (by decide +kernel) rfl rfl (Nat.le_of_ble_eq_true rfl) dX5_image_64 (fun H locs hP hD hS => ?_)
    have hP : va_P D vwCl [(aM, .inr (5, [.ref aMp, .int (nI pl), .int (nI nl), .int mi, .int ofr, .ref aMr, .int (nI pe), .ref aMs, .ref aMl, .int bc, .int rd, .ref aMg, .ref aMb, .int (nI bk), .ref aMo, .int sd, .int ko, .int (nI pe), .int mi, .int (nI bk), .ref aMkr, .ref aMks, .ref aMkb, .long ha])), (aMr, .inl (cI, 18, .inl ro)), (aMs, .inl (cI, 12, .inl ss)), (aMo, .inl (cI, 24, .inl bo)), (aMkr, .inl (cI, 18, .inl (f_X5_copy_G ro kro 18))), (aMks, .inl (cI, 12, .inl (f_X5_copy_G ss kss 12))), (aMkb, .inl (cI, 24, .inl (f_X5_copy_G bo kbo 24)))] H := hP
    have hD : va_D A [(aM, .inr (5, [.ref aMp, .int (nI pl), .int (nI nl), .int mi, .int ofr, .ref aMr, .int (nI pe), .ref aMs, .ref aMl, .int bc, .int rd, .ref aMg, .ref aMb, .int (nI bk), .ref aMo, .int sd, .int ko, .int (nI pe), .int mi, .int (nI bk), .ref aMkr, .ref aMks, .ref aMkb, .long ha])), (aMr, .inl (cI, 18, .inl ro)), (aMs, .inl (cI, 12, .inl ss)), (aMo, .inl (cI, 24, .inl bo)), (aMkr, .inl (cI, 18, .inl (f_X5_copy_G ro kro 18))), (aMks, .inl (cI, 12, .inl (f_X5_copy_G ss kss 12))), (aMkb, .inl (cI, 24, .inl (f_X5_copy_G bo kbo 24)))] := hD
    refine lv_aload_n hx hb dX5_image_67 rfl (lv_at hl 0 rfl) ?_
    refine lv_aload_n hx hb dX5_image_68 rfl (lv_at hl 0 rfl) ?_
    refine va_get (D := D) (ci := 5) (v := .int ofr) (C := RX5) (T := TX5) (N := 24) hx hb hts uX5 hown hK hP 0 rfl rfl 4 (by decide) w13 (fun _ h9 => h9) rfl dX5_image_69 ?_
    refine va_put (D := D) (ci := 5) (v := .int ofr) (ty := .int) (C := RX5) (T := TX5) (N := 24) hx hb hts uX5 tyX5 tyX5_ok nmX5 hown hK hP hD hS 0 rfl rfl 16 (by decide) w14 (fun _ h9 => h9) rfl (by decide +kernel) rfl rfl (Nat.le_of_ble_eq_true rfl) dX5_image_72 (fun H locs hP hD hS => ?_)
    have hP : va_P D vwCl [(aM, .inr (5, [.ref aMp, .int (nI pl), .int (nI nl), .int mi, .int ofr, .ref aMr, .int (nI pe), .ref aMs, .ref aMl, .int bc, .int rd, .ref aMg, .ref aMb, .int (nI bk), .ref aMo, .int sd, .int ofr, .int (nI pe), .int mi, .int (nI bk), .ref aMkr, .ref aMks, .ref aMkb, .long ha])), (aMr, .inl (cI, 18, .inl ro)), (aMs, .inl (cI, 12, .inl ss)), (aMo, .inl (cI, 24, .inl bo)), (aMkr, .inl (cI, 18, .inl (f_X5_copy_G ro kro 18))), (aMks, .inl (cI, 12, .inl (f_X5_copy_G ss kss 12))), (aMkb, .inl (cI, 24, .inl (f_X5_copy_G bo kbo 24)))] H := hP
    have hD : va_D A [(aM, .inr (5, [.ref aMp, .int (nI pl), .int (nI nl), .int mi, .int ofr, .ref aMr, .int (nI pe), .ref aMs, .ref aMl, .int bc, .int rd, .ref aMg, .ref aMb, .int (nI bk), .ref aMo, .int sd, .int ofr, .int (nI pe), .int mi, .int (nI bk), .ref aMkr, .ref aMks, .ref aMkb, .long ha])), (aMr, .inl (cI, 18, .inl ro)), (aMs, .inl (cI, 12, .inl ss)), (aMo, .inl (cI, 24, .inl bo)), (aMkr, .inl (cI, 18, .inl (f_X5_copy_G ro kro 18))), (aMks, .inl (cI, 12, .inl (f_X5_copy_G ss kss 12))), (aMkb, .inl (cI, 24, .inl (f_X5_copy_G bo kbo 24)))] := hD
    refine lv_aload_n hx hb dX5_image_75 rfl (lv_at hl 0 rfl) ?_
    refine va_get (D := D) (ci := 5) (v := .int mi) (C := RX5) (T := TX5) (N := 24) hx hb hts uX5 hown hK hP 0 rfl rfl 3 (by decide) w9 (fun _ h9 => h9) rfl dX5_image_76 ?_
    have e_M_16 : (f_X5_image_M_16 ofr nl ko) = ofr := (by simp only [f_X5_image_M_16, if_pos c1])
    have e_M_17 : (f_X5_image_M_17 nl pe kpe) = nI pe := (by simp only [f_X5_image_M_17, if_pos c1])
    have e_M_18 : (f_X5_image_M_18 nl mi kmi) = mi := (by simp only [f_X5_image_M_18, if_pos c1])
    have e_M_19 : (f_X5_image_M_19 nl bk kbk) = nI bk := (by simp only [f_X5_image_M_19, if_pos c1])
    have e_Mkr : (f_X5_image_Mkr nl ro kro) = (f_X5_copy_G ro kro 18) := (by simp only [f_X5_image_Mkr, if_pos c1])
    have e_Mks : (f_X5_image_Mks nl ss kss) = (f_X5_copy_G ss kss 12) := (by simp only [f_X5_image_Mks, if_pos c1])
    have e_Mkb : (f_X5_image_Mkb nl bo kbo) = (f_X5_copy_G bo kbo 24) := (by simp only [f_X5_image_Mkb, if_pos c1])
    exact eXi hx hb hr hlk hQ (by rw [e_M_16, e_M_17, e_M_18, e_M_19, e_Mkr, e_Mks, e_Mkb]; exact hP) (by rw [e_M_16, e_M_17, e_M_18, e_M_19, e_Mkr, e_Mks, e_Mkb]; exact hD) hS dX5_image_79 (Eq.symm (by simp only [f_X5_image, if_pos c1]))
  · refine lv_bipush (v := (-103)) hx hb dX5_image_7 (by decide) ?_
    have e_M_16 : (f_X5_image_M_16 ofr nl ko) = ko := (by simp only [f_X5_image_M_16, if_neg c1])
    have e_M_17 : (f_X5_image_M_17 nl pe kpe) = kpe := (by simp only [f_X5_image_M_17, if_neg c1])
    have e_M_18 : (f_X5_image_M_18 nl mi kmi) = kmi := (by simp only [f_X5_image_M_18, if_neg c1])
    have e_M_19 : (f_X5_image_M_19 nl bk kbk) = kbk := (by simp only [f_X5_image_M_19, if_neg c1])
    have e_Mkr : (f_X5_image_Mkr nl ro kro) = kro := (by simp only [f_X5_image_Mkr, if_neg c1])
    have e_Mks : (f_X5_image_Mks nl ss kss) = kss := (by simp only [f_X5_image_Mks, if_neg c1])
    have e_Mkb : (f_X5_image_Mkb nl bo kbo) = kbo := (by simp only [f_X5_image_Mkb, if_neg c1])
    exact eXi hx hb hr hlk hQ (by rw [e_M_16, e_M_17, e_M_18, e_M_19, e_Mkr, e_Mks, e_Mkb]; exact hP) (by rw [e_M_16, e_M_17, e_M_18, e_M_19, e_Mkr, e_Mks, e_Mkb]; exact hD) hS dX5_image_9 (Eq.symm (by simp only [f_X5_image, if_neg c1]))

def rm_X5_restore : Room := { frames := 1, cells := 0, slots := 0, locals := 22 }
def f_X5_restore (ofr : Int32) (kmi : Int32) (ko : Int32) : Int32 := (if ko = ofr then kmi else (-103))
def f_X5_restore_M_13 (ofr : Int32) (bk : Nat) (ko : Int32) (kbk : Int32) : Int32 := (if ko = ofr then kbk else nI bk)
def f_X5_restore_M_3 (ofr : Int32) (mi : Int32) (kmi : Int32) (ko : Int32) : Int32 := (if ko = ofr then kmi else mi)
def f_X5_restore_M_6 (ofr : Int32) (pe : Nat) (kpe : Int32) (ko : Int32) : Int32 := (if ko = ofr then kpe else nI pe)
def f_X5_restore_Mr (ofr : Int32) (ko : Int32) (ro : Nat → Int32) (kro : Nat → Int32) : Nat → Int32 := (if ko = ofr then (f_X5_copy_G kro ro 18) else ro)
def f_X5_restore_Ms (ofr : Int32) (ko : Int32) (ss : Nat → Int32) (kss : Nat → Int32) : Nat → Int32 := (if ko = ofr then (f_X5_copy_G kss ss 12) else ss)
def f_X5_restore_Mo (ofr : Int32) (ko : Int32) (bo : Nat → Int32) (kbo : Nat → Int32) : Nat → Int32 := (if ko = ofr then (f_X5_copy_G kbo bo 24) else bo)
theorem hd_X5_restore : yX5_restore.cls = RX5 ∧ yX5_restore.cls ≠ "java/lang/invoke/MethodHandle" ∧ yX5_restore.cls ≠ "java/lang/invoke/VarHandle" ∧ (parseMethodDescriptor yX5_restore.desc).map (fun d => d.parameters.length) = some 0 := by decide +kernel
set_option maxHeartbeats 4000000 in
set_option maxRecDepth 100000 in
theorem c_X5_restore (l : Launch) (D : va_G) (cI : ClassId) (aM aMp aMr aMs aMl aMg aMb aMo aMkr aMks aMkb : Nat) (ofr : Int32) (rd : Int32) (pl : Nat) (nl : Nat) (mi : Int32) (pe : Nat) (kmi : Int32) (kpe : Int32) (bc : Int32) (bk : Nat) (sd : Int32) (ko : Int32) (kbk : Int32) (ha : Int64) (ro : Nat → Int32) (ss : Nat → Int32) (bo : Nat → Int32) (kro : Nat → Int32) (kss : Nat → Int32) (kbo : Nat → Int32) : MetX l yX5_restore wsX5_restore rm_X5_restore D cI [.ref aM] [(aM, .inr (5, [.ref aMp, .int (nI pl), .int (nI nl), .int mi, .int ofr, .ref aMr, .int (nI pe), .ref aMs, .ref aMl, .int bc, .int rd, .ref aMg, .ref aMb, .int (nI bk), .ref aMo, .int sd, .int ko, .int kpe, .int kmi, .int kbk, .ref aMkr, .ref aMks, .ref aMkb, .long ha])), (aMr, .inl (cI, 18, .inl ro)), (aMs, .inl (cI, 12, .inl ss)), (aMo, .inl (cI, 24, .inl bo)), (aMkr, .inl (cI, 18, .inl kro)), (aMks, .inl (cI, 12, .inl kss)), (aMkb, .inl (cI, 24, .inl kbo))] (some (.int (f_X5_restore ofr kmi ko))) [(aM, .inr (5, [.ref aMp, .int (nI pl), .int (nI nl), .int (f_X5_restore_M_3 ofr mi kmi ko), .int ofr, .ref aMr, .int (f_X5_restore_M_6 ofr pe kpe ko), .ref aMs, .ref aMl, .int bc, .int rd, .ref aMg, .ref aMb, .int (f_X5_restore_M_13 ofr bk ko kbk), .ref aMo, .int sd, .int ko, .int kpe, .int kmi, .int kbk, .ref aMkr, .ref aMks, .ref aMkb, .long ha])), (aMr, .inl (cI, 18, .inl (f_X5_restore_Mr ofr ko ro kro))), (aMs, .inl (cI, 12, .inl (f_X5_restore_Ms ofr ko ss kss))), (aMo, .inl (cI, 24, .inl (f_X5_restore_Mo ofr ko bo kbo))), (aMkr, .inl (cI, 18, .inl kro)), (aMks, .inl (cI, 12, .inl kss)), (aMkb, .inl (cI, 24, .inl kbo))] := by
  refine mX (cc := cX5_restore) (maxL := 1) (ret := (some .int)) (by decide) rfl (Nat.le_of_ble_eq_true rfl) ?_
  intro p e s m args below meth c Q A hx hb hr hml hown hts hlk hP hK hD hA hS hQ ls hl
  have hown : s.vm.findClass RX5 = some m.cls := hown
  have hl : lv_has ls 1 [(0, .ref aM)] := hl
  have w1 := hts (.fieldLink RX5 40 "DarkOfficeModel" "keptOffice" "I") (List.mem_of_getElem? (i := 1) rfl)
  have uX5 : ∀ w ∈ wsX50, w ∈ wsX5_restore := fun _ h => List.mem_cons_of_mem _ (List.mem_append_right _ h)
  have w2 := hts (.fieldLink RX5 79 "DarkOfficeModel" "officesRead" "I") (List.mem_of_getElem? (i := 2) rfl)
  have w3 := hts (.fieldLink RX5 31 "DarkOfficeModel" "keptRows" "[I") (List.mem_of_getElem? (i := 3) rfl)
  have w4 := hts (.fieldLink RX5 13 "DarkOfficeModel" "rows" "[I") (List.mem_of_getElem? (i := 4) rfl)
  have w5 := hts (.fieldLink RX5 34 "DarkOfficeModel" "keptSeats" "[I") (List.mem_of_getElem? (i := 5) rfl)
  have w6 := hts (.fieldLink RX5 16 "DarkOfficeModel" "seats" "[I") (List.mem_of_getElem? (i := 6) rfl)
  have w7 := hts (.fieldLink RX5 37 "DarkOfficeModel" "keptBooks" "[I") (List.mem_of_getElem? (i := 7) rfl)
  have w8 := hts (.fieldLink RX5 28 "DarkOfficeModel" "books" "[I") (List.mem_of_getElem? (i := 8) rfl)
  have w9 := hts (.fieldLink RX5 196 "DarkOfficeModel" "keptPeople" "I") (List.mem_of_getElem? (i := 9) rfl)
  have w10 := hts (.fieldLink RX5 73 "DarkOfficeModel" "people" "I") (List.mem_of_getElem? (i := 10) rfl)
  have w11 := hts (.fieldLink RX5 199 "DarkOfficeModel" "keptMinutes" "I") (List.mem_of_getElem? (i := 11) rfl)
  have w12 := hts (.fieldLink RX5 70 "DarkOfficeModel" "minutesNow" "I") (List.mem_of_getElem? (i := 12) rfl)
  have w13 := hts (.fieldLink RX5 202 "DarkOfficeModel" "keptBookMany" "I") (List.mem_of_getElem? (i := 13) rfl)
  have w14 := hts (.fieldLink RX5 76 "DarkOfficeModel" "bookMany" "I") (List.mem_of_getElem? (i := 14) rfl)
  refine lv_aload_n hx hb dX5_restore_0 rfl (lv_at hl 0 rfl) ?_
  refine va_get (D := D) (ci := 5) (v := .int ko) (C := RX5) (T := TX5) (N := 24) hx hb hts uX5 hown hK hP 0 rfl rfl 16 (by decide) w1 (fun _ h9 => h9) rfl dX5_restore_1 ?_
  refine lv_aload_n hx hb dX5_restore_4 rfl (lv_at hl 0 rfl) ?_
  refine va_get (D := D) (ci := 5) (v := .int ofr) (C := RX5) (T := TX5) (N := 24) hx hb hts uX5 hown hK hP 0 rfl rfl 4 (by decide) w2 (fun _ h9 => h9) rfl dX5_restore_5 ?_
  refine lv_icmp_eq (tgt := 14) hx hb dX5_restore_8 (by decide) (fun c1 => ?_) (fun c1 => ?_)
  · refine lv_aload_n hx hb dX5_restore_14 rfl (lv_at hl 0 rfl) ?_
    refine va_get (D := D) (ci := 5) (v := .ref aMkr) (C := RX5) (T := TX5) (N := 24) hx hb hts uX5 hown hK hP 0 rfl rfl 20 (by decide) w3 (fun _ h9 => h9) rfl dX5_restore_15 ?_
    refine lv_aload_n hx hb dX5_restore_18 rfl (lv_at hl 0 rfl) ?_
    refine va_get (D := D) (ci := 5) (v := .ref aMr) (C := RX5) (T := TX5) (N := 24) hx hb hts uX5 hown hK hP 0 rfl rfl 5 (by decide) w4 (fun _ h9 => h9) rfl dX5_restore_19 ?_
    refine xS (w2 := [(aM, .inr (5, [.ref aMp, .int (nI pl), .int (nI nl), .int mi, .int ofr, .ref aMr, .int (nI pe), .ref aMs, .ref aMl, .int bc, .int rd, .ref aMg, .ref aMb, .int (nI bk), .ref aMo, .int sd, .int ko, .int kpe, .int kmi, .int kbk, .ref aMkr, .ref aMks, .ref aMkb, .long ha])), (aMr, .inl (cI, 18, .inl (f_X5_copy_G kro ro 18))), (aMs, .inl (cI, 12, .inl ss)), (aMo, .inl (cI, 24, .inl bo)), (aMkr, .inl (cI, 18, .inl kro)), (aMks, .inl (cI, 12, .inl kss)), (aMkb, .inl (cI, 24, .inl kbo))]) ⟨hx, hb, hml, hown, hts⟩ (c_X5_copy l D cI aMkr aMr kro ro 18 18 (by decide) (by decide)) (va_cwS 2 hts gX5_restore_X5_copy rfl rfl rfl hd_X5_copy ⟨Nat.le_of_ble_eq_true rfl, Nat.le_of_ble_eq_true rfl⟩) hK hP hD hS hA [4, 1] [0, 2, 3, 5, 6] [0, 6, 1, 2, 5, 3, 4] rfl rfl rfl rfl rfl (by decide) rfl rfl rfl rfl hl.1 (rest := []) (st' := []) rfl rfl (Nat.le_of_ble_eq_true rfl) dX5_restore_22 ⟨Nat.zero_le _, Nat.zero_le _⟩ (fun H locs hP hD hS => ?_)
    refine lv_aload_n hx hb dX5_restore_25 rfl (lv_at hl 0 rfl) ?_
    refine va_get (D := D) (ci := 5) (v := .ref aMks) (C := RX5) (T := TX5) (N := 24) hx hb hts uX5 hown hK hP 0 rfl rfl 21 (by decide) w5 (fun _ h9 => h9) rfl dX5_restore_26 ?_
    refine lv_aload_n hx hb dX5_restore_29 rfl (lv_at hl 0 rfl) ?_
    refine va_get (D := D) (ci := 5) (v := .ref aMs) (C := RX5) (T := TX5) (N := 24) hx hb hts uX5 hown hK hP 0 rfl rfl 7 (by decide) w6 (fun _ h9 => h9) rfl dX5_restore_30 ?_
    refine xS (w2 := [(aM, .inr (5, [.ref aMp, .int (nI pl), .int (nI nl), .int mi, .int ofr, .ref aMr, .int (nI pe), .ref aMs, .ref aMl, .int bc, .int rd, .ref aMg, .ref aMb, .int (nI bk), .ref aMo, .int sd, .int ko, .int kpe, .int kmi, .int kbk, .ref aMkr, .ref aMks, .ref aMkb, .long ha])), (aMr, .inl (cI, 18, .inl (f_X5_copy_G kro ro 18))), (aMs, .inl (cI, 12, .inl (f_X5_copy_G kss ss 12))), (aMo, .inl (cI, 24, .inl bo)), (aMkr, .inl (cI, 18, .inl kro)), (aMks, .inl (cI, 12, .inl kss)), (aMkb, .inl (cI, 24, .inl kbo))]) ⟨hx, hb, hml, hown, hts⟩ (c_X5_copy l D cI aMks aMs kss ss 12 12 (by decide) (by decide)) (va_cwS 2 hts gX5_restore_X5_copy rfl rfl rfl hd_X5_copy ⟨Nat.le_of_ble_eq_true rfl, Nat.le_of_ble_eq_true rfl⟩) hK hP hD hS hA [5, 2] [0, 1, 3, 4, 6] [0, 1, 6, 2, 3, 5, 4] rfl rfl rfl rfl rfl (by decide) rfl rfl rfl rfl hl.1 (rest := []) (st' := []) rfl rfl (Nat.le_of_ble_eq_true rfl) dX5_restore_33 ⟨Nat.zero_le _, Nat.zero_le _⟩ (fun H locs hP hD hS => ?_)
    refine lv_aload_n hx hb dX5_restore_36 rfl (lv_at hl 0 rfl) ?_
    refine va_get (D := D) (ci := 5) (v := .ref aMkb) (C := RX5) (T := TX5) (N := 24) hx hb hts uX5 hown hK hP 0 rfl rfl 22 (by decide) w7 (fun _ h9 => h9) rfl dX5_restore_37 ?_
    refine lv_aload_n hx hb dX5_restore_40 rfl (lv_at hl 0 rfl) ?_
    refine va_get (D := D) (ci := 5) (v := .ref aMo) (C := RX5) (T := TX5) (N := 24) hx hb hts uX5 hown hK hP 0 rfl rfl 14 (by decide) w8 (fun _ h9 => h9) rfl dX5_restore_41 ?_
    refine xS (w2 := [(aM, .inr (5, [.ref aMp, .int (nI pl), .int (nI nl), .int mi, .int ofr, .ref aMr, .int (nI pe), .ref aMs, .ref aMl, .int bc, .int rd, .ref aMg, .ref aMb, .int (nI bk), .ref aMo, .int sd, .int ko, .int kpe, .int kmi, .int kbk, .ref aMkr, .ref aMks, .ref aMkb, .long ha])), (aMr, .inl (cI, 18, .inl (f_X5_copy_G kro ro 18))), (aMs, .inl (cI, 12, .inl (f_X5_copy_G kss ss 12))), (aMo, .inl (cI, 24, .inl (f_X5_copy_G kbo bo 24))), (aMkr, .inl (cI, 18, .inl kro)), (aMks, .inl (cI, 12, .inl kss)), (aMkb, .inl (cI, 24, .inl kbo))]) ⟨hx, hb, hml, hown, hts⟩ (c_X5_copy l D cI aMkb aMo kbo bo 24 24 (by decide) (by decide)) (va_cwS 2 hts gX5_restore_X5_copy rfl rfl rfl hd_X5_copy ⟨Nat.le_of_ble_eq_true rfl, Nat.le_of_ble_eq_true rfl⟩) hK hP hD hS hA [6, 3] [0, 1, 2, 4, 5] [0, 1, 2, 6, 3, 4, 5] rfl rfl rfl rfl rfl (by decide) rfl rfl rfl rfl hl.1 (rest := []) (st' := []) rfl rfl (Nat.le_of_ble_eq_true rfl) dX5_restore_44 ⟨Nat.zero_le _, Nat.zero_le _⟩ (fun H locs hP hD hS => ?_)
    refine lv_aload_n hx hb dX5_restore_47 rfl (lv_at hl 0 rfl) ?_
    refine lv_aload_n hx hb dX5_restore_48 rfl (lv_at hl 0 rfl) ?_
    refine va_get (D := D) (ci := 5) (v := .int kpe) (C := RX5) (T := TX5) (N := 24) hx hb hts uX5 hown hK hP 0 rfl rfl 17 (by decide) w9 (fun _ h9 => h9) rfl dX5_restore_49 ?_
    refine va_put (D := D) (ci := 5) (v := .int kpe) (ty := .int) (C := RX5) (T := TX5) (N := 24) hx hb hts uX5 tyX5 tyX5_ok nmX5 hown hK hP hD hS 0 rfl rfl 6 (by decide) w10 (fun _ h9 => h9) rfl (by decide +kernel) rfl rfl (Nat.le_of_ble_eq_true rfl) dX5_restore_52 (fun H locs hP hD hS => ?_)
    have hP : va_P D vwCl [(aM, .inr (5, [.ref aMp, .int (nI pl), .int (nI nl), .int mi, .int ofr, .ref aMr, .int kpe, .ref aMs, .ref aMl, .int bc, .int rd, .ref aMg, .ref aMb, .int (nI bk), .ref aMo, .int sd, .int ko, .int kpe, .int kmi, .int kbk, .ref aMkr, .ref aMks, .ref aMkb, .long ha])), (aMr, .inl (cI, 18, .inl (f_X5_copy_G kro ro 18))), (aMs, .inl (cI, 12, .inl (f_X5_copy_G kss ss 12))), (aMo, .inl (cI, 24, .inl (f_X5_copy_G kbo bo 24))), (aMkr, .inl (cI, 18, .inl kro)), (aMks, .inl (cI, 12, .inl kss)), (aMkb, .inl (cI, 24, .inl kbo))] H := hP
    have hD : va_D A [(aM, .inr (5, [.ref aMp, .int (nI pl), .int (nI nl), .int mi, .int ofr, .ref aMr, .int kpe, .ref aMs, .ref aMl, .int bc, .int rd, .ref aMg, .ref aMb, .int (nI bk), .ref aMo, .int sd, .int ko, .int kpe, .int kmi, .int kbk, .ref aMkr, .ref aMks, .ref aMkb, .long ha])), (aMr, .inl (cI, 18, .inl (f_X5_copy_G kro ro 18))), (aMs, .inl (cI, 12, .inl (f_X5_copy_G kss ss 12))), (aMo, .inl (cI, 24, .inl (f_X5_copy_G kbo bo 24))), (aMkr, .inl (cI, 18, .inl kro)), (aMks, .inl (cI, 12, .inl kss)), (aMkb, .inl (cI, 24, .inl kbo))] := hD
    refine lv_aload_n hx hb dX5_restore_55 rfl (lv_at hl 0 rfl) ?_
    refine lv_aload_n hx hb dX5_restore_56 rfl (lv_at hl 0 rfl) ?_
    refine va_get (D := D) (ci := 5) (v := .int kmi) (C := RX5) (T := TX5) (N := 24) hx hb hts uX5 hown hK hP 0 rfl rfl 18 (by decide) w11 (fun _ h9 => h9) rfl dX5_restore_57 ?_
    refine va_put (D := D) (ci := 5) (v := .int kmi) (ty := .int) (C := RX5) (T := TX5) (N := 24) hx hb hts uX5 tyX5 tyX5_ok nmX5 hown hK hP hD hS 0 rfl rfl 3 (by decide) w12 (fun _ h9 => h9) rfl (by decide +kernel) rfl rfl (Nat.le_of_ble_eq_true rfl) dX5_restore_60 (fun H locs hP hD hS => ?_)
    have hP : va_P D vwCl [(aM, .inr (5, [.ref aMp, .int (nI pl), .int (nI nl), .int kmi, .int ofr, .ref aMr, .int kpe, .ref aMs, .ref aMl, .int bc, .int rd, .ref aMg, .ref aMb, .int (nI bk), .ref aMo, .int sd, .int ko, .int kpe, .int kmi, .int kbk, .ref aMkr, .ref aMks, .ref aMkb, .long ha])), (aMr, .inl (cI, 18, .inl (f_X5_copy_G kro ro 18))), (aMs, .inl (cI, 12, .inl (f_X5_copy_G kss ss 12))), (aMo, .inl (cI, 24, .inl (f_X5_copy_G kbo bo 24))), (aMkr, .inl (cI, 18, .inl kro)), (aMks, .inl (cI, 12, .inl kss)), (aMkb, .inl (cI, 24, .inl kbo))] H := hP
    have hD : va_D A [(aM, .inr (5, [.ref aMp, .int (nI pl), .int (nI nl), .int kmi, .int ofr, .ref aMr, .int kpe, .ref aMs, .ref aMl, .int bc, .int rd, .ref aMg, .ref aMb, .int (nI bk), .ref aMo, .int sd, .int ko, .int kpe, .int kmi, .int kbk, .ref aMkr, .ref aMks, .ref aMkb, .long ha])), (aMr, .inl (cI, 18, .inl (f_X5_copy_G kro ro 18))), (aMs, .inl (cI, 12, .inl (f_X5_copy_G kss ss 12))), (aMo, .inl (cI, 24, .inl (f_X5_copy_G kbo bo 24))), (aMkr, .inl (cI, 18, .inl kro)), (aMks, .inl (cI, 12, .inl kss)), (aMkb, .inl (cI, 24, .inl kbo))] := hD
    refine lv_aload_n hx hb dX5_restore_63 rfl (lv_at hl 0 rfl) ?_
    refine lv_aload_n hx hb dX5_restore_64 rfl (lv_at hl 0 rfl) ?_
    refine va_get (D := D) (ci := 5) (v := .int kbk) (C := RX5) (T := TX5) (N := 24) hx hb hts uX5 hown hK hP 0 rfl rfl 19 (by decide) w13 (fun _ h9 => h9) rfl dX5_restore_65 ?_
    refine va_put (D := D) (ci := 5) (v := .int kbk) (ty := .int) (C := RX5) (T := TX5) (N := 24) hx hb hts uX5 tyX5 tyX5_ok nmX5 hown hK hP hD hS 0 rfl rfl 13 (by decide) w14 (fun _ h9 => h9) rfl (by decide +kernel) rfl rfl (Nat.le_of_ble_eq_true rfl) dX5_restore_68 (fun H locs hP hD hS => ?_)
    have hP : va_P D vwCl [(aM, .inr (5, [.ref aMp, .int (nI pl), .int (nI nl), .int kmi, .int ofr, .ref aMr, .int kpe, .ref aMs, .ref aMl, .int bc, .int rd, .ref aMg, .ref aMb, .int kbk, .ref aMo, .int sd, .int ko, .int kpe, .int kmi, .int kbk, .ref aMkr, .ref aMks, .ref aMkb, .long ha])), (aMr, .inl (cI, 18, .inl (f_X5_copy_G kro ro 18))), (aMs, .inl (cI, 12, .inl (f_X5_copy_G kss ss 12))), (aMo, .inl (cI, 24, .inl (f_X5_copy_G kbo bo 24))), (aMkr, .inl (cI, 18, .inl kro)), (aMks, .inl (cI, 12, .inl kss)), (aMkb, .inl (cI, 24, .inl kbo))] H := hP
    have hD : va_D A [(aM, .inr (5, [.ref aMp, .int (nI pl), .int (nI nl), .int kmi, .int ofr, .ref aMr, .int kpe, .ref aMs, .ref aMl, .int bc, .int rd, .ref aMg, .ref aMb, .int kbk, .ref aMo, .int sd, .int ko, .int kpe, .int kmi, .int kbk, .ref aMkr, .ref aMks, .ref aMkb, .long ha])), (aMr, .inl (cI, 18, .inl (f_X5_copy_G kro ro 18))), (aMs, .inl (cI, 12, .inl (f_X5_copy_G kss ss 12))), (aMo, .inl (cI, 24, .inl (f_X5_copy_G kbo bo 24))), (aMkr, .inl (cI, 18, .inl kro)), (aMks, .inl (cI, 12, .inl kss)), (aMkb, .inl (cI, 24, .inl kbo))] := hD
    refine lv_aload_n hx hb dX5_restore_71 rfl (lv_at hl 0 rfl) ?_
    refine va_get (D := D) (ci := 5) (v := .int kmi) (C := RX5) (T := TX5) (N := 24) hx hb hts uX5 hown hK hP 0 rfl rfl 3 (by decide) w12 (fun _ h9 => h9) rfl dX5_restore_72 ?_
    have e_M_13 : (f_X5_restore_M_13 ofr bk ko kbk) = kbk := (by simp only [f_X5_restore_M_13, if_pos c1])
    have e_M_3 : (f_X5_restore_M_3 ofr mi kmi ko) = kmi := (by simp only [f_X5_restore_M_3, if_pos c1])
    have e_M_6 : (f_X5_restore_M_6 ofr pe kpe ko) = kpe := (by simp only [f_X5_restore_M_6, if_pos c1])
    have e_Mr : (f_X5_restore_Mr ofr ko ro kro) = (f_X5_copy_G kro ro 18) := (by simp only [f_X5_restore_Mr, if_pos c1])
    have e_Ms : (f_X5_restore_Ms ofr ko ss kss) = (f_X5_copy_G kss ss 12) := (by simp only [f_X5_restore_Ms, if_pos c1])
    have e_Mo : (f_X5_restore_Mo ofr ko bo kbo) = (f_X5_copy_G kbo bo 24) := (by simp only [f_X5_restore_Mo, if_pos c1])
    exact eXi hx hb hr hlk hQ (by rw [e_M_13, e_M_3, e_M_6, e_Mr, e_Ms, e_Mo]; exact hP) (by rw [e_M_13, e_M_3, e_M_6, e_Mr, e_Ms, e_Mo]; exact hD) hS dX5_restore_75 (Eq.symm (by simp only [f_X5_restore, if_pos c1]))
  · refine lv_bipush (v := (-103)) hx hb dX5_restore_11 (by decide) ?_
    have e_M_13 : (f_X5_restore_M_13 ofr bk ko kbk) = nI bk := (by simp only [f_X5_restore_M_13, if_neg c1])
    have e_M_3 : (f_X5_restore_M_3 ofr mi kmi ko) = mi := (by simp only [f_X5_restore_M_3, if_neg c1])
    have e_M_6 : (f_X5_restore_M_6 ofr pe kpe ko) = nI pe := (by simp only [f_X5_restore_M_6, if_neg c1])
    have e_Mr : (f_X5_restore_Mr ofr ko ro kro) = ro := (by simp only [f_X5_restore_Mr, if_neg c1])
    have e_Ms : (f_X5_restore_Ms ofr ko ss kss) = ss := (by simp only [f_X5_restore_Ms, if_neg c1])
    have e_Mo : (f_X5_restore_Mo ofr ko bo kbo) = bo := (by simp only [f_X5_restore_Mo, if_neg c1])
    exact eXi hx hb hr hlk hQ (by rw [e_M_13, e_M_3, e_M_6, e_Mr, e_Ms, e_Mo]; exact hP) (by rw [e_M_13, e_M_3, e_M_6, e_Mr, e_Ms, e_Mo]; exact hD) hS dX5_restore_13 (Eq.symm (by simp only [f_X5_restore, if_neg c1]))

def rm_X5_litMany : Room := { frames := 0, cells := 0, slots := 0, locals := 0 }
def f_X5_litMany_4_v1 (ro : Nat → Int32) : Nat → Int32
  | 0 => 0
  | i1 + 1 => (if (ro ((3 * i1) + 2)) ≤ 0 then ((f_X5_litMany_4_v1 ro i1) + 0) else ((f_X5_litMany_4_v1 ro i1) + 1))
def f_X5_litMany (nl : Nat) (ro : Nat → Int32) : Int32 := (f_X5_litMany_4_v1 ro nl)
theorem hd_X5_litMany : yX5_litMany.cls = RX5 ∧ yX5_litMany.cls ≠ "java/lang/invoke/MethodHandle" ∧ yX5_litMany.cls ≠ "java/lang/invoke/VarHandle" ∧ (parseMethodDescriptor yX5_litMany.desc).map (fun d => d.parameters.length) = some 0 := by decide +kernel
set_option maxHeartbeats 4000000 in
set_option maxRecDepth 100000 in
theorem c_X5_litMany (l : Launch) (D : va_G) (cI : ClassId) (aM aMp aMr aMs aMl aMg aMb aMo aMkr aMks aMkb : Nat) (ofr : Int32) (rd : Int32) (pl : Nat) (nl : Nat) (mi : Int32) (pe : Nat) (kmi : Int32) (kpe : Int32) (bc : Int32) (bk : Nat) (sd : Int32) (ko : Int32) (kbk : Int32) (ha : Int64) (ro : Nat → Int32) (hn : nl ≤ 6) : MetR l yX5_litMany wsX5_litMany rm_X5_litMany D cI [.ref aM] [(aM, .inr (5, [.ref aMp, .int (nI pl), .int (nI nl), .int mi, .int ofr, .ref aMr, .int (nI pe), .ref aMs, .ref aMl, .int bc, .int rd, .ref aMg, .ref aMb, .int (nI bk), .ref aMo, .int sd, .int ko, .int kpe, .int kmi, .int kbk, .ref aMkr, .ref aMks, .ref aMkb, .long ha])), (aMr, .inl (cI, 18, .inl ro))] (some (.int (f_X5_litMany nl ro))) := by
  refine mR (cc := cX5_litMany) (maxL := 3) (ret := (some .int)) (by decide) rfl (Nat.le_of_ble_eq_true rfl) ?_
  intro p e s m args below meth c Q hx hb hr hml hown hts hlk hP hK hQ ls hl
  have hown : s.vm.findClass RX5 = some m.cls := hown
  have hl : lv_has ls 3 [(0, .ref aM)] := hl
  have w1 := hts (.fieldLink RX5 67 "DarkOfficeModel" "lamps" "I") (List.mem_of_getElem? (i := 1) rfl)
  have uX5 : ∀ w ∈ wsX50, w ∈ wsX5_litMany := fun _ h => List.mem_cons_of_mem _ (List.mem_append_right _ h)
  have w2 := hts (.fieldLink RX5 13 "DarkOfficeModel" "rows" "[I") (List.mem_of_getElem? (i := 2) rfl)
  refine lv_iconst (v := 0) hx hb dX5_litMany_0 (by decide) ?_
  refine lv_istore_n (lv' := [(1, .int 0), (0, .ref aM)]) hx hb dX5_litMany_1 rfl hl (by decide) rfl (fun ls hl => ?_)
  refine lv_iconst (v := 0) hx hb dX5_litMany_2 (by decide) ?_
  refine lv_istore_n (lv' := [(2, .int 0), (1, .int 0), (0, .ref aM)]) hx hb dX5_litMany_3 rfl hl (by decide) rfl (fun ls hl => ?_)
  have lp4 : ∀ (k4 i1 : Nat), i1 + k4 = nl → ∀ ls : Array Slot, lv_has ls 3 [(0, .ref aM), (1, .int ((f_X5_litMany_4_v1 ro i1))), (2, .int (nI i1))] → W p l e rm_X5_litMany s m args below meth c s.heap [] 0 0 Q (F0 m 4 ls []) := by
    intro k4
    induction k4 with
    | zero =>
      intro i1 hk4 ls hl
      have hN4 : nl = i1 := by omega
      subst hN4
      refine lv_iload_n hx hb dX5_litMany_4 rfl (lv_at hl 2 rfl) ?_
      refine lv_aload_n hx hb dX5_litMany_5 rfl (lv_at hl 0 rfl) ?_
      refine va_get (D := D) (ci := 5) (v := .int (nI nl)) (C := RX5) (T := TX5) (N := 24) hx hb hts uX5 hown hK hP 0 rfl rfl 2 (by decide) w1 (fun _ h9 => h9) rfl dX5_litMany_6 ?_
      refine lv_icmp_ge (tgt := 39) hx hb dX5_litMany_9 (by decide) (fun _ => ?_) (fun c => absurd (nle_t (a := nl) (b := nl) rfl rfl (by omega) (by omega) (by omega)) c)
      refine lv_iload_n hx hb dX5_litMany_39 rfl (lv_at hl 1 rfl) ?_
      exact eRi hx hb hr hlk hQ dX5_litMany_40 (Eq.symm (by simp only [f_X5_litMany]))
    | succ k4 ih4 =>
      intro i1 hk4 ls hl
      refine lv_iload_n hx hb dX5_litMany_4 rfl (lv_at hl 2 rfl) ?_
      refine lv_aload_n hx hb dX5_litMany_5 rfl (lv_at hl 0 rfl) ?_
      refine va_get (D := D) (ci := 5) (v := .int (nI nl)) (C := RX5) (T := TX5) (N := 24) hx hb hts uX5 hown hK hP 0 rfl rfl 2 (by decide) w1 (fun _ h9 => h9) rfl dX5_litMany_6 ?_
      refine lv_icmp_ge (tgt := 39) hx hb dX5_litMany_9 (by decide) (fun c => absurd c (nle_f (a := nl) (b := i1) rfl rfl (by omega) (by omega) (by omega))) (fun _ => ?_)
      refine lv_iload_n hx hb dX5_litMany_12 rfl (lv_at hl 1 rfl) ?_
      refine lv_aload_n hx hb dX5_litMany_13 rfl (lv_at hl 0 rfl) ?_
      refine va_get (D := D) (ci := 5) (v := .ref aMr) (C := RX5) (T := TX5) (N := 24) hx hb hts uX5 hown hK hP 0 rfl rfl 5 (by decide) w2 (fun _ h9 => h9) rfl dX5_litMany_14 ?_
      refine lv_iconst (v := 3) hx hb dX5_litMany_17 (by decide) ?_
      refine lv_iload_n hx hb dX5_litMany_18 rfl (lv_at hl 2 rfl) ?_
      refine lv_imul hx hb dX5_litMany_19 ?_
      refine lv_iconst (v := 2) hx hb dX5_litMany_20 (by decide) ?_
      refine lv_iadd hx hb dX5_litMany_21 ?_
      refine xald hx hb hK hP 1 rfl ((3 * i1) + 2) (ix_add (ix_mul rfl rfl) rfl) (by omega) (by decide) dX5_litMany_22 ?_
      refine lv_if_le (tgt := 30) hx hb dX5_litMany_23 (by decide) (fun c1 => ?_) (fun c1 => ?_)
      · refine lv_iconst (v := 0) hx hb dX5_litMany_30 (by decide) ?_
        refine lv_iadd hx hb dX5_litMany_31 ?_
        refine lv_istore_n (lv' := [(1, .int ((f_X5_litMany_4_v1 ro i1) + 0)), (0, .ref aM), (2, .int (nI i1))]) hx hb dX5_litMany_32 rfl hl (by decide) rfl (fun ls hl => ?_)
        refine lv_iinc (v := nI (i1 + 1)) (lv' := [(2, .int (nI (i1 + 1))), (1, .int ((f_X5_litMany_4_v1 ro i1) + 0)), (0, .ref aM)]) hx hb dX5_litMany_33 hl (k := 2) rfl (nI_add i1 1) (by decide) rfl (fun ls hl => ?_)
        refine lv_goto (tgt := 4) hx hb dX5_litMany_36 (by decide) ?_
        have e_v1 : (f_X5_litMany_4_v1 ro (i1 + 1)) = ((f_X5_litMany_4_v1 ro i1) + 0) := (by simp only [f_X5_litMany_4_v1, if_pos c1])
        exact ih4 (i1 + 1) (by omega) ls (by rw [e_v1]; exact lv_sub hl [2, 1, 0] rfl)
      · refine lv_iconst (v := 1) hx hb dX5_litMany_26 (by decide) ?_
        refine lv_goto (tgt := 31) hx hb dX5_litMany_27 (by decide) ?_
        refine lv_iadd hx hb dX5_litMany_31 ?_
        refine lv_istore_n (lv' := [(1, .int ((f_X5_litMany_4_v1 ro i1) + 1)), (0, .ref aM), (2, .int (nI i1))]) hx hb dX5_litMany_32 rfl hl (by decide) rfl (fun ls hl => ?_)
        refine lv_iinc (v := nI (i1 + 1)) (lv' := [(2, .int (nI (i1 + 1))), (1, .int ((f_X5_litMany_4_v1 ro i1) + 1)), (0, .ref aM)]) hx hb dX5_litMany_33 hl (k := 2) rfl (nI_add i1 1) (by decide) rfl (fun ls hl => ?_)
        refine lv_goto (tgt := 4) hx hb dX5_litMany_36 (by decide) ?_
        have e_v1 : (f_X5_litMany_4_v1 ro (i1 + 1)) = ((f_X5_litMany_4_v1 ro i1) + 1) := (by simp only [f_X5_litMany_4_v1, if_neg c1])
        exact ih4 (i1 + 1) (by omega) ls (by rw [e_v1]; exact lv_sub hl [2, 1, 0] rfl)
  exact lp4 nl 0 (by omega) ls (lv_sub hl [2, 1, 0] rfl)

def rm_X5_sumBy : Room := { frames := 1, cells := 0, slots := 0, locals := 22 }
def f_X5_sumBy_4_v2 (ro : Nat → Int32) (ss : Nat → Int32) (what : Int32) : Nat → Int32
  | 0 => 0
  | i1 + 1 => ((f_X5_sumBy_4_v2 ro ss what i1) + (f_X5_tell ro ss i1 what))
def f_X5_sumBy (pe : Nat) (ro : Nat → Int32) (ss : Nat → Int32) (what : Int32) : Int32 := (f_X5_sumBy_4_v2 ro ss what pe)
theorem hd_X5_sumBy : yX5_sumBy.cls = RX5 ∧ yX5_sumBy.cls ≠ "java/lang/invoke/MethodHandle" ∧ yX5_sumBy.cls ≠ "java/lang/invoke/VarHandle" ∧ (parseMethodDescriptor yX5_sumBy.desc).map (fun d => d.parameters.length) = some 1 := by decide +kernel
set_option maxHeartbeats 4000000 in
set_option maxRecDepth 100000 in
theorem c_X5_sumBy (l : Launch) (D : va_G) (cI : ClassId) (aM aMp aMr aMs aMl aMg aMb aMo aMkr aMks aMkb : Nat) (ofr : Int32) (rd : Int32) (pl : Nat) (nl : Nat) (mi : Int32) (pe : Nat) (kmi : Int32) (kpe : Int32) (bc : Int32) (bk : Nat) (sd : Int32) (ko : Int32) (kbk : Int32) (ha : Int64) (ro : Nat → Int32) (ss : Nat → Int32) (what : Int32) (hpe : pe ≤ 4) (hss : ∀ j, j < pe → vp_in (ss (3 * j)) 6) : MetR l yX5_sumBy wsX5_sumBy rm_X5_sumBy D cI [.ref aM, .int what] [(aM, .inr (5, [.ref aMp, .int (nI pl), .int (nI nl), .int mi, .int ofr, .ref aMr, .int (nI pe), .ref aMs, .ref aMl, .int bc, .int rd, .ref aMg, .ref aMb, .int (nI bk), .ref aMo, .int sd, .int ko, .int kpe, .int kmi, .int kbk, .ref aMkr, .ref aMks, .ref aMkb, .long ha])), (aMr, .inl (cI, 18, .inl ro)), (aMs, .inl (cI, 12, .inl ss))] (some (.int (f_X5_sumBy pe ro ss what))) := by
  refine mR (cc := cX5_sumBy) (maxL := 4) (ret := (some .int)) (by decide) rfl (Nat.le_of_ble_eq_true rfl) ?_
  intro p e s m args below meth c Q hx hb hr hml hown hts hlk hP hK hQ ls hl
  have hown : s.vm.findClass RX5 = some m.cls := hown
  have hl : lv_has ls 4 [(0, .ref aM), (1, .int what)] := hl
  have w1 := hts (.fieldLink RX5 73 "DarkOfficeModel" "people" "I") (List.mem_of_getElem? (i := 1) rfl)
  have uX5 : ∀ w ∈ wsX50, w ∈ wsX5_sumBy := fun _ h => List.mem_cons_of_mem _ (List.mem_append_right _ h)
  refine lv_iconst (v := 0) hx hb dX5_sumBy_0 (by decide) ?_
  refine lv_istore_n (lv' := [(2, .int 0), (0, .ref aM), (1, .int what)]) hx hb dX5_sumBy_1 rfl hl (by decide) rfl (fun ls hl => ?_)
  refine lv_iconst (v := 0) hx hb dX5_sumBy_2 (by decide) ?_
  refine lv_istore_n (lv' := [(3, .int 0), (2, .int 0), (0, .ref aM), (1, .int what)]) hx hb dX5_sumBy_3 rfl hl (by decide) rfl (fun ls hl => ?_)
  have lp4 : ∀ (k4 i1 : Nat), i1 + k4 = pe → ∀ ls : Array Slot, lv_has ls 4 [(0, .ref aM), (1, .int what), (2, .int ((f_X5_sumBy_4_v2 ro ss what i1))), (3, .int (nI i1))] → W p l e rm_X5_sumBy s m args below meth c s.heap [] 0 0 Q (F0 m 4 ls []) := by
    intro k4
    induction k4 with
    | zero =>
      intro i1 hk4 ls hl
      have hN4 : pe = i1 := by omega
      subst hN4
      refine lv_iload_n hx hb dX5_sumBy_4 rfl (lv_at hl 3 rfl) ?_
      refine lv_aload_n hx hb dX5_sumBy_5 rfl (lv_at hl 0 rfl) ?_
      refine va_get (D := D) (ci := 5) (v := .int (nI pe)) (C := RX5) (T := TX5) (N := 24) hx hb hts uX5 hown hK hP 0 rfl rfl 6 (by decide) w1 (fun _ h9 => h9) rfl dX5_sumBy_6 ?_
      refine lv_icmp_ge (tgt := 27) hx hb dX5_sumBy_9 (by decide) (fun _ => ?_) (fun c => absurd (nle_t (a := pe) (b := pe) rfl rfl (by omega) (by omega) (by omega)) c)
      refine lv_iload_n hx hb dX5_sumBy_27 rfl (lv_at hl 2 rfl) ?_
      exact eRi hx hb hr hlk hQ dX5_sumBy_28 (Eq.symm (by simp only [f_X5_sumBy]))
    | succ k4 ih4 =>
      intro i1 hk4 ls hl
      refine lv_iload_n hx hb dX5_sumBy_4 rfl (lv_at hl 3 rfl) ?_
      refine lv_aload_n hx hb dX5_sumBy_5 rfl (lv_at hl 0 rfl) ?_
      refine va_get (D := D) (ci := 5) (v := .int (nI pe)) (C := RX5) (T := TX5) (N := 24) hx hb hts uX5 hown hK hP 0 rfl rfl 6 (by decide) w1 (fun _ h9 => h9) rfl dX5_sumBy_6 ?_
      refine lv_icmp_ge (tgt := 27) hx hb dX5_sumBy_9 (by decide) (fun c => absurd c (nle_f (a := pe) (b := i1) rfl rfl (by omega) (by omega) (by omega))) (fun _ => ?_)
      refine lv_iload_n hx hb dX5_sumBy_12 rfl (lv_at hl 2 rfl) ?_
      refine lv_aload_n hx hb dX5_sumBy_13 rfl (lv_at hl 0 rfl) ?_
      refine lv_iload_n hx hb dX5_sumBy_14 rfl (lv_at hl 3 rfl) ?_
      refine lv_iload_n hx hb dX5_sumBy_15 rfl (lv_at hl 1 rfl) ?_
      refine rV ⟨hx, hb, hml, hown, hts⟩ (c_X5_tell l D cI aM aMp aMr aMs aMl aMg aMb aMo aMkr aMks aMkb ofr rd pl nl mi pe kmi kpe bc bk sd ko kbk ha ro ss i1 what hpe (by omega) hss) (cwV 2 hts gX5_sumBy_X5_tell rfl rfl rfl hd_X5_tell ⟨Nat.le_of_ble_eq_true rfl, Nat.le_of_ble_eq_true rfl⟩) hK (hP.sub [0, 1, 2] rfl) 0 rfl rfl rfl rfl hl.1 (rest := [.int ((f_X5_sumBy_4_v2 ro ss what i1))]) (st' := [.int (f_X5_tell ro ss i1 what), .int ((f_X5_sumBy_4_v2 ro ss what i1))]) rfl rfl (Nat.le_of_ble_eq_true rfl) dX5_sumBy_16 ⟨Nat.zero_le _, Nat.zero_le _⟩ ?_
      refine lv_iadd hx hb dX5_sumBy_19 ?_
      refine lv_istore_n (lv' := [(2, .int ((f_X5_sumBy_4_v2 ro ss what i1) + (f_X5_tell ro ss i1 what))), (0, .ref aM), (1, .int what), (3, .int (nI i1))]) hx hb dX5_sumBy_20 rfl hl (by decide) rfl (fun ls hl => ?_)
      refine lv_iinc (v := nI (i1 + 1)) (lv' := [(3, .int (nI (i1 + 1))), (2, .int ((f_X5_sumBy_4_v2 ro ss what i1) + (f_X5_tell ro ss i1 what))), (0, .ref aM), (1, .int what)]) hx hb dX5_sumBy_21 hl (k := 3) rfl (nI_add i1 1) (by decide) rfl (fun ls hl => ?_)
      refine lv_goto (tgt := 4) hx hb dX5_sumBy_24 (by decide) ?_
      have e_v2 : (f_X5_sumBy_4_v2 ro ss what (i1 + 1)) = ((f_X5_sumBy_4_v2 ro ss what i1) + (f_X5_tell ro ss i1 what)) := (by simp only [f_X5_sumBy_4_v2])
      exact ih4 (i1 + 1) (by omega) ls (by rw [e_v2]; exact lv_sub hl [2, 3, 1, 0] rfl)
  exact lp4 pe 0 (by omega) ls (lv_sub hl [2, 3, 1, 0] rfl)

def rm_X5_countOf : Room := { frames := 2, cells := 0, slots := 0, locals := 45 }
def f_X5_countOf (ofr : Int32) (rd : Int32) (pl : Nat) (nl : Nat) (mi : Int32) (pe : Nat) (bk : Nat) (ro : Nat → Int32) (ss : Nat → Int32) (what : Int32) : Int32 := (if what = 0 then nI nl else (if what = 1 then (f_X5_litMany nl ro) else (if what = 2 then nI pe else (if what = 3 then (f_X5_sumBy pe ro ss 1) else (if what = 4 then mi else (if what = 5 then (f_X5_sumBy pe ro ss (what - 3)) else (if what = 6 then (f_X5_sumBy pe ro ss (what - 3)) else (if what = 7 then nI bk else (if what = 8 then nI pl else (if what = 9 then ofr else (if what = 10 then rd else (-102))))))))))))
theorem hd_X5_countOf : yX5_countOf.cls = RX5 ∧ yX5_countOf.cls ≠ "java/lang/invoke/MethodHandle" ∧ yX5_countOf.cls ≠ "java/lang/invoke/VarHandle" ∧ (parseMethodDescriptor yX5_countOf.desc).map (fun d => d.parameters.length) = some 1 := by decide +kernel
set_option maxHeartbeats 4000000 in
set_option maxRecDepth 100000 in
theorem c_X5_countOf (l : Launch) (D : va_G) (cI : ClassId) (aM aMp aMr aMs aMl aMg aMb aMo aMkr aMks aMkb : Nat) (ofr : Int32) (rd : Int32) (pl : Nat) (nl : Nat) (mi : Int32) (pe : Nat) (kmi : Int32) (kpe : Int32) (bc : Int32) (bk : Nat) (sd : Int32) (ko : Int32) (kbk : Int32) (ha : Int64) (ro : Nat → Int32) (ss : Nat → Int32) (what : Int32) (hn : nl ≤ 6) (hpe : pe ≤ 4) (hss : ∀ j, j < pe → vp_in (ss (3 * j)) 6) : MetR l yX5_countOf wsX5_countOf rm_X5_countOf D cI [.ref aM, .int what] [(aM, .inr (5, [.ref aMp, .int (nI pl), .int (nI nl), .int mi, .int ofr, .ref aMr, .int (nI pe), .ref aMs, .ref aMl, .int bc, .int rd, .ref aMg, .ref aMb, .int (nI bk), .ref aMo, .int sd, .int ko, .int kpe, .int kmi, .int kbk, .ref aMkr, .ref aMks, .ref aMkb, .long ha])), (aMr, .inl (cI, 18, .inl ro)), (aMs, .inl (cI, 12, .inl ss))] (some (.int (f_X5_countOf ofr rd pl nl mi pe bk ro ss what))) := by
  refine mR (cc := cX5_countOf) (maxL := 2) (ret := (some .int)) (by decide) rfl (Nat.le_of_ble_eq_true rfl) ?_
  intro p e s m args below meth c Q hx hb hr hml hown hts hlk hP hK hQ ls hl
  have hown : s.vm.findClass RX5 = some m.cls := hown
  have hl : lv_has ls 2 [(0, .ref aM), (1, .int what)] := hl
  have w1 := hts (.fieldLink RX5 67 "DarkOfficeModel" "lamps" "I") (List.mem_of_getElem? (i := 1) rfl)
  have uX5 : ∀ w ∈ wsX50, w ∈ wsX5_countOf := fun _ h => List.mem_cons_of_mem _ (List.mem_append_right _ h)
  have w2 := hts (.fieldLink RX5 73 "DarkOfficeModel" "people" "I") (List.mem_of_getElem? (i := 2) rfl)
  have w3 := hts (.fieldLink RX5 70 "DarkOfficeModel" "minutesNow" "I") (List.mem_of_getElem? (i := 3) rfl)
  have w4 := hts (.fieldLink RX5 76 "DarkOfficeModel" "bookMany" "I") (List.mem_of_getElem? (i := 4) rfl)
  have w5 := hts (.fieldLink RX5 50 "DarkOfficeModel" "pageMany" "I") (List.mem_of_getElem? (i := 5) rfl)
  have w6 := hts (.fieldLink RX5 79 "DarkOfficeModel" "officesRead" "I") (List.mem_of_getElem? (i := 6) rfl)
  have w7 := hts (.fieldLink RX5 155 "DarkOfficeModel" "roundMany" "I") (List.mem_of_getElem? (i := 7) rfl)
  refine lv_iload_n hx hb dX5_countOf_0 rfl (lv_at hl 1 rfl) ?_
  by_cases c1 : what = 0
  · refine lv_tableIn (off := 59) (tgt := 60) hx hb dX5_countOf_1 (by rw [c1]; decide) (by rw [c1]; decide) (by rw [c1]; rfl) (by decide) ?_
    refine lv_aload_n hx hb dX5_countOf_60 rfl (lv_at hl 0 rfl) ?_
    refine va_get (D := D) (ci := 5) (v := .int (nI nl)) (C := RX5) (T := TX5) (N := 24) hx hb hts uX5 hown hK hP 0 rfl rfl 2 (by decide) w1 (fun _ h9 => h9) rfl dX5_countOf_61 ?_
    exact eRi hx hb hr hlk hQ dX5_countOf_64 (Eq.symm (by simp only [f_X5_countOf, if_pos c1]))
  · by_cases c2 : what = 1
    · refine lv_tableIn (off := 64) (tgt := 65) hx hb dX5_countOf_1 (by rw [c2]; decide) (by rw [c2]; decide) (by rw [c2]; rfl) (by decide) ?_
      refine lv_aload_n hx hb dX5_countOf_65 rfl (lv_at hl 0 rfl) ?_
      refine rV ⟨hx, hb, hml, hown, hts⟩ (c_X5_litMany l D cI aM aMp aMr aMs aMl aMg aMb aMo aMkr aMks aMkb ofr rd pl nl mi pe kmi kpe bc bk sd ko kbk ha ro hn) (cwV 0 hts gX5_countOf_X5_litMany rfl rfl rfl hd_X5_litMany ⟨Nat.le_of_ble_eq_true rfl, Nat.le_of_ble_eq_true rfl⟩) hK (hP.sub [0, 1] rfl) 0 rfl rfl rfl rfl hl.1 (rest := []) (st' := [.int (f_X5_litMany nl ro)]) rfl rfl (Nat.le_of_ble_eq_true rfl) dX5_countOf_66 ⟨Nat.zero_le _, Nat.zero_le _⟩ ?_
      exact eRi hx hb hr hlk hQ dX5_countOf_69 (Eq.symm (by simp only [f_X5_countOf, if_neg c1, if_pos c2]))
    · by_cases c3 : what = 2
      · refine lv_tableIn (off := 69) (tgt := 70) hx hb dX5_countOf_1 (by rw [c3]; decide) (by rw [c3]; decide) (by rw [c3]; rfl) (by decide) ?_
        refine lv_aload_n hx hb dX5_countOf_70 rfl (lv_at hl 0 rfl) ?_
        refine va_get (D := D) (ci := 5) (v := .int (nI pe)) (C := RX5) (T := TX5) (N := 24) hx hb hts uX5 hown hK hP 0 rfl rfl 6 (by decide) w2 (fun _ h9 => h9) rfl dX5_countOf_71 ?_
        exact eRi hx hb hr hlk hQ dX5_countOf_74 (Eq.symm (by simp only [f_X5_countOf, if_neg c1, if_neg c2, if_pos c3]))
      · by_cases c4 : what = 3
        · refine lv_tableIn (off := 74) (tgt := 75) hx hb dX5_countOf_1 (by rw [c4]; decide) (by rw [c4]; decide) (by rw [c4]; rfl) (by decide) ?_
          refine lv_aload_n hx hb dX5_countOf_75 rfl (lv_at hl 0 rfl) ?_
          refine lv_iconst (v := 1) hx hb dX5_countOf_76 (by decide) ?_
          refine rV ⟨hx, hb, hml, hown, hts⟩ (c_X5_sumBy l D cI aM aMp aMr aMs aMl aMg aMb aMo aMkr aMks aMkb ofr rd pl nl mi pe kmi kpe bc bk sd ko kbk ha ro ss 1 hpe hss) (cwV 1 hts gX5_countOf_X5_sumBy rfl rfl rfl hd_X5_sumBy ⟨Nat.le_of_ble_eq_true rfl, Nat.le_of_ble_eq_true rfl⟩) hK (hP.sub [0, 1, 2] rfl) 0 rfl rfl rfl rfl hl.1 (rest := []) (st' := [.int (f_X5_sumBy pe ro ss 1)]) rfl rfl (Nat.le_of_ble_eq_true rfl) dX5_countOf_77 ⟨Nat.zero_le _, Nat.zero_le _⟩ ?_
          exact eRi hx hb hr hlk hQ dX5_countOf_80 (Eq.symm (by simp only [f_X5_countOf, if_neg c1, if_neg c2, if_neg c3, if_pos c4]))
        · by_cases c5 : what = 4
          · refine lv_tableIn (off := 80) (tgt := 81) hx hb dX5_countOf_1 (by rw [c5]; decide) (by rw [c5]; decide) (by rw [c5]; rfl) (by decide) ?_
            refine lv_aload_n hx hb dX5_countOf_81 rfl (lv_at hl 0 rfl) ?_
            refine va_get (D := D) (ci := 5) (v := .int mi) (C := RX5) (T := TX5) (N := 24) hx hb hts uX5 hown hK hP 0 rfl rfl 3 (by decide) w3 (fun _ h9 => h9) rfl dX5_countOf_82 ?_
            exact eRi hx hb hr hlk hQ dX5_countOf_85 (Eq.symm (by simp only [f_X5_countOf, if_neg c1, if_neg c2, if_neg c3, if_neg c4, if_pos c5]))
          · by_cases c6 : what = 5
            · refine lv_tableIn (off := 85) (tgt := 86) hx hb dX5_countOf_1 (by rw [c6]; decide) (by rw [c6]; decide) (by rw [c6]; rfl) (by decide) ?_
              refine lv_aload_n hx hb dX5_countOf_86 rfl (lv_at hl 0 rfl) ?_
              refine lv_iload_n hx hb dX5_countOf_87 rfl (lv_at hl 1 rfl) ?_
              refine lv_iconst (v := 3) hx hb dX5_countOf_88 (by decide) ?_
              refine lv_isub hx hb dX5_countOf_89 ?_
              refine rV ⟨hx, hb, hml, hown, hts⟩ (c_X5_sumBy l D cI aM aMp aMr aMs aMl aMg aMb aMo aMkr aMks aMkb ofr rd pl nl mi pe kmi kpe bc bk sd ko kbk ha ro ss (what - 3) hpe hss) (cwV 1 hts gX5_countOf_X5_sumBy rfl rfl rfl hd_X5_sumBy ⟨Nat.le_of_ble_eq_true rfl, Nat.le_of_ble_eq_true rfl⟩) hK (hP.sub [0, 1, 2] rfl) 0 rfl rfl rfl rfl hl.1 (rest := []) (st' := [.int (f_X5_sumBy pe ro ss (what - 3))]) rfl rfl (Nat.le_of_ble_eq_true rfl) dX5_countOf_90 ⟨Nat.zero_le _, Nat.zero_le _⟩ ?_
              exact eRi hx hb hr hlk hQ dX5_countOf_93 (Eq.symm (by simp only [f_X5_countOf, if_neg c1, if_neg c2, if_neg c3, if_neg c4, if_neg c5, if_pos c6]))
            · by_cases c7 : what = 6
              · refine lv_tableIn (off := 85) (tgt := 86) hx hb dX5_countOf_1 (by rw [c7]; decide) (by rw [c7]; decide) (by rw [c7]; rfl) (by decide) ?_
                refine lv_aload_n hx hb dX5_countOf_86 rfl (lv_at hl 0 rfl) ?_
                refine lv_iload_n hx hb dX5_countOf_87 rfl (lv_at hl 1 rfl) ?_
                refine lv_iconst (v := 3) hx hb dX5_countOf_88 (by decide) ?_
                refine lv_isub hx hb dX5_countOf_89 ?_
                refine rV ⟨hx, hb, hml, hown, hts⟩ (c_X5_sumBy l D cI aM aMp aMr aMs aMl aMg aMb aMo aMkr aMks aMkb ofr rd pl nl mi pe kmi kpe bc bk sd ko kbk ha ro ss (what - 3) hpe hss) (cwV 1 hts gX5_countOf_X5_sumBy rfl rfl rfl hd_X5_sumBy ⟨Nat.le_of_ble_eq_true rfl, Nat.le_of_ble_eq_true rfl⟩) hK (hP.sub [0, 1, 2] rfl) 0 rfl rfl rfl rfl hl.1 (rest := []) (st' := [.int (f_X5_sumBy pe ro ss (what - 3))]) rfl rfl (Nat.le_of_ble_eq_true rfl) dX5_countOf_90 ⟨Nat.zero_le _, Nat.zero_le _⟩ ?_
                exact eRi hx hb hr hlk hQ dX5_countOf_93 (Eq.symm (by simp only [f_X5_countOf, if_neg c1, if_neg c2, if_neg c3, if_neg c4, if_neg c5, if_neg c6, if_pos c7]))
              · by_cases c8 : what = 7
                · refine lv_tableIn (off := 93) (tgt := 94) hx hb dX5_countOf_1 (by rw [c8]; decide) (by rw [c8]; decide) (by rw [c8]; rfl) (by decide) ?_
                  refine lv_aload_n hx hb dX5_countOf_94 rfl (lv_at hl 0 rfl) ?_
                  refine va_get (D := D) (ci := 5) (v := .int (nI bk)) (C := RX5) (T := TX5) (N := 24) hx hb hts uX5 hown hK hP 0 rfl rfl 13 (by decide) w4 (fun _ h9 => h9) rfl dX5_countOf_95 ?_
                  exact eRi hx hb hr hlk hQ dX5_countOf_98 (Eq.symm (by simp only [f_X5_countOf, if_neg c1, if_neg c2, if_neg c3, if_neg c4, if_neg c5, if_neg c6, if_neg c7, if_pos c8]))
                · by_cases c9 : what = 8
                  · refine lv_tableIn (off := 98) (tgt := 99) hx hb dX5_countOf_1 (by rw [c9]; decide) (by rw [c9]; decide) (by rw [c9]; rfl) (by decide) ?_
                    refine lv_aload_n hx hb dX5_countOf_99 rfl (lv_at hl 0 rfl) ?_
                    refine va_get (D := D) (ci := 5) (v := .int (nI pl)) (C := RX5) (T := TX5) (N := 24) hx hb hts uX5 hown hK hP 0 rfl rfl 1 (by decide) w5 (fun _ h9 => h9) rfl dX5_countOf_100 ?_
                    exact eRi hx hb hr hlk hQ dX5_countOf_103 (Eq.symm (by simp only [f_X5_countOf, if_neg c1, if_neg c2, if_neg c3, if_neg c4, if_neg c5, if_neg c6, if_neg c7, if_neg c8, if_pos c9]))
                  · by_cases c10 : what = 9
                    · refine lv_tableIn (off := 103) (tgt := 104) hx hb dX5_countOf_1 (by rw [c10]; decide) (by rw [c10]; decide) (by rw [c10]; rfl) (by decide) ?_
                      refine lv_aload_n hx hb dX5_countOf_104 rfl (lv_at hl 0 rfl) ?_
                      refine va_get (D := D) (ci := 5) (v := .int ofr) (C := RX5) (T := TX5) (N := 24) hx hb hts uX5 hown hK hP 0 rfl rfl 4 (by decide) w6 (fun _ h9 => h9) rfl dX5_countOf_105 ?_
                      exact eRi hx hb hr hlk hQ dX5_countOf_108 (Eq.symm (by simp only [f_X5_countOf, if_neg c1, if_neg c2, if_neg c3, if_neg c4, if_neg c5, if_neg c6, if_neg c7, if_neg c8, if_neg c9, if_pos c10]))
                    · by_cases c11 : what = 10
                      · refine lv_tableIn (off := 108) (tgt := 109) hx hb dX5_countOf_1 (by rw [c11]; decide) (by rw [c11]; decide) (by rw [c11]; rfl) (by decide) ?_
                        refine lv_aload_n hx hb dX5_countOf_109 rfl (lv_at hl 0 rfl) ?_
                        refine va_get (D := D) (ci := 5) (v := .int rd) (C := RX5) (T := TX5) (N := 24) hx hb hts uX5 hown hK hP 0 rfl rfl 10 (by decide) w7 (fun _ h9 => h9) rfl dX5_countOf_110 ?_
                        exact eRi hx hb hr hlk hQ dX5_countOf_113 (Eq.symm (by simp only [f_X5_countOf, if_neg c1, if_neg c2, if_neg c3, if_neg c4, if_neg c5, if_neg c6, if_neg c7, if_neg c8, if_neg c9, if_neg c10, if_pos c11]))
                      · have z1_0 := lv_neT (a := 0) c1 (by decide)
                        have z1_1 := lv_neT (a := 1) c2 (by decide)
                        have z1_2 := lv_neT (a := 2) c3 (by decide)
                        have z1_3 := lv_neT (a := 3) c4 (by decide)
                        have z1_4 := lv_neT (a := 4) c5 (by decide)
                        have z1_5 := lv_neT (a := 5) c6 (by decide)
                        have z1_6 := lv_neT (a := 6) c7 (by decide)
                        have z1_7 := lv_neT (a := 7) c8 (by decide)
                        have z1_8 := lv_neT (a := 8) c9 (by decide)
                        have z1_9 := lv_neT (a := 9) c10 (by decide)
                        have z1_10 := lv_neT (a := 10) c11 (by decide)
                        refine lv_tableOut (tgt := 114) hx hb dX5_countOf_1 (by omega) (by decide) ?_
                        refine lv_bipush (v := (-102)) hx hb dX5_countOf_114 (by decide) ?_
                        exact eRi hx hb hr hlk hQ dX5_countOf_116 (Eq.symm (by simp only [f_X5_countOf, if_neg c1, if_neg c2, if_neg c3, if_neg c4, if_neg c5, if_neg c6, if_neg c7, if_neg c8, if_neg c9, if_neg c10, if_neg c11]))

def rm_X5_count : Room := { frames := 3, cells := 0, slots := 0, locals := 66 }
def f_X5_count (ofr : Int32) (rd : Int32) (pl : Nat) (nl : Nat) (mi : Int32) (pe : Nat) (bk : Nat) (ro : Nat → Int32) (ss : Nat → Int32) (what : Int32) : Int32 := (f_X5_countOf ofr rd pl nl mi pe bk ro ss what)
theorem hd_X5_count : yX5_count.cls = RX5 ∧ yX5_count.cls ≠ "java/lang/invoke/MethodHandle" ∧ yX5_count.cls ≠ "java/lang/invoke/VarHandle" ∧ (parseMethodDescriptor yX5_count.desc).map (fun d => d.parameters.length) = some 1 := by decide +kernel
set_option maxHeartbeats 4000000 in
set_option maxRecDepth 100000 in
theorem c_X5_count (l : Launch) (D : va_G) (cI : ClassId) (aM aMp aMr aMs aMl aMg aMb aMo aMkr aMks aMkb : Nat) (ofr : Int32) (rd : Int32) (pl : Nat) (nl : Nat) (mi : Int32) (pe : Nat) (kmi : Int32) (kpe : Int32) (bc : Int32) (bk : Nat) (sd : Int32) (ko : Int32) (kbk : Int32) (ha : Int64) (ro : Nat → Int32) (ss : Nat → Int32) (what : Int32) (hn : nl ≤ 6) (hpe : pe ≤ 4) (hss : ∀ j, j < pe → vp_in (ss (3 * j)) 6) : MetR l yX5_count wsX5_count rm_X5_count D cI [.ref aM, .int what] [(aM, .inr (5, [.ref aMp, .int (nI pl), .int (nI nl), .int mi, .int ofr, .ref aMr, .int (nI pe), .ref aMs, .ref aMl, .int bc, .int rd, .ref aMg, .ref aMb, .int (nI bk), .ref aMo, .int sd, .int ko, .int kpe, .int kmi, .int kbk, .ref aMkr, .ref aMks, .ref aMkb, .long ha])), (aMr, .inl (cI, 18, .inl ro)), (aMs, .inl (cI, 12, .inl ss))] (some (.int (f_X5_count ofr rd pl nl mi pe bk ro ss what))) := by
  refine mR (cc := cX5_count) (maxL := 2) (ret := (some .int)) (by decide) rfl (Nat.le_of_ble_eq_true rfl) ?_
  intro p e s m args below meth c Q hx hb hr hml hown hts hlk hP hK hQ ls hl
  have hown : s.vm.findClass RX5 = some m.cls := hown
  have hl : lv_has ls 2 [(0, .ref aM), (1, .int what)] := hl
  refine lv_aload_n hx hb dX5_count_0 rfl (lv_at hl 0 rfl) ?_
  refine lv_iload_n hx hb dX5_count_1 rfl (lv_at hl 1 rfl) ?_
  refine rV ⟨hx, hb, hml, hown, hts⟩ (c_X5_countOf l D cI aM aMp aMr aMs aMl aMg aMb aMo aMkr aMks aMkb ofr rd pl nl mi pe kmi kpe bc bk sd ko kbk ha ro ss what hn hpe hss) (cwV 1 hts gX5_count_X5_countOf rfl rfl rfl hd_X5_countOf ⟨Nat.le_of_ble_eq_true rfl, Nat.le_of_ble_eq_true rfl⟩) hK (hP.sub [0, 1, 2] rfl) 0 rfl rfl rfl rfl hl.1 (rest := []) (st' := [.int (f_X5_countOf ofr rd pl nl mi pe bk ro ss what)]) rfl rfl (Nat.le_of_ble_eq_true rfl) dX5_count_2 ⟨Nat.zero_le _, Nat.zero_le _⟩ ?_
  exact eRi hx hb hr hlk hQ dX5_count_5 (Eq.symm (by simp only [f_X5_count]))

def rm_X5_say : Room := { frames := 0, cells := 0, slots := 0, locals := 0 }
def f_X5_say_M_23 (ha : Int64) (sv : Int64) : Int64 := ((31 * ha) + sv)
theorem hd_X5_say : yX5_say.cls = RX5 ∧ yX5_say.cls ≠ "java/lang/invoke/MethodHandle" ∧ yX5_say.cls ≠ "java/lang/invoke/VarHandle" ∧ (parseMethodDescriptor yX5_say.desc).map (fun d => d.parameters.length) = some 1 := by decide +kernel
set_option maxHeartbeats 4000000 in
set_option maxRecDepth 100000 in
theorem c_X5_say (l : Launch) (D : va_G) (cI : ClassId) (aM aMp aMr aMs aMl aMg aMb aMo aMkr aMks aMkb : Nat) (ofr : Int32) (rd : Int32) (pl : Nat) (nl : Nat) (mi : Int32) (pe : Nat) (kmi : Int32) (kpe : Int32) (bc : Int32) (bk : Nat) (sd : Int32) (ko : Int32) (kbk : Int32) (ha : Int64) (sv : Int64) : MetX l yX5_say wsX5_say rm_X5_say D cI [.ref aM, .long sv] [(aM, .inr (5, [.ref aMp, .int (nI pl), .int (nI nl), .int mi, .int ofr, .ref aMr, .int (nI pe), .ref aMs, .ref aMl, .int bc, .int rd, .ref aMg, .ref aMb, .int (nI bk), .ref aMo, .int sd, .int ko, .int kpe, .int kmi, .int kbk, .ref aMkr, .ref aMks, .ref aMkb, .long ha]))] none [(aM, .inr (5, [.ref aMp, .int (nI pl), .int (nI nl), .int mi, .int ofr, .ref aMr, .int (nI pe), .ref aMs, .ref aMl, .int bc, .int rd, .ref aMg, .ref aMb, .int (nI bk), .ref aMo, .int sd, .int ko, .int kpe, .int kmi, .int kbk, .ref aMkr, .ref aMks, .ref aMkb, .long (f_X5_say_M_23 ha sv)]))] := by
  refine mX (cc := cX5_say) (maxL := 3) (ret := none) (by decide) rfl (Nat.le_of_ble_eq_true rfl) ?_
  intro p e s m args below meth c Q A hx hb hr hml hown hts hlk hP hK hD hA hS hQ ls hl
  have hown : s.vm.findClass RX5 = some m.cls := hown
  have hl : lv_has ls 3 [(0, .ref aM), (1, .long sv)] := hl
  have w1 := hts (.constantLong RX5 214 (31)) (List.mem_of_getElem? (i := 1) rfl)
  have w2 := hts (.fieldLink RX5 216 "DarkOfficeModel" "hash" "J") (List.mem_of_getElem? (i := 2) rfl)
  have uX5 : ∀ w ∈ wsX50, w ∈ wsX5_say := fun _ h => List.mem_cons_of_mem _ (List.mem_append_right _ h)
  refine lv_aload_n hx hb dX5_say_0 rfl (lv_at hl 0 rfl) ?_
  refine lv_ldc2 (v := 31) hx hb hown w1 dX5_say_1 ?_
  refine lv_aload_n hx hb dX5_say_4 rfl (lv_at hl 0 rfl) ?_
  refine va_get (D := D) (ci := 5) (v := .long ha) (C := RX5) (T := TX5) (N := 24) hx hb hts uX5 hown hK hP 0 rfl rfl 23 (by decide) w2 (fun _ h9 => h9) rfl dX5_say_5 ?_
  refine lv_lmul hx hb dX5_say_8 ?_
  refine lv_lload_n hx hb dX5_say_9 rfl (lv_at hl 1 rfl) ?_
  refine lv_ladd hx hb dX5_say_10 ?_
  refine va_put (D := D) (ci := 5) (v := .long ((31 * ha) + sv)) (ty := .long) (C := RX5) (T := TX5) (N := 24) hx hb hts uX5 tyX5 tyX5_ok nmX5 hown hK hP hD hS 0 rfl rfl 23 (by decide) w2 (fun _ h9 => h9) rfl (by decide +kernel) rfl rfl (Nat.le_of_ble_eq_true rfl) dX5_say_11 (fun H locs hP hD hS => ?_)
  have hP : va_P D vwCl [(aM, .inr (5, [.ref aMp, .int (nI pl), .int (nI nl), .int mi, .int ofr, .ref aMr, .int (nI pe), .ref aMs, .ref aMl, .int bc, .int rd, .ref aMg, .ref aMb, .int (nI bk), .ref aMo, .int sd, .int ko, .int kpe, .int kmi, .int kbk, .ref aMkr, .ref aMks, .ref aMkb, .long ((31 * ha) + sv)]))] H := hP
  have hD : va_D A [(aM, .inr (5, [.ref aMp, .int (nI pl), .int (nI nl), .int mi, .int ofr, .ref aMr, .int (nI pe), .ref aMs, .ref aMl, .int bc, .int rd, .ref aMg, .ref aMb, .int (nI bk), .ref aMo, .int sd, .int ko, .int kpe, .int kmi, .int kbk, .ref aMkr, .ref aMks, .ref aMkb, .long ((31 * ha) + sv)]))] := hD
  have e_M_23 : (f_X5_say_M_23 ha sv) = ((31 * ha) + sv) := (by simp only [f_X5_say_M_23])
  exact eXv hx hb hr hlk hQ (by rw [e_M_23]; exact hP) (by rw [e_M_23]; exact hD) hS dX5_say_14

def rm_X5_digest : Room := { frames := 4, cells := 0, slots := 0, locals := 101 }
def f_X5_digest_60_M_23 (ro : Nat → Int32) (ss : Nat → Int32) (i3 : Nat) (o50_M_23 : Int64) : Nat → Int64
  | 0 => o50_M_23
  | i4 + 1 => (f_X5_say_M_23 ((f_X5_digest_60_M_23 ro ss i3 o50_M_23 i4)) ((f_X5_tell ro ss i3 (nI i4)).toInt64))
def f_X5_digest_50_Ml (nl : Nat) (bk : Nat) (ro : Nat → Int32) (ss : Nat → Int32) (lt : Nat → Int32) (bo : Nat → Int32) : Nat → (Nat → Int32)
  | 0 => lt
  | i3 + 1 => (f_X5_lookOf_Ml nl ro ss (f_X5_wavedOf_Ml nl bk ro ss (f_X5_wavedOf_Ml nl bk ro ss ((f_X5_digest_50_Ml nl bk ro ss lt bo i3)) bo 4 i3) bo 4 i3) 3 i3)
def f_X5_digest_19_M_23 (nl : Nat) (pe : Nat) (ro : Nat → Int32) (ss : Nat → Int32) (i1 : Nat) (o9_M_23 : Int64) : Nat → Int64
  | 0 => o9_M_23
  | i2 + 1 => (f_X5_say_M_23 ((f_X5_digest_19_M_23 nl pe ro ss i1 o9_M_23 i2)) ((f_X5_tellLamp nl pe ro ss i1 (nI i2)).toInt64))
def f_X5_digest_9_M_23 (nl : Nat) (pe : Nat) (ro : Nat → Int32) (ss : Nat → Int32) : Nat → Int64
  | 0 => 911
  | i1 + 1 => (f_X5_digest_19_M_23 nl pe ro ss i1 (f_X5_digest_9_M_23 nl pe ro ss i1) 6)
def f_X5_digest_M_9 (nl : Nat) (pe : Nat) (bc : Int32) (bk : Nat) (ro : Nat → Int32) (ss : Nat → Int32) (lt : Nat → Int32) (bo : Nat → Int32) : Int32 := (if (f_X5_lacks nl) = 0 then (f_X5_leastOf_M_9 nl pe (f_X5_leastOf_M_9 nl pe (f_X5_leastOf_M_9 nl pe bc ro ss ((f_X5_digest_50_Ml nl bk ro ss lt bo pe)) 2) ro ss (f_X5_leastOf_Ml nl pe ro ss ((f_X5_digest_50_Ml nl bk ro ss lt bo pe)) 2) 2) ro ss (f_X5_leastOf_Ml nl pe ro ss (f_X5_leastOf_Ml nl pe ro ss ((f_X5_digest_50_Ml nl bk ro ss lt bo pe)) 2) 2) 2) else bc)
def f_X5_digest_Ml (nl : Nat) (pe : Nat) (bk : Nat) (ro : Nat → Int32) (ss : Nat → Int32) (lt : Nat → Int32) (bo : Nat → Int32) : Nat → Int32 := (if (f_X5_lacks nl) = 0 then (f_X5_leastOf_Ml nl pe ro ss (f_X5_leastOf_Ml nl pe ro ss (f_X5_leastOf_Ml nl pe ro ss ((f_X5_digest_50_Ml nl bk ro ss lt bo pe)) 2) 2) 2) else (f_X5_digest_50_Ml nl bk ro ss lt bo pe))
def f_X5_digest_50_M_23 (nl : Nat) (pe : Nat) (bk : Nat) (ro : Nat → Int32) (ss : Nat → Int32) (lt : Nat → Int32) (bo : Nat → Int32) : Nat → Int64
  | 0 => (f_X5_digest_9_M_23 nl pe ro ss nl)
  | i3 + 1 => (f_X5_say_M_23 (f_X5_say_M_23 (f_X5_say_M_23 ((f_X5_digest_60_M_23 ro ss i3 (f_X5_digest_50_M_23 nl pe bk ro ss lt bo i3) 4)) ((f_X5_wavedOf nl bk ro ss ((f_X5_digest_50_Ml nl bk ro ss lt bo i3)) bo 4 i3 0).toInt64)) ((f_X5_wavedOf nl bk ro ss (f_X5_wavedOf_Ml nl bk ro ss ((f_X5_digest_50_Ml nl bk ro ss lt bo i3)) bo 4 i3) bo 4 i3 1).toInt64)) ((f_X5_lookOf nl bk ro ss (f_X5_wavedOf_Ml nl bk ro ss (f_X5_wavedOf_Ml nl bk ro ss ((f_X5_digest_50_Ml nl bk ro ss lt bo i3)) bo 4 i3) bo 4 i3) bo 3 i3).toInt64))
def f_X5_digest_187_M_23 (co : Nat → Int32) (z187_M_23 : Int64) : Nat → Int64
  | 0 => z187_M_23
  | i5 + 1 => (f_X5_say_M_23 ((f_X5_digest_187_M_23 co z187_M_23 i5)) ((co i5).toInt64))
def f_X5_digest_214_M_23 (ofr : Int32) (rd : Int32) (pl : Nat) (nl : Nat) (mi : Int32) (pe : Nat) (bk : Nat) (ro : Nat → Int32) (ss : Nat → Int32) (z214_M_23 : Int64) : Nat → Int64
  | 0 => z214_M_23
  | i6 + 1 => (f_X5_say_M_23 ((f_X5_digest_214_M_23 ofr rd pl nl mi pe bk ro ss z214_M_23 i6)) ((f_X5_countOf ofr rd pl nl mi pe bk ro ss (nI i6)).toInt64))
def f_X5_digest (ofr : Int32) (rd : Int32) (pl : Nat) (co : Nat → Int32) (nl : Nat) (mi : Int32) (pe : Nat) (bc : Int32) (bk : Nat) (ro : Nat → Int32) (ss : Nat → Int32) (lt : Nat → Int32) (bo : Nat → Int32) : Int64 := (if (f_X5_lacks nl) = 0 then (f_X5_digest_214_M_23 ofr rd pl nl mi pe bk ro ss ((f_X5_digest_187_M_23 co (f_X5_say_M_23 (f_X5_say_M_23 (f_X5_say_M_23 (f_X5_say_M_23 (f_X5_say_M_23 ((f_X5_digest_50_M_23 nl pe bk ro ss lt bo pe)) ((f_X5_leastOf nl pe bc ro ss ((f_X5_digest_50_Ml nl bk ro ss lt bo pe)) 2 0).toInt64)) ((f_X5_leastOf nl pe (f_X5_leastOf_M_9 nl pe bc ro ss ((f_X5_digest_50_Ml nl bk ro ss lt bo pe)) 2) ro ss (f_X5_leastOf_Ml nl pe ro ss ((f_X5_digest_50_Ml nl bk ro ss lt bo pe)) 2) 2 10).toInt64)) ((f_X5_leastOf nl pe (f_X5_leastOf_M_9 nl pe (f_X5_leastOf_M_9 nl pe bc ro ss ((f_X5_digest_50_Ml nl bk ro ss lt bo pe)) 2) ro ss (f_X5_leastOf_Ml nl pe ro ss ((f_X5_digest_50_Ml nl bk ro ss lt bo pe)) 2) 2) ro ss (f_X5_leastOf_Ml nl pe ro ss (f_X5_leastOf_Ml nl pe ro ss ((f_X5_digest_50_Ml nl bk ro ss lt bo pe)) 2) 2) 2 11).toInt64)) ((f_X5_togetherOf nl ro 0).toInt64)) ((f_X5_togetherOf nl ro 1).toInt64)) pl)) 11) else (f_X5_digest_214_M_23 ofr rd pl nl mi pe bk ro ss ((f_X5_digest_187_M_23 co ((f_X5_digest_50_M_23 nl pe bk ro ss lt bo pe)) pl)) 11))
def f_X5_digest_M_23 (ofr : Int32) (rd : Int32) (pl : Nat) (co : Nat → Int32) (nl : Nat) (mi : Int32) (pe : Nat) (bc : Int32) (bk : Nat) (ro : Nat → Int32) (ss : Nat → Int32) (lt : Nat → Int32) (bo : Nat → Int32) : Int64 := (if (f_X5_lacks nl) = 0 then (f_X5_digest_214_M_23 ofr rd pl nl mi pe bk ro ss ((f_X5_digest_187_M_23 co (f_X5_say_M_23 (f_X5_say_M_23 (f_X5_say_M_23 (f_X5_say_M_23 (f_X5_say_M_23 ((f_X5_digest_50_M_23 nl pe bk ro ss lt bo pe)) ((f_X5_leastOf nl pe bc ro ss ((f_X5_digest_50_Ml nl bk ro ss lt bo pe)) 2 0).toInt64)) ((f_X5_leastOf nl pe (f_X5_leastOf_M_9 nl pe bc ro ss ((f_X5_digest_50_Ml nl bk ro ss lt bo pe)) 2) ro ss (f_X5_leastOf_Ml nl pe ro ss ((f_X5_digest_50_Ml nl bk ro ss lt bo pe)) 2) 2 10).toInt64)) ((f_X5_leastOf nl pe (f_X5_leastOf_M_9 nl pe (f_X5_leastOf_M_9 nl pe bc ro ss ((f_X5_digest_50_Ml nl bk ro ss lt bo pe)) 2) ro ss (f_X5_leastOf_Ml nl pe ro ss ((f_X5_digest_50_Ml nl bk ro ss lt bo pe)) 2) 2) ro ss (f_X5_leastOf_Ml nl pe ro ss (f_X5_leastOf_Ml nl pe ro ss ((f_X5_digest_50_Ml nl bk ro ss lt bo pe)) 2) 2) 2 11).toInt64)) ((f_X5_togetherOf nl ro 0).toInt64)) ((f_X5_togetherOf nl ro 1).toInt64)) pl)) 11) else (f_X5_digest_214_M_23 ofr rd pl nl mi pe bk ro ss ((f_X5_digest_187_M_23 co ((f_X5_digest_50_M_23 nl pe bk ro ss lt bo pe)) pl)) 11))
theorem hd_X5_digest : yX5_digest.cls = RX5 ∧ yX5_digest.cls ≠ "java/lang/invoke/MethodHandle" ∧ yX5_digest.cls ≠ "java/lang/invoke/VarHandle" ∧ (parseMethodDescriptor yX5_digest.desc).map (fun d => d.parameters.length) = some 0 := by decide +kernel
set_option maxHeartbeats 4000000 in
set_option maxRecDepth 100000 in
theorem c_X5_digest (l : Launch) (D : va_G) (cI : ClassId) (aM aMp aMr aMs aMl aMg aMb aMo aMkr aMks aMkb : Nat) (ofr : Int32) (rd : Int32) (pl : Nat) (co : Nat → Int32) (nl : Nat) (mi : Int32) (pe : Nat) (kmi : Int32) (kpe : Int32) (bc : Int32) (bk : Nat) (sd : Int32) (ko : Int32) (kbk : Int32) (ha : Int64) (ro : Nat → Int32) (ss : Nat → Int32) (lt : Nat → Int32) (bo : Nat → Int32) (hn : nl ≤ 6) (hpe : pe ≤ 4) (hpl : pl ≤ 20) (hbk : bk ≤ 8) (hss : ∀ j, j < pe → vp_in (ss (3 * j)) 6) (hbo : ∀ j, j < bk → vp_in (bo (3 * j + 1)) 6) : MetX l yX5_digest wsX5_digest rm_X5_digest D cI [.ref aM] [(aM, .inr (5, [.ref aMp, .int (nI pl), .int (nI nl), .int mi, .int ofr, .ref aMr, .int (nI pe), .ref aMs, .ref aMl, .int bc, .int rd, .ref aMg, .ref aMb, .int (nI bk), .ref aMo, .int sd, .int ko, .int kpe, .int kmi, .int kbk, .ref aMkr, .ref aMks, .ref aMkb, .long ha])), (aMp, .inl (cI, 20, .inl co)), (aMr, .inl (cI, 18, .inl ro)), (aMs, .inl (cI, 12, .inl ss)), (aMl, .inl (cI, 6, .inl lt)), (aMo, .inl (cI, 24, .inl bo))] (some (.long (f_X5_digest ofr rd pl co nl mi pe bc bk ro ss lt bo))) [(aM, .inr (5, [.ref aMp, .int (nI pl), .int (nI nl), .int mi, .int ofr, .ref aMr, .int (nI pe), .ref aMs, .ref aMl, .int (f_X5_digest_M_9 nl pe bc bk ro ss lt bo), .int rd, .ref aMg, .ref aMb, .int (nI bk), .ref aMo, .int sd, .int ko, .int kpe, .int kmi, .int kbk, .ref aMkr, .ref aMks, .ref aMkb, .long (f_X5_digest_M_23 ofr rd pl co nl mi pe bc bk ro ss lt bo)])), (aMp, .inl (cI, 20, .inl co)), (aMr, .inl (cI, 18, .inl ro)), (aMs, .inl (cI, 12, .inl ss)), (aMl, .inl (cI, 6, .inl (f_X5_digest_Ml nl pe bk ro ss lt bo))), (aMo, .inl (cI, 24, .inl bo))] := by
  refine mX (cc := cX5_digest) (maxL := 3) (ret := (some .long)) (by decide) rfl (Nat.le_of_ble_eq_true rfl) ?_
  intro p e s m args below meth c Q A hx hb hr hml hown hts hlk hP hK hD hA hS hQ ls hl
  have hown : s.vm.findClass RX5 = some m.cls := hown
  have hl : lv_has ls 3 [(0, .ref aM)] := hl
  have w1 := hts (.constantLong RX5 220 (911)) (List.mem_of_getElem? (i := 1) rfl)
  have w2 := hts (.fieldLink RX5 216 "DarkOfficeModel" "hash" "J") (List.mem_of_getElem? (i := 2) rfl)
  have uX5 : ∀ w ∈ wsX50, w ∈ wsX5_digest := fun _ h => List.mem_cons_of_mem _ (List.mem_append_right _ h)
  have w3 := hts (.fieldLink RX5 67 "DarkOfficeModel" "lamps" "I") (List.mem_of_getElem? (i := 3) rfl)
  have w4 := hts (.fieldLink RX5 73 "DarkOfficeModel" "people" "I") (List.mem_of_getElem? (i := 4) rfl)
  have w5 := hts (.fieldLink RX5 50 "DarkOfficeModel" "pageMany" "I") (List.mem_of_getElem? (i := 5) rfl)
  have w6 := hts (.fieldLink RX5 7 "DarkOfficeModel" "page" "[I") (List.mem_of_getElem? (i := 6) rfl)
  refine lv_aload_n hx hb dX5_digest_0 rfl (lv_at hl 0 rfl) ?_
  refine lv_ldc2 (v := 911) hx hb hown w1 dX5_digest_1 ?_
  refine va_put (D := D) (ci := 5) (v := .long 911) (ty := .long) (C := RX5) (T := TX5) (N := 24) hx hb hts uX5 tyX5 tyX5_ok nmX5 hown hK hP hD hS 0 rfl rfl 23 (by decide) w2 (fun _ h9 => h9) rfl (by decide +kernel) rfl rfl (Nat.le_of_ble_eq_true rfl) dX5_digest_4 (fun H locs hP hD hS => ?_)
  have hP : va_P D vwCl [(aM, .inr (5, [.ref aMp, .int (nI pl), .int (nI nl), .int mi, .int ofr, .ref aMr, .int (nI pe), .ref aMs, .ref aMl, .int bc, .int rd, .ref aMg, .ref aMb, .int (nI bk), .ref aMo, .int sd, .int ko, .int kpe, .int kmi, .int kbk, .ref aMkr, .ref aMks, .ref aMkb, .long 911])), (aMp, .inl (cI, 20, .inl co)), (aMr, .inl (cI, 18, .inl ro)), (aMs, .inl (cI, 12, .inl ss)), (aMl, .inl (cI, 6, .inl lt)), (aMo, .inl (cI, 24, .inl bo))] H := hP
  have hD : va_D A [(aM, .inr (5, [.ref aMp, .int (nI pl), .int (nI nl), .int mi, .int ofr, .ref aMr, .int (nI pe), .ref aMs, .ref aMl, .int bc, .int rd, .ref aMg, .ref aMb, .int (nI bk), .ref aMo, .int sd, .int ko, .int kpe, .int kmi, .int kbk, .ref aMkr, .ref aMks, .ref aMkb, .long 911])), (aMp, .inl (cI, 20, .inl co)), (aMr, .inl (cI, 18, .inl ro)), (aMs, .inl (cI, 12, .inl ss)), (aMl, .inl (cI, 6, .inl lt)), (aMo, .inl (cI, 24, .inl bo))] := hD
  refine lv_iconst (v := 0) hx hb dX5_digest_7 (by decide) ?_
  refine lv_istore_n (lv' := [(1, .int 0), (0, .ref aM)]) hx hb dX5_digest_8 rfl hl (by decide) rfl (fun ls hl => ?_)
  have lp9 : ∀ (k9 i1 : Nat), i1 + k9 = nl → ∀ (H : Heap) (locs : List Loc), va_P D vwCl [(aM, .inr (5, [.ref aMp, .int (nI pl), .int (nI nl), .int mi, .int ofr, .ref aMr, .int (nI pe), .ref aMs, .ref aMl, .int bc, .int rd, .ref aMg, .ref aMb, .int (nI bk), .ref aMo, .int sd, .int ko, .int kpe, .int kmi, .int kbk, .ref aMkr, .ref aMks, .ref aMkb, .long ((f_X5_digest_9_M_23 nl pe ro ss i1))])), (aMp, .inl (cI, 20, .inl co)), (aMr, .inl (cI, 18, .inl ro)), (aMs, .inl (cI, 12, .inl ss)), (aMl, .inl (cI, 6, .inl lt)), (aMo, .inl (cI, 24, .inl bo))] H → va_D A [(aM, .inr (5, [.ref aMp, .int (nI pl), .int (nI nl), .int mi, .int ofr, .ref aMr, .int (nI pe), .ref aMs, .ref aMl, .int bc, .int rd, .ref aMg, .ref aMb, .int (nI bk), .ref aMo, .int sd, .int ko, .int kpe, .int kmi, .int kbk, .ref aMkr, .ref aMks, .ref aMkb, .long ((f_X5_digest_9_M_23 nl pe ro ss i1))])), (aMp, .inl (cI, 20, .inl co)), (aMr, .inl (cI, 18, .inl ro)), (aMs, .inl (cI, 12, .inl ss)), (aMl, .inl (cI, 6, .inl lt)), (aMo, .inl (cI, 24, .inl bo))] → va_S A s.heap H locs → ∀ ls : Array Slot, lv_has ls 3 [(0, .ref aM), (1, .int (nI i1))] → W p l e rm_X5_digest s m args below meth c H locs 0 0 Q (F0 m 9 ls []) := by
    intro k9
    induction k9 with
    | zero =>
      intro i1 hk9 H locs hP hD hS ls hl
      have hN9 : nl = i1 := by omega
      subst hN9
      refine lv_iload_n hx hb dX5_digest_9 rfl (lv_at hl 1 rfl) ?_
      refine lv_aload_n hx hb dX5_digest_10 rfl (lv_at hl 0 rfl) ?_
      refine va_get (D := D) (ci := 5) (v := .int (nI nl)) (C := RX5) (T := TX5) (N := 24) hx hb hts uX5 hown hK hP 0 rfl rfl 2 (by decide) w3 (fun _ h9 => h9) rfl dX5_digest_11 ?_
      refine lv_icmp_ge (tgt := 48) hx hb dX5_digest_14 (by decide) (fun _ => ?_) (fun c => absurd (nle_t (a := nl) (b := nl) rfl rfl (by omega) (by omega) (by omega)) c)
      refine lv_iconst (v := 0) hx hb dX5_digest_48 (by decide) ?_
      refine lv_istore_n (lv' := [(1, .int 0), (0, .ref aM)]) hx hb dX5_digest_49 rfl hl (by decide) rfl (fun ls hl => ?_)
      have lp50 : ∀ (k50 i3 : Nat), i3 + k50 = pe → ∀ (H : Heap) (locs : List Loc), va_P D vwCl [(aM, .inr (5, [.ref aMp, .int (nI pl), .int (nI nl), .int mi, .int ofr, .ref aMr, .int (nI pe), .ref aMs, .ref aMl, .int bc, .int rd, .ref aMg, .ref aMb, .int (nI bk), .ref aMo, .int sd, .int ko, .int kpe, .int kmi, .int kbk, .ref aMkr, .ref aMks, .ref aMkb, .long ((f_X5_digest_50_M_23 nl pe bk ro ss lt bo i3))])), (aMp, .inl (cI, 20, .inl co)), (aMr, .inl (cI, 18, .inl ro)), (aMs, .inl (cI, 12, .inl ss)), (aMl, .inl (cI, 6, .inl ((f_X5_digest_50_Ml nl bk ro ss lt bo i3)))), (aMo, .inl (cI, 24, .inl bo))] H → va_D A [(aM, .inr (5, [.ref aMp, .int (nI pl), .int (nI nl), .int mi, .int ofr, .ref aMr, .int (nI pe), .ref aMs, .ref aMl, .int bc, .int rd, .ref aMg, .ref aMb, .int (nI bk), .ref aMo, .int sd, .int ko, .int kpe, .int kmi, .int kbk, .ref aMkr, .ref aMks, .ref aMkb, .long ((f_X5_digest_50_M_23 nl pe bk ro ss lt bo i3))])), (aMp, .inl (cI, 20, .inl co)), (aMr, .inl (cI, 18, .inl ro)), (aMs, .inl (cI, 12, .inl ss)), (aMl, .inl (cI, 6, .inl ((f_X5_digest_50_Ml nl bk ro ss lt bo i3)))), (aMo, .inl (cI, 24, .inl bo))] → va_S A s.heap H locs → ∀ ls : Array Slot, lv_has ls 3 [(0, .ref aM), (1, .int (nI i3))] → W p l e rm_X5_digest s m args below meth c H locs 0 0 Q (F0 m 50 ls []) := by
        intro k50
        induction k50 with
        | zero =>
          intro i3 hk50 H locs hP hD hS ls hl
          have hN50 : pe = i3 := by omega
          subst hN50
          refine lv_iload_n hx hb dX5_digest_50 rfl (lv_at hl 1 rfl) ?_
          refine lv_aload_n hx hb dX5_digest_51 rfl (lv_at hl 0 rfl) ?_
          refine va_get (D := D) (ci := 5) (v := .int (nI pe)) (C := RX5) (T := TX5) (N := 24) hx hb hts uX5 hown hK hP 0 rfl rfl 6 (by decide) w4 (fun _ h9 => h9) rfl dX5_digest_52 ?_
          refine lv_icmp_ge (tgt := 123) hx hb dX5_digest_55 (by decide) (fun _ => ?_) (fun c => absurd (nle_t (a := pe) (b := pe) rfl rfl (by omega) (by omega) (by omega)) c)
          refine lv_aload_n hx hb dX5_digest_123 rfl (lv_at hl 0 rfl) ?_
          refine rV ⟨hx, hb, hml, hown, hts⟩ (c_X5_lacks l D cI aM aMp aMr aMs aMl aMg aMb aMo aMkr aMks aMkb ofr rd pl nl mi pe kmi kpe bc bk sd ko kbk ((f_X5_digest_50_M_23 nl pe bk ro ss lt bo pe)) hn) (cwV 0 hts gX5_digest_X5_lacks rfl rfl rfl hd_X5_lacks ⟨Nat.le_of_ble_eq_true rfl, Nat.le_of_ble_eq_true rfl⟩) hK (hP.sub [0] rfl) 0 rfl rfl rfl rfl hl.1 (rest := []) (st' := [.int (f_X5_lacks nl)]) rfl rfl (Nat.le_of_ble_eq_true rfl) dX5_digest_124 ⟨Nat.zero_le _, Nat.zero_le _⟩ ?_
          refine lv_if_ne (tgt := 185) hx hb dX5_digest_127 (by decide) (fun c1 => ?_) (fun c1 => ?_)
          · refine lv_iconst (v := 0) hx hb dX5_digest_185 (by decide) ?_
            refine lv_istore_n (lv' := [(1, .int 0), (0, .ref aM)]) hx hb dX5_digest_186 rfl hl (by decide) rfl (fun ls hl => ?_)
            have lp187 : ∀ (k187 i5 : Nat), i5 + k187 = pl → ∀ (H : Heap) (locs : List Loc), va_P D vwCl [(aM, .inr (5, [.ref aMp, .int (nI pl), .int (nI nl), .int mi, .int ofr, .ref aMr, .int (nI pe), .ref aMs, .ref aMl, .int bc, .int rd, .ref aMg, .ref aMb, .int (nI bk), .ref aMo, .int sd, .int ko, .int kpe, .int kmi, .int kbk, .ref aMkr, .ref aMks, .ref aMkb, .long ((f_X5_digest_187_M_23 co ((f_X5_digest_50_M_23 nl pe bk ro ss lt bo pe)) i5))])), (aMp, .inl (cI, 20, .inl co)), (aMr, .inl (cI, 18, .inl ro)), (aMs, .inl (cI, 12, .inl ss)), (aMl, .inl (cI, 6, .inl ((f_X5_digest_50_Ml nl bk ro ss lt bo pe)))), (aMo, .inl (cI, 24, .inl bo))] H → va_D A [(aM, .inr (5, [.ref aMp, .int (nI pl), .int (nI nl), .int mi, .int ofr, .ref aMr, .int (nI pe), .ref aMs, .ref aMl, .int bc, .int rd, .ref aMg, .ref aMb, .int (nI bk), .ref aMo, .int sd, .int ko, .int kpe, .int kmi, .int kbk, .ref aMkr, .ref aMks, .ref aMkb, .long ((f_X5_digest_187_M_23 co ((f_X5_digest_50_M_23 nl pe bk ro ss lt bo pe)) i5))])), (aMp, .inl (cI, 20, .inl co)), (aMr, .inl (cI, 18, .inl ro)), (aMs, .inl (cI, 12, .inl ss)), (aMl, .inl (cI, 6, .inl ((f_X5_digest_50_Ml nl bk ro ss lt bo pe)))), (aMo, .inl (cI, 24, .inl bo))] → va_S A s.heap H locs → ∀ ls : Array Slot, lv_has ls 3 [(0, .ref aM), (1, .int (nI i5))] → W p l e rm_X5_digest s m args below meth c H locs 0 0 Q (F0 m 187 ls []) := by
              intro k187
              induction k187 with
              | zero =>
                intro i5 hk187 H locs hP hD hS ls hl
                have hN187 : pl = i5 := by omega
                subst hN187
                refine lv_iload_n hx hb dX5_digest_187 rfl (lv_at hl 1 rfl) ?_
                refine lv_aload_n hx hb dX5_digest_188 rfl (lv_at hl 0 rfl) ?_
                refine va_get (D := D) (ci := 5) (v := .int (nI pl)) (C := RX5) (T := TX5) (N := 24) hx hb hts uX5 hown hK hP 0 rfl rfl 1 (by decide) w5 (fun _ h9 => h9) rfl dX5_digest_189 ?_
                refine lv_icmp_ge (tgt := 212) hx hb dX5_digest_192 (by decide) (fun _ => ?_) (fun c => absurd (nle_t (a := pl) (b := pl) rfl rfl (by omega) (by omega) (by omega)) c)
                refine lv_iconst (v := 0) hx hb dX5_digest_212 (by decide) ?_
                refine lv_istore_n (lv' := [(1, .int 0), (0, .ref aM)]) hx hb dX5_digest_213 rfl hl (by decide) rfl (fun ls hl => ?_)
                have lp214 : ∀ (k214 i6 : Nat), i6 + k214 = 11 → ∀ (H : Heap) (locs : List Loc), va_P D vwCl [(aM, .inr (5, [.ref aMp, .int (nI pl), .int (nI nl), .int mi, .int ofr, .ref aMr, .int (nI pe), .ref aMs, .ref aMl, .int bc, .int rd, .ref aMg, .ref aMb, .int (nI bk), .ref aMo, .int sd, .int ko, .int kpe, .int kmi, .int kbk, .ref aMkr, .ref aMks, .ref aMkb, .long ((f_X5_digest_214_M_23 ofr rd pl nl mi pe bk ro ss ((f_X5_digest_187_M_23 co ((f_X5_digest_50_M_23 nl pe bk ro ss lt bo pe)) pl)) i6))])), (aMp, .inl (cI, 20, .inl co)), (aMr, .inl (cI, 18, .inl ro)), (aMs, .inl (cI, 12, .inl ss)), (aMl, .inl (cI, 6, .inl ((f_X5_digest_50_Ml nl bk ro ss lt bo pe)))), (aMo, .inl (cI, 24, .inl bo))] H → va_D A [(aM, .inr (5, [.ref aMp, .int (nI pl), .int (nI nl), .int mi, .int ofr, .ref aMr, .int (nI pe), .ref aMs, .ref aMl, .int bc, .int rd, .ref aMg, .ref aMb, .int (nI bk), .ref aMo, .int sd, .int ko, .int kpe, .int kmi, .int kbk, .ref aMkr, .ref aMks, .ref aMkb, .long ((f_X5_digest_214_M_23 ofr rd pl nl mi pe bk ro ss ((f_X5_digest_187_M_23 co ((f_X5_digest_50_M_23 nl pe bk ro ss lt bo pe)) pl)) i6))])), (aMp, .inl (cI, 20, .inl co)), (aMr, .inl (cI, 18, .inl ro)), (aMs, .inl (cI, 12, .inl ss)), (aMl, .inl (cI, 6, .inl ((f_X5_digest_50_Ml nl bk ro ss lt bo pe)))), (aMo, .inl (cI, 24, .inl bo))] → va_S A s.heap H locs → ∀ ls : Array Slot, lv_has ls 3 [(0, .ref aM), (1, .int (nI i6))] → W p l e rm_X5_digest s m args below meth c H locs 0 0 Q (F0 m 214 ls []) := by
                  intro k214
                  induction k214 with
                  | zero =>
                    intro i6 hk214 H locs hP hD hS ls hl
                    have hN214 : 11 = i6 := by omega
                    subst hN214
                    refine lv_iload_n hx hb dX5_digest_214 rfl (lv_at hl 1 rfl) ?_
                    refine lv_bipush (v := 11) hx hb dX5_digest_215 (by decide) ?_
                    refine lv_icmp_ge (tgt := 236) hx hb dX5_digest_217 (by decide) (fun _ => ?_) (fun c => absurd (nle_t (a := 11) (b := 11) rfl rfl (by omega) (by omega) (by omega)) c)
                    refine lv_aload_n hx hb dX5_digest_236 rfl (lv_at hl 0 rfl) ?_
                    refine va_get (D := D) (ci := 5) (v := .long ((f_X5_digest_214_M_23 ofr rd pl nl mi pe bk ro ss ((f_X5_digest_187_M_23 co ((f_X5_digest_50_M_23 nl pe bk ro ss lt bo pe)) pl)) 11))) (C := RX5) (T := TX5) (N := 24) hx hb hts uX5 hown hK hP 0 rfl rfl 23 (by decide) w2 (fun _ h9 => h9) rfl dX5_digest_237 ?_
                    have e_M_23 : (f_X5_digest_M_23 ofr rd pl co nl mi pe bc bk ro ss lt bo) = (f_X5_digest_214_M_23 ofr rd pl nl mi pe bk ro ss ((f_X5_digest_187_M_23 co ((f_X5_digest_50_M_23 nl pe bk ro ss lt bo pe)) pl)) 11) := (by simp only [f_X5_digest_M_23, if_neg c1])
                    have e_M_9 : (f_X5_digest_M_9 nl pe bc bk ro ss lt bo) = bc := (by simp only [f_X5_digest_M_9, if_neg c1])
                    have e_Ml : (f_X5_digest_Ml nl pe bk ro ss lt bo) = (f_X5_digest_50_Ml nl bk ro ss lt bo pe) := (by simp only [f_X5_digest_Ml, if_neg c1])
                    exact eXl hx hb hr hlk hQ (by rw [e_M_23, e_M_9, e_Ml]; exact hP) (by rw [e_M_23, e_M_9, e_Ml]; exact hD) hS dX5_digest_240 (Eq.symm (by simp only [f_X5_digest, if_neg c1]))
                  | succ k214 ih214 =>
                    intro i6 hk214 H locs hP hD hS ls hl
                    refine lv_iload_n hx hb dX5_digest_214 rfl (lv_at hl 1 rfl) ?_
                    refine lv_bipush (v := 11) hx hb dX5_digest_215 (by decide) ?_
                    refine lv_icmp_ge (tgt := 236) hx hb dX5_digest_217 (by decide) (fun c => absurd c (nle_f (a := 11) (b := i6) rfl rfl (by omega) (by omega) (by omega))) (fun _ => ?_)
                    refine lv_aload_n hx hb dX5_digest_220 rfl (lv_at hl 0 rfl) ?_
                    refine lv_aload_n hx hb dX5_digest_221 rfl (lv_at hl 0 rfl) ?_
                    refine lv_iload_n hx hb dX5_digest_222 rfl (lv_at hl 1 rfl) ?_
                    refine rV ⟨hx, hb, hml, hown, hts⟩ (c_X5_countOf l D cI aM aMp aMr aMs aMl aMg aMb aMo aMkr aMks aMkb ofr rd pl nl mi pe kmi kpe bc bk sd ko kbk ((f_X5_digest_214_M_23 ofr rd pl nl mi pe bk ro ss ((f_X5_digest_187_M_23 co ((f_X5_digest_50_M_23 nl pe bk ro ss lt bo pe)) pl)) i6)) ro ss (nI i6) hn hpe hss) (cwV 1 hts gX5_digest_X5_countOf rfl rfl rfl hd_X5_countOf ⟨Nat.le_of_ble_eq_true rfl, Nat.le_of_ble_eq_true rfl⟩) hK (hP.sub [0, 2, 3] rfl) 0 rfl rfl rfl rfl hl.1 (rest := [.ref aM]) (st' := [.int (f_X5_countOf ofr rd pl nl mi pe bk ro ss (nI i6)), .ref aM]) rfl rfl (Nat.le_of_ble_eq_true rfl) dX5_digest_223 ⟨Nat.zero_le _, Nat.zero_le _⟩ ?_
                    refine lv_i2l (v := (f_X5_countOf ofr rd pl nl mi pe bk ro ss (nI i6)).toInt64) hx hb dX5_digest_226 rfl ?_
                    refine xV (w2 := [(aM, .inr (5, [.ref aMp, .int (nI pl), .int (nI nl), .int mi, .int ofr, .ref aMr, .int (nI pe), .ref aMs, .ref aMl, .int bc, .int rd, .ref aMg, .ref aMb, .int (nI bk), .ref aMo, .int sd, .int ko, .int kpe, .int kmi, .int kbk, .ref aMkr, .ref aMks, .ref aMkb, .long (f_X5_say_M_23 ((f_X5_digest_214_M_23 ofr rd pl nl mi pe bk ro ss ((f_X5_digest_187_M_23 co ((f_X5_digest_50_M_23 nl pe bk ro ss lt bo pe)) pl)) i6)) ((f_X5_countOf ofr rd pl nl mi pe bk ro ss (nI i6)).toInt64))])), (aMp, .inl (cI, 20, .inl co)), (aMr, .inl (cI, 18, .inl ro)), (aMs, .inl (cI, 12, .inl ss)), (aMl, .inl (cI, 6, .inl ((f_X5_digest_50_Ml nl bk ro ss lt bo pe)))), (aMo, .inl (cI, 24, .inl bo))]) ⟨hx, hb, hml, hown, hts⟩ (c_X5_say l D cI aM aMp aMr aMs aMl aMg aMb aMo aMkr aMks aMkb ofr rd pl nl mi pe kmi kpe bc bk sd ko kbk ((f_X5_digest_214_M_23 ofr rd pl nl mi pe bk ro ss ((f_X5_digest_187_M_23 co ((f_X5_digest_50_M_23 nl pe bk ro ss lt bo pe)) pl)) i6)) ((f_X5_countOf ofr rd pl nl mi pe bk ro ss (nI i6)).toInt64)) (cwV 1 hts gX5_digest_X5_say rfl rfl rfl hd_X5_say ⟨Nat.le_of_ble_eq_true rfl, Nat.le_of_ble_eq_true rfl⟩) hK hP hD hS hA [0] [1, 2, 3, 4, 5] [5, 0, 1, 2, 3, 4] rfl rfl rfl rfl rfl (by decide) rfl rfl rfl 0 rfl rfl rfl rfl hl.1 (rest := []) (st' := []) rfl rfl (Nat.le_of_ble_eq_true rfl) dX5_digest_227 ⟨Nat.zero_le _, Nat.zero_le _⟩ (fun H locs hP hD hS => ?_)
                    refine lv_iinc (v := nI (i6 + 1)) (lv' := [(1, .int (nI (i6 + 1))), (0, .ref aM)]) hx hb dX5_digest_230 hl (k := 1) rfl (nI_add i6 1) (by decide) rfl (fun ls hl => ?_)
                    refine lv_goto (tgt := 214) hx hb dX5_digest_233 (by decide) ?_
                    have e_M_23 : (f_X5_digest_214_M_23 ofr rd pl nl mi pe bk ro ss ((f_X5_digest_187_M_23 co ((f_X5_digest_50_M_23 nl pe bk ro ss lt bo pe)) pl)) (i6 + 1)) = (f_X5_say_M_23 ((f_X5_digest_214_M_23 ofr rd pl nl mi pe bk ro ss ((f_X5_digest_187_M_23 co ((f_X5_digest_50_M_23 nl pe bk ro ss lt bo pe)) pl)) i6)) ((f_X5_countOf ofr rd pl nl mi pe bk ro ss (nI i6)).toInt64)) := (by simp only [f_X5_digest_214_M_23])
                    exact ih214 (i6 + 1) (by omega) _ _ (by rw [e_M_23]; exact hP) (by rw [e_M_23]; exact hD) hS ls (lv_sub hl [1, 0] rfl)
                exact lp214 11 0 (by omega) _ _ hP hD hS ls (lv_sub hl [1, 0] rfl)
              | succ k187 ih187 =>
                intro i5 hk187 H locs hP hD hS ls hl
                refine lv_iload_n hx hb dX5_digest_187 rfl (lv_at hl 1 rfl) ?_
                refine lv_aload_n hx hb dX5_digest_188 rfl (lv_at hl 0 rfl) ?_
                refine va_get (D := D) (ci := 5) (v := .int (nI pl)) (C := RX5) (T := TX5) (N := 24) hx hb hts uX5 hown hK hP 0 rfl rfl 1 (by decide) w5 (fun _ h9 => h9) rfl dX5_digest_189 ?_
                refine lv_icmp_ge (tgt := 212) hx hb dX5_digest_192 (by decide) (fun c => absurd c (nle_f (a := pl) (b := i5) rfl rfl (by omega) (by omega) (by omega))) (fun _ => ?_)
                refine lv_aload_n hx hb dX5_digest_195 rfl (lv_at hl 0 rfl) ?_
                refine lv_aload_n hx hb dX5_digest_196 rfl (lv_at hl 0 rfl) ?_
                refine va_get (D := D) (ci := 5) (v := .ref aMp) (C := RX5) (T := TX5) (N := 24) hx hb hts uX5 hown hK hP 0 rfl rfl 0 (by decide) w6 (fun _ h9 => h9) rfl dX5_digest_197 ?_
                refine lv_iload_n hx hb dX5_digest_200 rfl (lv_at hl 1 rfl) ?_
                refine xald hx hb hK hP 1 rfl i5 rfl (by omega) (by decide) dX5_digest_201 ?_
                refine lv_i2l (v := (co i5).toInt64) hx hb dX5_digest_202 rfl ?_
                refine xV (w2 := [(aM, .inr (5, [.ref aMp, .int (nI pl), .int (nI nl), .int mi, .int ofr, .ref aMr, .int (nI pe), .ref aMs, .ref aMl, .int bc, .int rd, .ref aMg, .ref aMb, .int (nI bk), .ref aMo, .int sd, .int ko, .int kpe, .int kmi, .int kbk, .ref aMkr, .ref aMks, .ref aMkb, .long (f_X5_say_M_23 ((f_X5_digest_187_M_23 co ((f_X5_digest_50_M_23 nl pe bk ro ss lt bo pe)) i5)) ((co i5).toInt64))])), (aMp, .inl (cI, 20, .inl co)), (aMr, .inl (cI, 18, .inl ro)), (aMs, .inl (cI, 12, .inl ss)), (aMl, .inl (cI, 6, .inl ((f_X5_digest_50_Ml nl bk ro ss lt bo pe)))), (aMo, .inl (cI, 24, .inl bo))]) ⟨hx, hb, hml, hown, hts⟩ (c_X5_say l D cI aM aMp aMr aMs aMl aMg aMb aMo aMkr aMks aMkb ofr rd pl nl mi pe kmi kpe bc bk sd ko kbk ((f_X5_digest_187_M_23 co ((f_X5_digest_50_M_23 nl pe bk ro ss lt bo pe)) i5)) ((co i5).toInt64)) (cwV 1 hts gX5_digest_X5_say rfl rfl rfl hd_X5_say ⟨Nat.le_of_ble_eq_true rfl, Nat.le_of_ble_eq_true rfl⟩) hK hP hD hS hA [0] [1, 2, 3, 4, 5] [5, 0, 1, 2, 3, 4] rfl rfl rfl rfl rfl (by decide) rfl rfl rfl 0 rfl rfl rfl rfl hl.1 (rest := []) (st' := []) rfl rfl (Nat.le_of_ble_eq_true rfl) dX5_digest_203 ⟨Nat.zero_le _, Nat.zero_le _⟩ (fun H locs hP hD hS => ?_)
                refine lv_iinc (v := nI (i5 + 1)) (lv' := [(1, .int (nI (i5 + 1))), (0, .ref aM)]) hx hb dX5_digest_206 hl (k := 1) rfl (nI_add i5 1) (by decide) rfl (fun ls hl => ?_)
                refine lv_goto (tgt := 187) hx hb dX5_digest_209 (by decide) ?_
                have e_M_23 : (f_X5_digest_187_M_23 co ((f_X5_digest_50_M_23 nl pe bk ro ss lt bo pe)) (i5 + 1)) = (f_X5_say_M_23 ((f_X5_digest_187_M_23 co ((f_X5_digest_50_M_23 nl pe bk ro ss lt bo pe)) i5)) ((co i5).toInt64)) := (by simp only [f_X5_digest_187_M_23])
                exact ih187 (i5 + 1) (by omega) _ _ (by rw [e_M_23]; exact hP) (by rw [e_M_23]; exact hD) hS ls (lv_sub hl [1, 0] rfl)
            exact lp187 pl 0 (by omega) _ _ hP hD hS ls (lv_sub hl [1, 0] rfl)
          · refine lv_aload_n hx hb dX5_digest_130 rfl (lv_at hl 0 rfl) ?_
            refine lv_aload_n hx hb dX5_digest_131 rfl (lv_at hl 0 rfl) ?_
            refine lv_iconst (v := 2) hx hb dX5_digest_132 (by decide) ?_
            refine lv_iconst (v := 0) hx hb dX5_digest_133 (by decide) ?_
            refine xV (w2 := [(aM, .inr (5, [.ref aMp, .int (nI pl), .int (nI nl), .int mi, .int ofr, .ref aMr, .int (nI pe), .ref aMs, .ref aMl, .int (f_X5_leastOf_M_9 nl pe bc ro ss ((f_X5_digest_50_Ml nl bk ro ss lt bo pe)) 2), .int rd, .ref aMg, .ref aMb, .int (nI bk), .ref aMo, .int sd, .int ko, .int kpe, .int kmi, .int kbk, .ref aMkr, .ref aMks, .ref aMkb, .long ((f_X5_digest_50_M_23 nl pe bk ro ss lt bo pe))])), (aMp, .inl (cI, 20, .inl co)), (aMr, .inl (cI, 18, .inl ro)), (aMs, .inl (cI, 12, .inl ss)), (aMl, .inl (cI, 6, .inl (f_X5_leastOf_Ml nl pe ro ss ((f_X5_digest_50_Ml nl bk ro ss lt bo pe)) 2))), (aMo, .inl (cI, 24, .inl bo))]) ⟨hx, hb, hml, hown, hts⟩ (c_X5_leastOf l D cI aM aMp aMr aMs aMl aMg aMb aMo aMkr aMks aMkb ofr rd pl nl mi pe kmi kpe bc bk sd ko kbk ((f_X5_digest_50_M_23 nl pe bk ro ss lt bo pe)) ro ss ((f_X5_digest_50_Ml nl bk ro ss lt bo pe)) 2 0 hn hpe hss (by decide)) (cwV 2 hts gX5_digest_X5_leastOf rfl rfl rfl hd_X5_leastOf ⟨Nat.le_of_ble_eq_true rfl, Nat.le_of_ble_eq_true rfl⟩) hK hP hD hS hA [0, 2, 3, 4] [1, 5] [2, 0, 3, 4, 5, 1] rfl rfl rfl rfl rfl (by decide) rfl rfl rfl 0 rfl rfl rfl rfl hl.1 (rest := [.ref aM]) (st' := [.int (f_X5_leastOf nl pe bc ro ss ((f_X5_digest_50_Ml nl bk ro ss lt bo pe)) 2 0), .ref aM]) rfl rfl (Nat.le_of_ble_eq_true rfl) dX5_digest_134 ⟨Nat.zero_le _, Nat.zero_le _⟩ (fun H locs hP hD hS => ?_)
            refine lv_i2l (v := (f_X5_leastOf nl pe bc ro ss ((f_X5_digest_50_Ml nl bk ro ss lt bo pe)) 2 0).toInt64) hx hb dX5_digest_137 rfl ?_
            refine xV (w2 := [(aM, .inr (5, [.ref aMp, .int (nI pl), .int (nI nl), .int mi, .int ofr, .ref aMr, .int (nI pe), .ref aMs, .ref aMl, .int (f_X5_leastOf_M_9 nl pe bc ro ss ((f_X5_digest_50_Ml nl bk ro ss lt bo pe)) 2), .int rd, .ref aMg, .ref aMb, .int (nI bk), .ref aMo, .int sd, .int ko, .int kpe, .int kmi, .int kbk, .ref aMkr, .ref aMks, .ref aMkb, .long (f_X5_say_M_23 ((f_X5_digest_50_M_23 nl pe bk ro ss lt bo pe)) ((f_X5_leastOf nl pe bc ro ss ((f_X5_digest_50_Ml nl bk ro ss lt bo pe)) 2 0).toInt64))])), (aMp, .inl (cI, 20, .inl co)), (aMr, .inl (cI, 18, .inl ro)), (aMs, .inl (cI, 12, .inl ss)), (aMl, .inl (cI, 6, .inl (f_X5_leastOf_Ml nl pe ro ss ((f_X5_digest_50_Ml nl bk ro ss lt bo pe)) 2))), (aMo, .inl (cI, 24, .inl bo))]) ⟨hx, hb, hml, hown, hts⟩ (c_X5_say l D cI aM aMp aMr aMs aMl aMg aMb aMo aMkr aMks aMkb ofr rd pl nl mi pe kmi kpe (f_X5_leastOf_M_9 nl pe bc ro ss ((f_X5_digest_50_Ml nl bk ro ss lt bo pe)) 2) bk sd ko kbk ((f_X5_digest_50_M_23 nl pe bk ro ss lt bo pe)) ((f_X5_leastOf nl pe bc ro ss ((f_X5_digest_50_Ml nl bk ro ss lt bo pe)) 2 0).toInt64)) (cwV 1 hts gX5_digest_X5_say rfl rfl rfl hd_X5_say ⟨Nat.le_of_ble_eq_true rfl, Nat.le_of_ble_eq_true rfl⟩) hK hP hD hS hA [0] [1, 2, 3, 4, 5] [5, 0, 1, 2, 3, 4] rfl rfl rfl rfl rfl (by decide) rfl rfl rfl 0 rfl rfl rfl rfl hl.1 (rest := []) (st' := []) rfl rfl (Nat.le_of_ble_eq_true rfl) dX5_digest_138 ⟨Nat.zero_le _, Nat.zero_le _⟩ (fun H locs hP hD hS => ?_)
            refine lv_aload_n hx hb dX5_digest_141 rfl (lv_at hl 0 rfl) ?_
            refine lv_aload_n hx hb dX5_digest_142 rfl (lv_at hl 0 rfl) ?_
            refine lv_iconst (v := 2) hx hb dX5_digest_143 (by decide) ?_
            refine lv_bipush (v := 10) hx hb dX5_digest_144 (by decide) ?_
            refine xV (w2 := [(aM, .inr (5, [.ref aMp, .int (nI pl), .int (nI nl), .int mi, .int ofr, .ref aMr, .int (nI pe), .ref aMs, .ref aMl, .int (f_X5_leastOf_M_9 nl pe (f_X5_leastOf_M_9 nl pe bc ro ss ((f_X5_digest_50_Ml nl bk ro ss lt bo pe)) 2) ro ss (f_X5_leastOf_Ml nl pe ro ss ((f_X5_digest_50_Ml nl bk ro ss lt bo pe)) 2) 2), .int rd, .ref aMg, .ref aMb, .int (nI bk), .ref aMo, .int sd, .int ko, .int kpe, .int kmi, .int kbk, .ref aMkr, .ref aMks, .ref aMkb, .long (f_X5_say_M_23 ((f_X5_digest_50_M_23 nl pe bk ro ss lt bo pe)) ((f_X5_leastOf nl pe bc ro ss ((f_X5_digest_50_Ml nl bk ro ss lt bo pe)) 2 0).toInt64))])), (aMp, .inl (cI, 20, .inl co)), (aMr, .inl (cI, 18, .inl ro)), (aMs, .inl (cI, 12, .inl ss)), (aMl, .inl (cI, 6, .inl (f_X5_leastOf_Ml nl pe ro ss (f_X5_leastOf_Ml nl pe ro ss ((f_X5_digest_50_Ml nl bk ro ss lt bo pe)) 2) 2))), (aMo, .inl (cI, 24, .inl bo))]) ⟨hx, hb, hml, hown, hts⟩ (c_X5_leastOf l D cI aM aMp aMr aMs aMl aMg aMb aMo aMkr aMks aMkb ofr rd pl nl mi pe kmi kpe (f_X5_leastOf_M_9 nl pe bc ro ss ((f_X5_digest_50_Ml nl bk ro ss lt bo pe)) 2) bk sd ko kbk (f_X5_say_M_23 ((f_X5_digest_50_M_23 nl pe bk ro ss lt bo pe)) ((f_X5_leastOf nl pe bc ro ss ((f_X5_digest_50_Ml nl bk ro ss lt bo pe)) 2 0).toInt64)) ro ss (f_X5_leastOf_Ml nl pe ro ss ((f_X5_digest_50_Ml nl bk ro ss lt bo pe)) 2) 2 10 hn hpe hss (by decide)) (cwV 2 hts gX5_digest_X5_leastOf rfl rfl rfl hd_X5_leastOf ⟨Nat.le_of_ble_eq_true rfl, Nat.le_of_ble_eq_true rfl⟩) hK hP hD hS hA [0, 2, 3, 4] [1, 5] [2, 0, 3, 4, 5, 1] rfl rfl rfl rfl rfl (by decide) rfl rfl rfl 0 rfl rfl rfl rfl hl.1 (rest := [.ref aM]) (st' := [.int (f_X5_leastOf nl pe (f_X5_leastOf_M_9 nl pe bc ro ss ((f_X5_digest_50_Ml nl bk ro ss lt bo pe)) 2) ro ss (f_X5_leastOf_Ml nl pe ro ss ((f_X5_digest_50_Ml nl bk ro ss lt bo pe)) 2) 2 10), .ref aM]) rfl rfl (Nat.le_of_ble_eq_true rfl) dX5_digest_146 ⟨Nat.zero_le _, Nat.zero_le _⟩ (fun H locs hP hD hS => ?_)
            refine lv_i2l (v := (f_X5_leastOf nl pe (f_X5_leastOf_M_9 nl pe bc ro ss ((f_X5_digest_50_Ml nl bk ro ss lt bo pe)) 2) ro ss (f_X5_leastOf_Ml nl pe ro ss ((f_X5_digest_50_Ml nl bk ro ss lt bo pe)) 2) 2 10).toInt64) hx hb dX5_digest_149 rfl ?_
            refine xV (w2 := [(aM, .inr (5, [.ref aMp, .int (nI pl), .int (nI nl), .int mi, .int ofr, .ref aMr, .int (nI pe), .ref aMs, .ref aMl, .int (f_X5_leastOf_M_9 nl pe (f_X5_leastOf_M_9 nl pe bc ro ss ((f_X5_digest_50_Ml nl bk ro ss lt bo pe)) 2) ro ss (f_X5_leastOf_Ml nl pe ro ss ((f_X5_digest_50_Ml nl bk ro ss lt bo pe)) 2) 2), .int rd, .ref aMg, .ref aMb, .int (nI bk), .ref aMo, .int sd, .int ko, .int kpe, .int kmi, .int kbk, .ref aMkr, .ref aMks, .ref aMkb, .long (f_X5_say_M_23 (f_X5_say_M_23 ((f_X5_digest_50_M_23 nl pe bk ro ss lt bo pe)) ((f_X5_leastOf nl pe bc ro ss ((f_X5_digest_50_Ml nl bk ro ss lt bo pe)) 2 0).toInt64)) ((f_X5_leastOf nl pe (f_X5_leastOf_M_9 nl pe bc ro ss ((f_X5_digest_50_Ml nl bk ro ss lt bo pe)) 2) ro ss (f_X5_leastOf_Ml nl pe ro ss ((f_X5_digest_50_Ml nl bk ro ss lt bo pe)) 2) 2 10).toInt64))])), (aMp, .inl (cI, 20, .inl co)), (aMr, .inl (cI, 18, .inl ro)), (aMs, .inl (cI, 12, .inl ss)), (aMl, .inl (cI, 6, .inl (f_X5_leastOf_Ml nl pe ro ss (f_X5_leastOf_Ml nl pe ro ss ((f_X5_digest_50_Ml nl bk ro ss lt bo pe)) 2) 2))), (aMo, .inl (cI, 24, .inl bo))]) ⟨hx, hb, hml, hown, hts⟩ (c_X5_say l D cI aM aMp aMr aMs aMl aMg aMb aMo aMkr aMks aMkb ofr rd pl nl mi pe kmi kpe (f_X5_leastOf_M_9 nl pe (f_X5_leastOf_M_9 nl pe bc ro ss ((f_X5_digest_50_Ml nl bk ro ss lt bo pe)) 2) ro ss (f_X5_leastOf_Ml nl pe ro ss ((f_X5_digest_50_Ml nl bk ro ss lt bo pe)) 2) 2) bk sd ko kbk (f_X5_say_M_23 ((f_X5_digest_50_M_23 nl pe bk ro ss lt bo pe)) ((f_X5_leastOf nl pe bc ro ss ((f_X5_digest_50_Ml nl bk ro ss lt bo pe)) 2 0).toInt64)) ((f_X5_leastOf nl pe (f_X5_leastOf_M_9 nl pe bc ro ss ((f_X5_digest_50_Ml nl bk ro ss lt bo pe)) 2) ro ss (f_X5_leastOf_Ml nl pe ro ss ((f_X5_digest_50_Ml nl bk ro ss lt bo pe)) 2) 2 10).toInt64)) (cwV 1 hts gX5_digest_X5_say rfl rfl rfl hd_X5_say ⟨Nat.le_of_ble_eq_true rfl, Nat.le_of_ble_eq_true rfl⟩) hK hP hD hS hA [0] [1, 2, 3, 4, 5] [5, 0, 1, 2, 3, 4] rfl rfl rfl rfl rfl (by decide) rfl rfl rfl 0 rfl rfl rfl rfl hl.1 (rest := []) (st' := []) rfl rfl (Nat.le_of_ble_eq_true rfl) dX5_digest_150 ⟨Nat.zero_le _, Nat.zero_le _⟩ (fun H locs hP hD hS => ?_)
            refine lv_aload_n hx hb dX5_digest_153 rfl (lv_at hl 0 rfl) ?_
            refine lv_aload_n hx hb dX5_digest_154 rfl (lv_at hl 0 rfl) ?_
            refine lv_iconst (v := 2) hx hb dX5_digest_155 (by decide) ?_
            refine lv_bipush (v := 11) hx hb dX5_digest_156 (by decide) ?_
            refine xV (w2 := [(aM, .inr (5, [.ref aMp, .int (nI pl), .int (nI nl), .int mi, .int ofr, .ref aMr, .int (nI pe), .ref aMs, .ref aMl, .int (f_X5_leastOf_M_9 nl pe (f_X5_leastOf_M_9 nl pe (f_X5_leastOf_M_9 nl pe bc ro ss ((f_X5_digest_50_Ml nl bk ro ss lt bo pe)) 2) ro ss (f_X5_leastOf_Ml nl pe ro ss ((f_X5_digest_50_Ml nl bk ro ss lt bo pe)) 2) 2) ro ss (f_X5_leastOf_Ml nl pe ro ss (f_X5_leastOf_Ml nl pe ro ss ((f_X5_digest_50_Ml nl bk ro ss lt bo pe)) 2) 2) 2), .int rd, .ref aMg, .ref aMb, .int (nI bk), .ref aMo, .int sd, .int ko, .int kpe, .int kmi, .int kbk, .ref aMkr, .ref aMks, .ref aMkb, .long (f_X5_say_M_23 (f_X5_say_M_23 ((f_X5_digest_50_M_23 nl pe bk ro ss lt bo pe)) ((f_X5_leastOf nl pe bc ro ss ((f_X5_digest_50_Ml nl bk ro ss lt bo pe)) 2 0).toInt64)) ((f_X5_leastOf nl pe (f_X5_leastOf_M_9 nl pe bc ro ss ((f_X5_digest_50_Ml nl bk ro ss lt bo pe)) 2) ro ss (f_X5_leastOf_Ml nl pe ro ss ((f_X5_digest_50_Ml nl bk ro ss lt bo pe)) 2) 2 10).toInt64))])), (aMp, .inl (cI, 20, .inl co)), (aMr, .inl (cI, 18, .inl ro)), (aMs, .inl (cI, 12, .inl ss)), (aMl, .inl (cI, 6, .inl (f_X5_leastOf_Ml nl pe ro ss (f_X5_leastOf_Ml nl pe ro ss (f_X5_leastOf_Ml nl pe ro ss ((f_X5_digest_50_Ml nl bk ro ss lt bo pe)) 2) 2) 2))), (aMo, .inl (cI, 24, .inl bo))]) ⟨hx, hb, hml, hown, hts⟩ (c_X5_leastOf l D cI aM aMp aMr aMs aMl aMg aMb aMo aMkr aMks aMkb ofr rd pl nl mi pe kmi kpe (f_X5_leastOf_M_9 nl pe (f_X5_leastOf_M_9 nl pe bc ro ss ((f_X5_digest_50_Ml nl bk ro ss lt bo pe)) 2) ro ss (f_X5_leastOf_Ml nl pe ro ss ((f_X5_digest_50_Ml nl bk ro ss lt bo pe)) 2) 2) bk sd ko kbk (f_X5_say_M_23 (f_X5_say_M_23 ((f_X5_digest_50_M_23 nl pe bk ro ss lt bo pe)) ((f_X5_leastOf nl pe bc ro ss ((f_X5_digest_50_Ml nl bk ro ss lt bo pe)) 2 0).toInt64)) ((f_X5_leastOf nl pe (f_X5_leastOf_M_9 nl pe bc ro ss ((f_X5_digest_50_Ml nl bk ro ss lt bo pe)) 2) ro ss (f_X5_leastOf_Ml nl pe ro ss ((f_X5_digest_50_Ml nl bk ro ss lt bo pe)) 2) 2 10).toInt64)) ro ss (f_X5_leastOf_Ml nl pe ro ss (f_X5_leastOf_Ml nl pe ro ss ((f_X5_digest_50_Ml nl bk ro ss lt bo pe)) 2) 2) 2 11 hn hpe hss (by decide)) (cwV 2 hts gX5_digest_X5_leastOf rfl rfl rfl hd_X5_leastOf ⟨Nat.le_of_ble_eq_true rfl, Nat.le_of_ble_eq_true rfl⟩) hK hP hD hS hA [0, 2, 3, 4] [1, 5] [2, 0, 3, 4, 5, 1] rfl rfl rfl rfl rfl (by decide) rfl rfl rfl 0 rfl rfl rfl rfl hl.1 (rest := [.ref aM]) (st' := [.int (f_X5_leastOf nl pe (f_X5_leastOf_M_9 nl pe (f_X5_leastOf_M_9 nl pe bc ro ss ((f_X5_digest_50_Ml nl bk ro ss lt bo pe)) 2) ro ss (f_X5_leastOf_Ml nl pe ro ss ((f_X5_digest_50_Ml nl bk ro ss lt bo pe)) 2) 2) ro ss (f_X5_leastOf_Ml nl pe ro ss (f_X5_leastOf_Ml nl pe ro ss ((f_X5_digest_50_Ml nl bk ro ss lt bo pe)) 2) 2) 2 11), .ref aM]) rfl rfl (Nat.le_of_ble_eq_true rfl) dX5_digest_158 ⟨Nat.zero_le _, Nat.zero_le _⟩ (fun H locs hP hD hS => ?_)
            refine lv_i2l (v := (f_X5_leastOf nl pe (f_X5_leastOf_M_9 nl pe (f_X5_leastOf_M_9 nl pe bc ro ss ((f_X5_digest_50_Ml nl bk ro ss lt bo pe)) 2) ro ss (f_X5_leastOf_Ml nl pe ro ss ((f_X5_digest_50_Ml nl bk ro ss lt bo pe)) 2) 2) ro ss (f_X5_leastOf_Ml nl pe ro ss (f_X5_leastOf_Ml nl pe ro ss ((f_X5_digest_50_Ml nl bk ro ss lt bo pe)) 2) 2) 2 11).toInt64) hx hb dX5_digest_161 rfl ?_
            refine xV (w2 := [(aM, .inr (5, [.ref aMp, .int (nI pl), .int (nI nl), .int mi, .int ofr, .ref aMr, .int (nI pe), .ref aMs, .ref aMl, .int (f_X5_leastOf_M_9 nl pe (f_X5_leastOf_M_9 nl pe (f_X5_leastOf_M_9 nl pe bc ro ss ((f_X5_digest_50_Ml nl bk ro ss lt bo pe)) 2) ro ss (f_X5_leastOf_Ml nl pe ro ss ((f_X5_digest_50_Ml nl bk ro ss lt bo pe)) 2) 2) ro ss (f_X5_leastOf_Ml nl pe ro ss (f_X5_leastOf_Ml nl pe ro ss ((f_X5_digest_50_Ml nl bk ro ss lt bo pe)) 2) 2) 2), .int rd, .ref aMg, .ref aMb, .int (nI bk), .ref aMo, .int sd, .int ko, .int kpe, .int kmi, .int kbk, .ref aMkr, .ref aMks, .ref aMkb, .long (f_X5_say_M_23 (f_X5_say_M_23 (f_X5_say_M_23 ((f_X5_digest_50_M_23 nl pe bk ro ss lt bo pe)) ((f_X5_leastOf nl pe bc ro ss ((f_X5_digest_50_Ml nl bk ro ss lt bo pe)) 2 0).toInt64)) ((f_X5_leastOf nl pe (f_X5_leastOf_M_9 nl pe bc ro ss ((f_X5_digest_50_Ml nl bk ro ss lt bo pe)) 2) ro ss (f_X5_leastOf_Ml nl pe ro ss ((f_X5_digest_50_Ml nl bk ro ss lt bo pe)) 2) 2 10).toInt64)) ((f_X5_leastOf nl pe (f_X5_leastOf_M_9 nl pe (f_X5_leastOf_M_9 nl pe bc ro ss ((f_X5_digest_50_Ml nl bk ro ss lt bo pe)) 2) ro ss (f_X5_leastOf_Ml nl pe ro ss ((f_X5_digest_50_Ml nl bk ro ss lt bo pe)) 2) 2) ro ss (f_X5_leastOf_Ml nl pe ro ss (f_X5_leastOf_Ml nl pe ro ss ((f_X5_digest_50_Ml nl bk ro ss lt bo pe)) 2) 2) 2 11).toInt64))])), (aMp, .inl (cI, 20, .inl co)), (aMr, .inl (cI, 18, .inl ro)), (aMs, .inl (cI, 12, .inl ss)), (aMl, .inl (cI, 6, .inl (f_X5_leastOf_Ml nl pe ro ss (f_X5_leastOf_Ml nl pe ro ss (f_X5_leastOf_Ml nl pe ro ss ((f_X5_digest_50_Ml nl bk ro ss lt bo pe)) 2) 2) 2))), (aMo, .inl (cI, 24, .inl bo))]) ⟨hx, hb, hml, hown, hts⟩ (c_X5_say l D cI aM aMp aMr aMs aMl aMg aMb aMo aMkr aMks aMkb ofr rd pl nl mi pe kmi kpe (f_X5_leastOf_M_9 nl pe (f_X5_leastOf_M_9 nl pe (f_X5_leastOf_M_9 nl pe bc ro ss ((f_X5_digest_50_Ml nl bk ro ss lt bo pe)) 2) ro ss (f_X5_leastOf_Ml nl pe ro ss ((f_X5_digest_50_Ml nl bk ro ss lt bo pe)) 2) 2) ro ss (f_X5_leastOf_Ml nl pe ro ss (f_X5_leastOf_Ml nl pe ro ss ((f_X5_digest_50_Ml nl bk ro ss lt bo pe)) 2) 2) 2) bk sd ko kbk (f_X5_say_M_23 (f_X5_say_M_23 ((f_X5_digest_50_M_23 nl pe bk ro ss lt bo pe)) ((f_X5_leastOf nl pe bc ro ss ((f_X5_digest_50_Ml nl bk ro ss lt bo pe)) 2 0).toInt64)) ((f_X5_leastOf nl pe (f_X5_leastOf_M_9 nl pe bc ro ss ((f_X5_digest_50_Ml nl bk ro ss lt bo pe)) 2) ro ss (f_X5_leastOf_Ml nl pe ro ss ((f_X5_digest_50_Ml nl bk ro ss lt bo pe)) 2) 2 10).toInt64)) ((f_X5_leastOf nl pe (f_X5_leastOf_M_9 nl pe (f_X5_leastOf_M_9 nl pe bc ro ss ((f_X5_digest_50_Ml nl bk ro ss lt bo pe)) 2) ro ss (f_X5_leastOf_Ml nl pe ro ss ((f_X5_digest_50_Ml nl bk ro ss lt bo pe)) 2) 2) ro ss (f_X5_leastOf_Ml nl pe ro ss (f_X5_leastOf_Ml nl pe ro ss ((f_X5_digest_50_Ml nl bk ro ss lt bo pe)) 2) 2) 2 11).toInt64)) (cwV 1 hts gX5_digest_X5_say rfl rfl rfl hd_X5_say ⟨Nat.le_of_ble_eq_true rfl, Nat.le_of_ble_eq_true rfl⟩) hK hP hD hS hA [0] [1, 2, 3, 4, 5] [5, 0, 1, 2, 3, 4] rfl rfl rfl rfl rfl (by decide) rfl rfl rfl 0 rfl rfl rfl rfl hl.1 (rest := []) (st' := []) rfl rfl (Nat.le_of_ble_eq_true rfl) dX5_digest_162 ⟨Nat.zero_le _, Nat.zero_le _⟩ (fun H locs hP hD hS => ?_)
            refine lv_aload_n hx hb dX5_digest_165 rfl (lv_at hl 0 rfl) ?_
            refine lv_aload_n hx hb dX5_digest_166 rfl (lv_at hl 0 rfl) ?_
            refine lv_iconst (v := 0) hx hb dX5_digest_167 (by decide) ?_
            refine rV ⟨hx, hb, hml, hown, hts⟩ (c_X5_togetherOf l D cI aM aMp aMr aMs aMl aMg aMb aMo aMkr aMks aMkb ofr rd pl nl mi pe kmi kpe (f_X5_leastOf_M_9 nl pe (f_X5_leastOf_M_9 nl pe (f_X5_leastOf_M_9 nl pe bc ro ss ((f_X5_digest_50_Ml nl bk ro ss lt bo pe)) 2) ro ss (f_X5_leastOf_Ml nl pe ro ss ((f_X5_digest_50_Ml nl bk ro ss lt bo pe)) 2) 2) ro ss (f_X5_leastOf_Ml nl pe ro ss (f_X5_leastOf_Ml nl pe ro ss ((f_X5_digest_50_Ml nl bk ro ss lt bo pe)) 2) 2) 2) bk sd ko kbk (f_X5_say_M_23 (f_X5_say_M_23 (f_X5_say_M_23 ((f_X5_digest_50_M_23 nl pe bk ro ss lt bo pe)) ((f_X5_leastOf nl pe bc ro ss ((f_X5_digest_50_Ml nl bk ro ss lt bo pe)) 2 0).toInt64)) ((f_X5_leastOf nl pe (f_X5_leastOf_M_9 nl pe bc ro ss ((f_X5_digest_50_Ml nl bk ro ss lt bo pe)) 2) ro ss (f_X5_leastOf_Ml nl pe ro ss ((f_X5_digest_50_Ml nl bk ro ss lt bo pe)) 2) 2 10).toInt64)) ((f_X5_leastOf nl pe (f_X5_leastOf_M_9 nl pe (f_X5_leastOf_M_9 nl pe bc ro ss ((f_X5_digest_50_Ml nl bk ro ss lt bo pe)) 2) ro ss (f_X5_leastOf_Ml nl pe ro ss ((f_X5_digest_50_Ml nl bk ro ss lt bo pe)) 2) 2) ro ss (f_X5_leastOf_Ml nl pe ro ss (f_X5_leastOf_Ml nl pe ro ss ((f_X5_digest_50_Ml nl bk ro ss lt bo pe)) 2) 2) 2 11).toInt64)) ro 0 hn) (cwV 1 hts gX5_digest_X5_togetherOf rfl rfl rfl hd_X5_togetherOf ⟨Nat.le_of_ble_eq_true rfl, Nat.le_of_ble_eq_true rfl⟩) hK (hP.sub [0, 2] rfl) 0 rfl rfl rfl rfl hl.1 (rest := [.ref aM]) (st' := [.int (f_X5_togetherOf nl ro 0), .ref aM]) rfl rfl (Nat.le_of_ble_eq_true rfl) dX5_digest_168 ⟨Nat.zero_le _, Nat.zero_le _⟩ ?_
            refine lv_i2l (v := (f_X5_togetherOf nl ro 0).toInt64) hx hb dX5_digest_171 rfl ?_
            refine xV (w2 := [(aM, .inr (5, [.ref aMp, .int (nI pl), .int (nI nl), .int mi, .int ofr, .ref aMr, .int (nI pe), .ref aMs, .ref aMl, .int (f_X5_leastOf_M_9 nl pe (f_X5_leastOf_M_9 nl pe (f_X5_leastOf_M_9 nl pe bc ro ss ((f_X5_digest_50_Ml nl bk ro ss lt bo pe)) 2) ro ss (f_X5_leastOf_Ml nl pe ro ss ((f_X5_digest_50_Ml nl bk ro ss lt bo pe)) 2) 2) ro ss (f_X5_leastOf_Ml nl pe ro ss (f_X5_leastOf_Ml nl pe ro ss ((f_X5_digest_50_Ml nl bk ro ss lt bo pe)) 2) 2) 2), .int rd, .ref aMg, .ref aMb, .int (nI bk), .ref aMo, .int sd, .int ko, .int kpe, .int kmi, .int kbk, .ref aMkr, .ref aMks, .ref aMkb, .long (f_X5_say_M_23 (f_X5_say_M_23 (f_X5_say_M_23 (f_X5_say_M_23 ((f_X5_digest_50_M_23 nl pe bk ro ss lt bo pe)) ((f_X5_leastOf nl pe bc ro ss ((f_X5_digest_50_Ml nl bk ro ss lt bo pe)) 2 0).toInt64)) ((f_X5_leastOf nl pe (f_X5_leastOf_M_9 nl pe bc ro ss ((f_X5_digest_50_Ml nl bk ro ss lt bo pe)) 2) ro ss (f_X5_leastOf_Ml nl pe ro ss ((f_X5_digest_50_Ml nl bk ro ss lt bo pe)) 2) 2 10).toInt64)) ((f_X5_leastOf nl pe (f_X5_leastOf_M_9 nl pe (f_X5_leastOf_M_9 nl pe bc ro ss ((f_X5_digest_50_Ml nl bk ro ss lt bo pe)) 2) ro ss (f_X5_leastOf_Ml nl pe ro ss ((f_X5_digest_50_Ml nl bk ro ss lt bo pe)) 2) 2) ro ss (f_X5_leastOf_Ml nl pe ro ss (f_X5_leastOf_Ml nl pe ro ss ((f_X5_digest_50_Ml nl bk ro ss lt bo pe)) 2) 2) 2 11).toInt64)) ((f_X5_togetherOf nl ro 0).toInt64))])), (aMp, .inl (cI, 20, .inl co)), (aMr, .inl (cI, 18, .inl ro)), (aMs, .inl (cI, 12, .inl ss)), (aMl, .inl (cI, 6, .inl (f_X5_leastOf_Ml nl pe ro ss (f_X5_leastOf_Ml nl pe ro ss (f_X5_leastOf_Ml nl pe ro ss ((f_X5_digest_50_Ml nl bk ro ss lt bo pe)) 2) 2) 2))), (aMo, .inl (cI, 24, .inl bo))]) ⟨hx, hb, hml, hown, hts⟩ (c_X5_say l D cI aM aMp aMr aMs aMl aMg aMb aMo aMkr aMks aMkb ofr rd pl nl mi pe kmi kpe (f_X5_leastOf_M_9 nl pe (f_X5_leastOf_M_9 nl pe (f_X5_leastOf_M_9 nl pe bc ro ss ((f_X5_digest_50_Ml nl bk ro ss lt bo pe)) 2) ro ss (f_X5_leastOf_Ml nl pe ro ss ((f_X5_digest_50_Ml nl bk ro ss lt bo pe)) 2) 2) ro ss (f_X5_leastOf_Ml nl pe ro ss (f_X5_leastOf_Ml nl pe ro ss ((f_X5_digest_50_Ml nl bk ro ss lt bo pe)) 2) 2) 2) bk sd ko kbk (f_X5_say_M_23 (f_X5_say_M_23 (f_X5_say_M_23 ((f_X5_digest_50_M_23 nl pe bk ro ss lt bo pe)) ((f_X5_leastOf nl pe bc ro ss ((f_X5_digest_50_Ml nl bk ro ss lt bo pe)) 2 0).toInt64)) ((f_X5_leastOf nl pe (f_X5_leastOf_M_9 nl pe bc ro ss ((f_X5_digest_50_Ml nl bk ro ss lt bo pe)) 2) ro ss (f_X5_leastOf_Ml nl pe ro ss ((f_X5_digest_50_Ml nl bk ro ss lt bo pe)) 2) 2 10).toInt64)) ((f_X5_leastOf nl pe (f_X5_leastOf_M_9 nl pe (f_X5_leastOf_M_9 nl pe bc ro ss ((f_X5_digest_50_Ml nl bk ro ss lt bo pe)) 2) ro ss (f_X5_leastOf_Ml nl pe ro ss ((f_X5_digest_50_Ml nl bk ro ss lt bo pe)) 2) 2) ro ss (f_X5_leastOf_Ml nl pe ro ss (f_X5_leastOf_Ml nl pe ro ss ((f_X5_digest_50_Ml nl bk ro ss lt bo pe)) 2) 2) 2 11).toInt64)) ((f_X5_togetherOf nl ro 0).toInt64)) (cwV 1 hts gX5_digest_X5_say rfl rfl rfl hd_X5_say ⟨Nat.le_of_ble_eq_true rfl, Nat.le_of_ble_eq_true rfl⟩) hK hP hD hS hA [0] [1, 2, 3, 4, 5] [5, 0, 1, 2, 3, 4] rfl rfl rfl rfl rfl (by decide) rfl rfl rfl 0 rfl rfl rfl rfl hl.1 (rest := []) (st' := []) rfl rfl (Nat.le_of_ble_eq_true rfl) dX5_digest_172 ⟨Nat.zero_le _, Nat.zero_le _⟩ (fun H locs hP hD hS => ?_)
            refine lv_aload_n hx hb dX5_digest_175 rfl (lv_at hl 0 rfl) ?_
            refine lv_aload_n hx hb dX5_digest_176 rfl (lv_at hl 0 rfl) ?_
            refine lv_iconst (v := 1) hx hb dX5_digest_177 (by decide) ?_
            refine rV ⟨hx, hb, hml, hown, hts⟩ (c_X5_togetherOf l D cI aM aMp aMr aMs aMl aMg aMb aMo aMkr aMks aMkb ofr rd pl nl mi pe kmi kpe (f_X5_leastOf_M_9 nl pe (f_X5_leastOf_M_9 nl pe (f_X5_leastOf_M_9 nl pe bc ro ss ((f_X5_digest_50_Ml nl bk ro ss lt bo pe)) 2) ro ss (f_X5_leastOf_Ml nl pe ro ss ((f_X5_digest_50_Ml nl bk ro ss lt bo pe)) 2) 2) ro ss (f_X5_leastOf_Ml nl pe ro ss (f_X5_leastOf_Ml nl pe ro ss ((f_X5_digest_50_Ml nl bk ro ss lt bo pe)) 2) 2) 2) bk sd ko kbk (f_X5_say_M_23 (f_X5_say_M_23 (f_X5_say_M_23 (f_X5_say_M_23 ((f_X5_digest_50_M_23 nl pe bk ro ss lt bo pe)) ((f_X5_leastOf nl pe bc ro ss ((f_X5_digest_50_Ml nl bk ro ss lt bo pe)) 2 0).toInt64)) ((f_X5_leastOf nl pe (f_X5_leastOf_M_9 nl pe bc ro ss ((f_X5_digest_50_Ml nl bk ro ss lt bo pe)) 2) ro ss (f_X5_leastOf_Ml nl pe ro ss ((f_X5_digest_50_Ml nl bk ro ss lt bo pe)) 2) 2 10).toInt64)) ((f_X5_leastOf nl pe (f_X5_leastOf_M_9 nl pe (f_X5_leastOf_M_9 nl pe bc ro ss ((f_X5_digest_50_Ml nl bk ro ss lt bo pe)) 2) ro ss (f_X5_leastOf_Ml nl pe ro ss ((f_X5_digest_50_Ml nl bk ro ss lt bo pe)) 2) 2) ro ss (f_X5_leastOf_Ml nl pe ro ss (f_X5_leastOf_Ml nl pe ro ss ((f_X5_digest_50_Ml nl bk ro ss lt bo pe)) 2) 2) 2 11).toInt64)) ((f_X5_togetherOf nl ro 0).toInt64)) ro 1 hn) (cwV 1 hts gX5_digest_X5_togetherOf rfl rfl rfl hd_X5_togetherOf ⟨Nat.le_of_ble_eq_true rfl, Nat.le_of_ble_eq_true rfl⟩) hK (hP.sub [0, 2] rfl) 0 rfl rfl rfl rfl hl.1 (rest := [.ref aM]) (st' := [.int (f_X5_togetherOf nl ro 1), .ref aM]) rfl rfl (Nat.le_of_ble_eq_true rfl) dX5_digest_178 ⟨Nat.zero_le _, Nat.zero_le _⟩ ?_
            refine lv_i2l (v := (f_X5_togetherOf nl ro 1).toInt64) hx hb dX5_digest_181 rfl ?_
            refine xV (w2 := [(aM, .inr (5, [.ref aMp, .int (nI pl), .int (nI nl), .int mi, .int ofr, .ref aMr, .int (nI pe), .ref aMs, .ref aMl, .int (f_X5_leastOf_M_9 nl pe (f_X5_leastOf_M_9 nl pe (f_X5_leastOf_M_9 nl pe bc ro ss ((f_X5_digest_50_Ml nl bk ro ss lt bo pe)) 2) ro ss (f_X5_leastOf_Ml nl pe ro ss ((f_X5_digest_50_Ml nl bk ro ss lt bo pe)) 2) 2) ro ss (f_X5_leastOf_Ml nl pe ro ss (f_X5_leastOf_Ml nl pe ro ss ((f_X5_digest_50_Ml nl bk ro ss lt bo pe)) 2) 2) 2), .int rd, .ref aMg, .ref aMb, .int (nI bk), .ref aMo, .int sd, .int ko, .int kpe, .int kmi, .int kbk, .ref aMkr, .ref aMks, .ref aMkb, .long (f_X5_say_M_23 (f_X5_say_M_23 (f_X5_say_M_23 (f_X5_say_M_23 (f_X5_say_M_23 ((f_X5_digest_50_M_23 nl pe bk ro ss lt bo pe)) ((f_X5_leastOf nl pe bc ro ss ((f_X5_digest_50_Ml nl bk ro ss lt bo pe)) 2 0).toInt64)) ((f_X5_leastOf nl pe (f_X5_leastOf_M_9 nl pe bc ro ss ((f_X5_digest_50_Ml nl bk ro ss lt bo pe)) 2) ro ss (f_X5_leastOf_Ml nl pe ro ss ((f_X5_digest_50_Ml nl bk ro ss lt bo pe)) 2) 2 10).toInt64)) ((f_X5_leastOf nl pe (f_X5_leastOf_M_9 nl pe (f_X5_leastOf_M_9 nl pe bc ro ss ((f_X5_digest_50_Ml nl bk ro ss lt bo pe)) 2) ro ss (f_X5_leastOf_Ml nl pe ro ss ((f_X5_digest_50_Ml nl bk ro ss lt bo pe)) 2) 2) ro ss (f_X5_leastOf_Ml nl pe ro ss (f_X5_leastOf_Ml nl pe ro ss ((f_X5_digest_50_Ml nl bk ro ss lt bo pe)) 2) 2) 2 11).toInt64)) ((f_X5_togetherOf nl ro 0).toInt64)) ((f_X5_togetherOf nl ro 1).toInt64))])), (aMp, .inl (cI, 20, .inl co)), (aMr, .inl (cI, 18, .inl ro)), (aMs, .inl (cI, 12, .inl ss)), (aMl, .inl (cI, 6, .inl (f_X5_leastOf_Ml nl pe ro ss (f_X5_leastOf_Ml nl pe ro ss (f_X5_leastOf_Ml nl pe ro ss ((f_X5_digest_50_Ml nl bk ro ss lt bo pe)) 2) 2) 2))), (aMo, .inl (cI, 24, .inl bo))]) ⟨hx, hb, hml, hown, hts⟩ (c_X5_say l D cI aM aMp aMr aMs aMl aMg aMb aMo aMkr aMks aMkb ofr rd pl nl mi pe kmi kpe (f_X5_leastOf_M_9 nl pe (f_X5_leastOf_M_9 nl pe (f_X5_leastOf_M_9 nl pe bc ro ss ((f_X5_digest_50_Ml nl bk ro ss lt bo pe)) 2) ro ss (f_X5_leastOf_Ml nl pe ro ss ((f_X5_digest_50_Ml nl bk ro ss lt bo pe)) 2) 2) ro ss (f_X5_leastOf_Ml nl pe ro ss (f_X5_leastOf_Ml nl pe ro ss ((f_X5_digest_50_Ml nl bk ro ss lt bo pe)) 2) 2) 2) bk sd ko kbk (f_X5_say_M_23 (f_X5_say_M_23 (f_X5_say_M_23 (f_X5_say_M_23 ((f_X5_digest_50_M_23 nl pe bk ro ss lt bo pe)) ((f_X5_leastOf nl pe bc ro ss ((f_X5_digest_50_Ml nl bk ro ss lt bo pe)) 2 0).toInt64)) ((f_X5_leastOf nl pe (f_X5_leastOf_M_9 nl pe bc ro ss ((f_X5_digest_50_Ml nl bk ro ss lt bo pe)) 2) ro ss (f_X5_leastOf_Ml nl pe ro ss ((f_X5_digest_50_Ml nl bk ro ss lt bo pe)) 2) 2 10).toInt64)) ((f_X5_leastOf nl pe (f_X5_leastOf_M_9 nl pe (f_X5_leastOf_M_9 nl pe bc ro ss ((f_X5_digest_50_Ml nl bk ro ss lt bo pe)) 2) ro ss (f_X5_leastOf_Ml nl pe ro ss ((f_X5_digest_50_Ml nl bk ro ss lt bo pe)) 2) 2) ro ss (f_X5_leastOf_Ml nl pe ro ss (f_X5_leastOf_Ml nl pe ro ss ((f_X5_digest_50_Ml nl bk ro ss lt bo pe)) 2) 2) 2 11).toInt64)) ((f_X5_togetherOf nl ro 0).toInt64)) ((f_X5_togetherOf nl ro 1).toInt64)) (cwV 1 hts gX5_digest_X5_say rfl rfl rfl hd_X5_say ⟨Nat.le_of_ble_eq_true rfl, Nat.le_of_ble_eq_true rfl⟩) hK hP hD hS hA [0] [1, 2, 3, 4, 5] [5, 0, 1, 2, 3, 4] rfl rfl rfl rfl rfl (by decide) rfl rfl rfl 0 rfl rfl rfl rfl hl.1 (rest := []) (st' := []) rfl rfl (Nat.le_of_ble_eq_true rfl) dX5_digest_182 ⟨Nat.zero_le _, Nat.zero_le _⟩ (fun H locs hP hD hS => ?_)
            refine lv_iconst (v := 0) hx hb dX5_digest_185 (by decide) ?_
            refine lv_istore_n (lv' := [(1, .int 0), (0, .ref aM)]) hx hb dX5_digest_186 rfl hl (by decide) rfl (fun ls hl => ?_)
            have lp187 : ∀ (k187 i5 : Nat), i5 + k187 = pl → ∀ (H : Heap) (locs : List Loc), va_P D vwCl [(aM, .inr (5, [.ref aMp, .int (nI pl), .int (nI nl), .int mi, .int ofr, .ref aMr, .int (nI pe), .ref aMs, .ref aMl, .int (f_X5_leastOf_M_9 nl pe (f_X5_leastOf_M_9 nl pe (f_X5_leastOf_M_9 nl pe bc ro ss ((f_X5_digest_50_Ml nl bk ro ss lt bo pe)) 2) ro ss (f_X5_leastOf_Ml nl pe ro ss ((f_X5_digest_50_Ml nl bk ro ss lt bo pe)) 2) 2) ro ss (f_X5_leastOf_Ml nl pe ro ss (f_X5_leastOf_Ml nl pe ro ss ((f_X5_digest_50_Ml nl bk ro ss lt bo pe)) 2) 2) 2), .int rd, .ref aMg, .ref aMb, .int (nI bk), .ref aMo, .int sd, .int ko, .int kpe, .int kmi, .int kbk, .ref aMkr, .ref aMks, .ref aMkb, .long ((f_X5_digest_187_M_23 co (f_X5_say_M_23 (f_X5_say_M_23 (f_X5_say_M_23 (f_X5_say_M_23 (f_X5_say_M_23 ((f_X5_digest_50_M_23 nl pe bk ro ss lt bo pe)) ((f_X5_leastOf nl pe bc ro ss ((f_X5_digest_50_Ml nl bk ro ss lt bo pe)) 2 0).toInt64)) ((f_X5_leastOf nl pe (f_X5_leastOf_M_9 nl pe bc ro ss ((f_X5_digest_50_Ml nl bk ro ss lt bo pe)) 2) ro ss (f_X5_leastOf_Ml nl pe ro ss ((f_X5_digest_50_Ml nl bk ro ss lt bo pe)) 2) 2 10).toInt64)) ((f_X5_leastOf nl pe (f_X5_leastOf_M_9 nl pe (f_X5_leastOf_M_9 nl pe bc ro ss ((f_X5_digest_50_Ml nl bk ro ss lt bo pe)) 2) ro ss (f_X5_leastOf_Ml nl pe ro ss ((f_X5_digest_50_Ml nl bk ro ss lt bo pe)) 2) 2) ro ss (f_X5_leastOf_Ml nl pe ro ss (f_X5_leastOf_Ml nl pe ro ss ((f_X5_digest_50_Ml nl bk ro ss lt bo pe)) 2) 2) 2 11).toInt64)) ((f_X5_togetherOf nl ro 0).toInt64)) ((f_X5_togetherOf nl ro 1).toInt64)) i5))])), (aMp, .inl (cI, 20, .inl co)), (aMr, .inl (cI, 18, .inl ro)), (aMs, .inl (cI, 12, .inl ss)), (aMl, .inl (cI, 6, .inl (f_X5_leastOf_Ml nl pe ro ss (f_X5_leastOf_Ml nl pe ro ss (f_X5_leastOf_Ml nl pe ro ss ((f_X5_digest_50_Ml nl bk ro ss lt bo pe)) 2) 2) 2))), (aMo, .inl (cI, 24, .inl bo))] H → va_D A [(aM, .inr (5, [.ref aMp, .int (nI pl), .int (nI nl), .int mi, .int ofr, .ref aMr, .int (nI pe), .ref aMs, .ref aMl, .int (f_X5_leastOf_M_9 nl pe (f_X5_leastOf_M_9 nl pe (f_X5_leastOf_M_9 nl pe bc ro ss ((f_X5_digest_50_Ml nl bk ro ss lt bo pe)) 2) ro ss (f_X5_leastOf_Ml nl pe ro ss ((f_X5_digest_50_Ml nl bk ro ss lt bo pe)) 2) 2) ro ss (f_X5_leastOf_Ml nl pe ro ss (f_X5_leastOf_Ml nl pe ro ss ((f_X5_digest_50_Ml nl bk ro ss lt bo pe)) 2) 2) 2), .int rd, .ref aMg, .ref aMb, .int (nI bk), .ref aMo, .int sd, .int ko, .int kpe, .int kmi, .int kbk, .ref aMkr, .ref aMks, .ref aMkb, .long ((f_X5_digest_187_M_23 co (f_X5_say_M_23 (f_X5_say_M_23 (f_X5_say_M_23 (f_X5_say_M_23 (f_X5_say_M_23 ((f_X5_digest_50_M_23 nl pe bk ro ss lt bo pe)) ((f_X5_leastOf nl pe bc ro ss ((f_X5_digest_50_Ml nl bk ro ss lt bo pe)) 2 0).toInt64)) ((f_X5_leastOf nl pe (f_X5_leastOf_M_9 nl pe bc ro ss ((f_X5_digest_50_Ml nl bk ro ss lt bo pe)) 2) ro ss (f_X5_leastOf_Ml nl pe ro ss ((f_X5_digest_50_Ml nl bk ro ss lt bo pe)) 2) 2 10).toInt64)) ((f_X5_leastOf nl pe (f_X5_leastOf_M_9 nl pe (f_X5_leastOf_M_9 nl pe bc ro ss ((f_X5_digest_50_Ml nl bk ro ss lt bo pe)) 2) ro ss (f_X5_leastOf_Ml nl pe ro ss ((f_X5_digest_50_Ml nl bk ro ss lt bo pe)) 2) 2) ro ss (f_X5_leastOf_Ml nl pe ro ss (f_X5_leastOf_Ml nl pe ro ss ((f_X5_digest_50_Ml nl bk ro ss lt bo pe)) 2) 2) 2 11).toInt64)) ((f_X5_togetherOf nl ro 0).toInt64)) ((f_X5_togetherOf nl ro 1).toInt64)) i5))])), (aMp, .inl (cI, 20, .inl co)), (aMr, .inl (cI, 18, .inl ro)), (aMs, .inl (cI, 12, .inl ss)), (aMl, .inl (cI, 6, .inl (f_X5_leastOf_Ml nl pe ro ss (f_X5_leastOf_Ml nl pe ro ss (f_X5_leastOf_Ml nl pe ro ss ((f_X5_digest_50_Ml nl bk ro ss lt bo pe)) 2) 2) 2))), (aMo, .inl (cI, 24, .inl bo))] → va_S A s.heap H locs → ∀ ls : Array Slot, lv_has ls 3 [(0, .ref aM), (1, .int (nI i5))] → W p l e rm_X5_digest s m args below meth c H locs 0 0 Q (F0 m 187 ls []) := by
              intro k187
              induction k187 with
              | zero =>
                intro i5 hk187 H locs hP hD hS ls hl
                have hN187 : pl = i5 := by omega
                subst hN187
                refine lv_iload_n hx hb dX5_digest_187 rfl (lv_at hl 1 rfl) ?_
                refine lv_aload_n hx hb dX5_digest_188 rfl (lv_at hl 0 rfl) ?_
                refine va_get (D := D) (ci := 5) (v := .int (nI pl)) (C := RX5) (T := TX5) (N := 24) hx hb hts uX5 hown hK hP 0 rfl rfl 1 (by decide) w5 (fun _ h9 => h9) rfl dX5_digest_189 ?_
                refine lv_icmp_ge (tgt := 212) hx hb dX5_digest_192 (by decide) (fun _ => ?_) (fun c => absurd (nle_t (a := pl) (b := pl) rfl rfl (by omega) (by omega) (by omega)) c)
                refine lv_iconst (v := 0) hx hb dX5_digest_212 (by decide) ?_
                refine lv_istore_n (lv' := [(1, .int 0), (0, .ref aM)]) hx hb dX5_digest_213 rfl hl (by decide) rfl (fun ls hl => ?_)
                have lp214 : ∀ (k214 i6 : Nat), i6 + k214 = 11 → ∀ (H : Heap) (locs : List Loc), va_P D vwCl [(aM, .inr (5, [.ref aMp, .int (nI pl), .int (nI nl), .int mi, .int ofr, .ref aMr, .int (nI pe), .ref aMs, .ref aMl, .int (f_X5_leastOf_M_9 nl pe (f_X5_leastOf_M_9 nl pe (f_X5_leastOf_M_9 nl pe bc ro ss ((f_X5_digest_50_Ml nl bk ro ss lt bo pe)) 2) ro ss (f_X5_leastOf_Ml nl pe ro ss ((f_X5_digest_50_Ml nl bk ro ss lt bo pe)) 2) 2) ro ss (f_X5_leastOf_Ml nl pe ro ss (f_X5_leastOf_Ml nl pe ro ss ((f_X5_digest_50_Ml nl bk ro ss lt bo pe)) 2) 2) 2), .int rd, .ref aMg, .ref aMb, .int (nI bk), .ref aMo, .int sd, .int ko, .int kpe, .int kmi, .int kbk, .ref aMkr, .ref aMks, .ref aMkb, .long ((f_X5_digest_214_M_23 ofr rd pl nl mi pe bk ro ss ((f_X5_digest_187_M_23 co (f_X5_say_M_23 (f_X5_say_M_23 (f_X5_say_M_23 (f_X5_say_M_23 (f_X5_say_M_23 ((f_X5_digest_50_M_23 nl pe bk ro ss lt bo pe)) ((f_X5_leastOf nl pe bc ro ss ((f_X5_digest_50_Ml nl bk ro ss lt bo pe)) 2 0).toInt64)) ((f_X5_leastOf nl pe (f_X5_leastOf_M_9 nl pe bc ro ss ((f_X5_digest_50_Ml nl bk ro ss lt bo pe)) 2) ro ss (f_X5_leastOf_Ml nl pe ro ss ((f_X5_digest_50_Ml nl bk ro ss lt bo pe)) 2) 2 10).toInt64)) ((f_X5_leastOf nl pe (f_X5_leastOf_M_9 nl pe (f_X5_leastOf_M_9 nl pe bc ro ss ((f_X5_digest_50_Ml nl bk ro ss lt bo pe)) 2) ro ss (f_X5_leastOf_Ml nl pe ro ss ((f_X5_digest_50_Ml nl bk ro ss lt bo pe)) 2) 2) ro ss (f_X5_leastOf_Ml nl pe ro ss (f_X5_leastOf_Ml nl pe ro ss ((f_X5_digest_50_Ml nl bk ro ss lt bo pe)) 2) 2) 2 11).toInt64)) ((f_X5_togetherOf nl ro 0).toInt64)) ((f_X5_togetherOf nl ro 1).toInt64)) pl)) i6))])), (aMp, .inl (cI, 20, .inl co)), (aMr, .inl (cI, 18, .inl ro)), (aMs, .inl (cI, 12, .inl ss)), (aMl, .inl (cI, 6, .inl (f_X5_leastOf_Ml nl pe ro ss (f_X5_leastOf_Ml nl pe ro ss (f_X5_leastOf_Ml nl pe ro ss ((f_X5_digest_50_Ml nl bk ro ss lt bo pe)) 2) 2) 2))), (aMo, .inl (cI, 24, .inl bo))] H → va_D A [(aM, .inr (5, [.ref aMp, .int (nI pl), .int (nI nl), .int mi, .int ofr, .ref aMr, .int (nI pe), .ref aMs, .ref aMl, .int (f_X5_leastOf_M_9 nl pe (f_X5_leastOf_M_9 nl pe (f_X5_leastOf_M_9 nl pe bc ro ss ((f_X5_digest_50_Ml nl bk ro ss lt bo pe)) 2) ro ss (f_X5_leastOf_Ml nl pe ro ss ((f_X5_digest_50_Ml nl bk ro ss lt bo pe)) 2) 2) ro ss (f_X5_leastOf_Ml nl pe ro ss (f_X5_leastOf_Ml nl pe ro ss ((f_X5_digest_50_Ml nl bk ro ss lt bo pe)) 2) 2) 2), .int rd, .ref aMg, .ref aMb, .int (nI bk), .ref aMo, .int sd, .int ko, .int kpe, .int kmi, .int kbk, .ref aMkr, .ref aMks, .ref aMkb, .long ((f_X5_digest_214_M_23 ofr rd pl nl mi pe bk ro ss ((f_X5_digest_187_M_23 co (f_X5_say_M_23 (f_X5_say_M_23 (f_X5_say_M_23 (f_X5_say_M_23 (f_X5_say_M_23 ((f_X5_digest_50_M_23 nl pe bk ro ss lt bo pe)) ((f_X5_leastOf nl pe bc ro ss ((f_X5_digest_50_Ml nl bk ro ss lt bo pe)) 2 0).toInt64)) ((f_X5_leastOf nl pe (f_X5_leastOf_M_9 nl pe bc ro ss ((f_X5_digest_50_Ml nl bk ro ss lt bo pe)) 2) ro ss (f_X5_leastOf_Ml nl pe ro ss ((f_X5_digest_50_Ml nl bk ro ss lt bo pe)) 2) 2 10).toInt64)) ((f_X5_leastOf nl pe (f_X5_leastOf_M_9 nl pe (f_X5_leastOf_M_9 nl pe bc ro ss ((f_X5_digest_50_Ml nl bk ro ss lt bo pe)) 2) ro ss (f_X5_leastOf_Ml nl pe ro ss ((f_X5_digest_50_Ml nl bk ro ss lt bo pe)) 2) 2) ro ss (f_X5_leastOf_Ml nl pe ro ss (f_X5_leastOf_Ml nl pe ro ss ((f_X5_digest_50_Ml nl bk ro ss lt bo pe)) 2) 2) 2 11).toInt64)) ((f_X5_togetherOf nl ro 0).toInt64)) ((f_X5_togetherOf nl ro 1).toInt64)) pl)) i6))])), (aMp, .inl (cI, 20, .inl co)), (aMr, .inl (cI, 18, .inl ro)), (aMs, .inl (cI, 12, .inl ss)), (aMl, .inl (cI, 6, .inl (f_X5_leastOf_Ml nl pe ro ss (f_X5_leastOf_Ml nl pe ro ss (f_X5_leastOf_Ml nl pe ro ss ((f_X5_digest_50_Ml nl bk ro ss lt bo pe)) 2) 2) 2))), (aMo, .inl (cI, 24, .inl bo))] → va_S A s.heap H locs → ∀ ls : Array Slot, lv_has ls 3 [(0, .ref aM), (1, .int (nI i6))] → W p l e rm_X5_digest s m args below meth c H locs 0 0 Q (F0 m 214 ls []) := by
                  intro k214
                  induction k214 with
                  | zero =>
                    intro i6 hk214 H locs hP hD hS ls hl
                    have hN214 : 11 = i6 := by omega
                    subst hN214
                    refine lv_iload_n hx hb dX5_digest_214 rfl (lv_at hl 1 rfl) ?_
                    refine lv_bipush (v := 11) hx hb dX5_digest_215 (by decide) ?_
                    refine lv_icmp_ge (tgt := 236) hx hb dX5_digest_217 (by decide) (fun _ => ?_) (fun c => absurd (nle_t (a := 11) (b := 11) rfl rfl (by omega) (by omega) (by omega)) c)
                    refine lv_aload_n hx hb dX5_digest_236 rfl (lv_at hl 0 rfl) ?_
                    refine va_get (D := D) (ci := 5) (v := .long ((f_X5_digest_214_M_23 ofr rd pl nl mi pe bk ro ss ((f_X5_digest_187_M_23 co (f_X5_say_M_23 (f_X5_say_M_23 (f_X5_say_M_23 (f_X5_say_M_23 (f_X5_say_M_23 ((f_X5_digest_50_M_23 nl pe bk ro ss lt bo pe)) ((f_X5_leastOf nl pe bc ro ss ((f_X5_digest_50_Ml nl bk ro ss lt bo pe)) 2 0).toInt64)) ((f_X5_leastOf nl pe (f_X5_leastOf_M_9 nl pe bc ro ss ((f_X5_digest_50_Ml nl bk ro ss lt bo pe)) 2) ro ss (f_X5_leastOf_Ml nl pe ro ss ((f_X5_digest_50_Ml nl bk ro ss lt bo pe)) 2) 2 10).toInt64)) ((f_X5_leastOf nl pe (f_X5_leastOf_M_9 nl pe (f_X5_leastOf_M_9 nl pe bc ro ss ((f_X5_digest_50_Ml nl bk ro ss lt bo pe)) 2) ro ss (f_X5_leastOf_Ml nl pe ro ss ((f_X5_digest_50_Ml nl bk ro ss lt bo pe)) 2) 2) ro ss (f_X5_leastOf_Ml nl pe ro ss (f_X5_leastOf_Ml nl pe ro ss ((f_X5_digest_50_Ml nl bk ro ss lt bo pe)) 2) 2) 2 11).toInt64)) ((f_X5_togetherOf nl ro 0).toInt64)) ((f_X5_togetherOf nl ro 1).toInt64)) pl)) 11))) (C := RX5) (T := TX5) (N := 24) hx hb hts uX5 hown hK hP 0 rfl rfl 23 (by decide) w2 (fun _ h9 => h9) rfl dX5_digest_237 ?_
                    have e_M_23 : (f_X5_digest_M_23 ofr rd pl co nl mi pe bc bk ro ss lt bo) = (f_X5_digest_214_M_23 ofr rd pl nl mi pe bk ro ss ((f_X5_digest_187_M_23 co (f_X5_say_M_23 (f_X5_say_M_23 (f_X5_say_M_23 (f_X5_say_M_23 (f_X5_say_M_23 ((f_X5_digest_50_M_23 nl pe bk ro ss lt bo pe)) ((f_X5_leastOf nl pe bc ro ss ((f_X5_digest_50_Ml nl bk ro ss lt bo pe)) 2 0).toInt64)) ((f_X5_leastOf nl pe (f_X5_leastOf_M_9 nl pe bc ro ss ((f_X5_digest_50_Ml nl bk ro ss lt bo pe)) 2) ro ss (f_X5_leastOf_Ml nl pe ro ss ((f_X5_digest_50_Ml nl bk ro ss lt bo pe)) 2) 2 10).toInt64)) ((f_X5_leastOf nl pe (f_X5_leastOf_M_9 nl pe (f_X5_leastOf_M_9 nl pe bc ro ss ((f_X5_digest_50_Ml nl bk ro ss lt bo pe)) 2) ro ss (f_X5_leastOf_Ml nl pe ro ss ((f_X5_digest_50_Ml nl bk ro ss lt bo pe)) 2) 2) ro ss (f_X5_leastOf_Ml nl pe ro ss (f_X5_leastOf_Ml nl pe ro ss ((f_X5_digest_50_Ml nl bk ro ss lt bo pe)) 2) 2) 2 11).toInt64)) ((f_X5_togetherOf nl ro 0).toInt64)) ((f_X5_togetherOf nl ro 1).toInt64)) pl)) 11) := (by simp only [f_X5_digest_M_23, if_pos c1])
                    have e_M_9 : (f_X5_digest_M_9 nl pe bc bk ro ss lt bo) = (f_X5_leastOf_M_9 nl pe (f_X5_leastOf_M_9 nl pe (f_X5_leastOf_M_9 nl pe bc ro ss ((f_X5_digest_50_Ml nl bk ro ss lt bo pe)) 2) ro ss (f_X5_leastOf_Ml nl pe ro ss ((f_X5_digest_50_Ml nl bk ro ss lt bo pe)) 2) 2) ro ss (f_X5_leastOf_Ml nl pe ro ss (f_X5_leastOf_Ml nl pe ro ss ((f_X5_digest_50_Ml nl bk ro ss lt bo pe)) 2) 2) 2) := (by simp only [f_X5_digest_M_9, if_pos c1])
                    have e_Ml : (f_X5_digest_Ml nl pe bk ro ss lt bo) = (f_X5_leastOf_Ml nl pe ro ss (f_X5_leastOf_Ml nl pe ro ss (f_X5_leastOf_Ml nl pe ro ss ((f_X5_digest_50_Ml nl bk ro ss lt bo pe)) 2) 2) 2) := (by simp only [f_X5_digest_Ml, if_pos c1])
                    exact eXl hx hb hr hlk hQ (by rw [e_M_23, e_M_9, e_Ml]; exact hP) (by rw [e_M_23, e_M_9, e_Ml]; exact hD) hS dX5_digest_240 (Eq.symm (by simp only [f_X5_digest, if_pos c1]))
                  | succ k214 ih214 =>
                    intro i6 hk214 H locs hP hD hS ls hl
                    refine lv_iload_n hx hb dX5_digest_214 rfl (lv_at hl 1 rfl) ?_
                    refine lv_bipush (v := 11) hx hb dX5_digest_215 (by decide) ?_
                    refine lv_icmp_ge (tgt := 236) hx hb dX5_digest_217 (by decide) (fun c => absurd c (nle_f (a := 11) (b := i6) rfl rfl (by omega) (by omega) (by omega))) (fun _ => ?_)
                    refine lv_aload_n hx hb dX5_digest_220 rfl (lv_at hl 0 rfl) ?_
                    refine lv_aload_n hx hb dX5_digest_221 rfl (lv_at hl 0 rfl) ?_
                    refine lv_iload_n hx hb dX5_digest_222 rfl (lv_at hl 1 rfl) ?_
                    refine rV ⟨hx, hb, hml, hown, hts⟩ (c_X5_countOf l D cI aM aMp aMr aMs aMl aMg aMb aMo aMkr aMks aMkb ofr rd pl nl mi pe kmi kpe (f_X5_leastOf_M_9 nl pe (f_X5_leastOf_M_9 nl pe (f_X5_leastOf_M_9 nl pe bc ro ss ((f_X5_digest_50_Ml nl bk ro ss lt bo pe)) 2) ro ss (f_X5_leastOf_Ml nl pe ro ss ((f_X5_digest_50_Ml nl bk ro ss lt bo pe)) 2) 2) ro ss (f_X5_leastOf_Ml nl pe ro ss (f_X5_leastOf_Ml nl pe ro ss ((f_X5_digest_50_Ml nl bk ro ss lt bo pe)) 2) 2) 2) bk sd ko kbk ((f_X5_digest_214_M_23 ofr rd pl nl mi pe bk ro ss ((f_X5_digest_187_M_23 co (f_X5_say_M_23 (f_X5_say_M_23 (f_X5_say_M_23 (f_X5_say_M_23 (f_X5_say_M_23 ((f_X5_digest_50_M_23 nl pe bk ro ss lt bo pe)) ((f_X5_leastOf nl pe bc ro ss ((f_X5_digest_50_Ml nl bk ro ss lt bo pe)) 2 0).toInt64)) ((f_X5_leastOf nl pe (f_X5_leastOf_M_9 nl pe bc ro ss ((f_X5_digest_50_Ml nl bk ro ss lt bo pe)) 2) ro ss (f_X5_leastOf_Ml nl pe ro ss ((f_X5_digest_50_Ml nl bk ro ss lt bo pe)) 2) 2 10).toInt64)) ((f_X5_leastOf nl pe (f_X5_leastOf_M_9 nl pe (f_X5_leastOf_M_9 nl pe bc ro ss ((f_X5_digest_50_Ml nl bk ro ss lt bo pe)) 2) ro ss (f_X5_leastOf_Ml nl pe ro ss ((f_X5_digest_50_Ml nl bk ro ss lt bo pe)) 2) 2) ro ss (f_X5_leastOf_Ml nl pe ro ss (f_X5_leastOf_Ml nl pe ro ss ((f_X5_digest_50_Ml nl bk ro ss lt bo pe)) 2) 2) 2 11).toInt64)) ((f_X5_togetherOf nl ro 0).toInt64)) ((f_X5_togetherOf nl ro 1).toInt64)) pl)) i6)) ro ss (nI i6) hn hpe hss) (cwV 1 hts gX5_digest_X5_countOf rfl rfl rfl hd_X5_countOf ⟨Nat.le_of_ble_eq_true rfl, Nat.le_of_ble_eq_true rfl⟩) hK (hP.sub [0, 2, 3] rfl) 0 rfl rfl rfl rfl hl.1 (rest := [.ref aM]) (st' := [.int (f_X5_countOf ofr rd pl nl mi pe bk ro ss (nI i6)), .ref aM]) rfl rfl (Nat.le_of_ble_eq_true rfl) dX5_digest_223 ⟨Nat.zero_le _, Nat.zero_le _⟩ ?_
                    refine lv_i2l (v := (f_X5_countOf ofr rd pl nl mi pe bk ro ss (nI i6)).toInt64) hx hb dX5_digest_226 rfl ?_
                    refine xV (w2 := [(aM, .inr (5, [.ref aMp, .int (nI pl), .int (nI nl), .int mi, .int ofr, .ref aMr, .int (nI pe), .ref aMs, .ref aMl, .int (f_X5_leastOf_M_9 nl pe (f_X5_leastOf_M_9 nl pe (f_X5_leastOf_M_9 nl pe bc ro ss ((f_X5_digest_50_Ml nl bk ro ss lt bo pe)) 2) ro ss (f_X5_leastOf_Ml nl pe ro ss ((f_X5_digest_50_Ml nl bk ro ss lt bo pe)) 2) 2) ro ss (f_X5_leastOf_Ml nl pe ro ss (f_X5_leastOf_Ml nl pe ro ss ((f_X5_digest_50_Ml nl bk ro ss lt bo pe)) 2) 2) 2), .int rd, .ref aMg, .ref aMb, .int (nI bk), .ref aMo, .int sd, .int ko, .int kpe, .int kmi, .int kbk, .ref aMkr, .ref aMks, .ref aMkb, .long (f_X5_say_M_23 ((f_X5_digest_214_M_23 ofr rd pl nl mi pe bk ro ss ((f_X5_digest_187_M_23 co (f_X5_say_M_23 (f_X5_say_M_23 (f_X5_say_M_23 (f_X5_say_M_23 (f_X5_say_M_23 ((f_X5_digest_50_M_23 nl pe bk ro ss lt bo pe)) ((f_X5_leastOf nl pe bc ro ss ((f_X5_digest_50_Ml nl bk ro ss lt bo pe)) 2 0).toInt64)) ((f_X5_leastOf nl pe (f_X5_leastOf_M_9 nl pe bc ro ss ((f_X5_digest_50_Ml nl bk ro ss lt bo pe)) 2) ro ss (f_X5_leastOf_Ml nl pe ro ss ((f_X5_digest_50_Ml nl bk ro ss lt bo pe)) 2) 2 10).toInt64)) ((f_X5_leastOf nl pe (f_X5_leastOf_M_9 nl pe (f_X5_leastOf_M_9 nl pe bc ro ss ((f_X5_digest_50_Ml nl bk ro ss lt bo pe)) 2) ro ss (f_X5_leastOf_Ml nl pe ro ss ((f_X5_digest_50_Ml nl bk ro ss lt bo pe)) 2) 2) ro ss (f_X5_leastOf_Ml nl pe ro ss (f_X5_leastOf_Ml nl pe ro ss ((f_X5_digest_50_Ml nl bk ro ss lt bo pe)) 2) 2) 2 11).toInt64)) ((f_X5_togetherOf nl ro 0).toInt64)) ((f_X5_togetherOf nl ro 1).toInt64)) pl)) i6)) ((f_X5_countOf ofr rd pl nl mi pe bk ro ss (nI i6)).toInt64))])), (aMp, .inl (cI, 20, .inl co)), (aMr, .inl (cI, 18, .inl ro)), (aMs, .inl (cI, 12, .inl ss)), (aMl, .inl (cI, 6, .inl (f_X5_leastOf_Ml nl pe ro ss (f_X5_leastOf_Ml nl pe ro ss (f_X5_leastOf_Ml nl pe ro ss ((f_X5_digest_50_Ml nl bk ro ss lt bo pe)) 2) 2) 2))), (aMo, .inl (cI, 24, .inl bo))]) ⟨hx, hb, hml, hown, hts⟩ (c_X5_say l D cI aM aMp aMr aMs aMl aMg aMb aMo aMkr aMks aMkb ofr rd pl nl mi pe kmi kpe (f_X5_leastOf_M_9 nl pe (f_X5_leastOf_M_9 nl pe (f_X5_leastOf_M_9 nl pe bc ro ss ((f_X5_digest_50_Ml nl bk ro ss lt bo pe)) 2) ro ss (f_X5_leastOf_Ml nl pe ro ss ((f_X5_digest_50_Ml nl bk ro ss lt bo pe)) 2) 2) ro ss (f_X5_leastOf_Ml nl pe ro ss (f_X5_leastOf_Ml nl pe ro ss ((f_X5_digest_50_Ml nl bk ro ss lt bo pe)) 2) 2) 2) bk sd ko kbk ((f_X5_digest_214_M_23 ofr rd pl nl mi pe bk ro ss ((f_X5_digest_187_M_23 co (f_X5_say_M_23 (f_X5_say_M_23 (f_X5_say_M_23 (f_X5_say_M_23 (f_X5_say_M_23 ((f_X5_digest_50_M_23 nl pe bk ro ss lt bo pe)) ((f_X5_leastOf nl pe bc ro ss ((f_X5_digest_50_Ml nl bk ro ss lt bo pe)) 2 0).toInt64)) ((f_X5_leastOf nl pe (f_X5_leastOf_M_9 nl pe bc ro ss ((f_X5_digest_50_Ml nl bk ro ss lt bo pe)) 2) ro ss (f_X5_leastOf_Ml nl pe ro ss ((f_X5_digest_50_Ml nl bk ro ss lt bo pe)) 2) 2 10).toInt64)) ((f_X5_leastOf nl pe (f_X5_leastOf_M_9 nl pe (f_X5_leastOf_M_9 nl pe bc ro ss ((f_X5_digest_50_Ml nl bk ro ss lt bo pe)) 2) ro ss (f_X5_leastOf_Ml nl pe ro ss ((f_X5_digest_50_Ml nl bk ro ss lt bo pe)) 2) 2) ro ss (f_X5_leastOf_Ml nl pe ro ss (f_X5_leastOf_Ml nl pe ro ss ((f_X5_digest_50_Ml nl bk ro ss lt bo pe)) 2) 2) 2 11).toInt64)) ((f_X5_togetherOf nl ro 0).toInt64)) ((f_X5_togetherOf nl ro 1).toInt64)) pl)) i6)) ((f_X5_countOf ofr rd pl nl mi pe bk ro ss (nI i6)).toInt64)) (cwV 1 hts gX5_digest_X5_say rfl rfl rfl hd_X5_say ⟨Nat.le_of_ble_eq_true rfl, Nat.le_of_ble_eq_true rfl⟩) hK hP hD hS hA [0] [1, 2, 3, 4, 5] [5, 0, 1, 2, 3, 4] rfl rfl rfl rfl rfl (by decide) rfl rfl rfl 0 rfl rfl rfl rfl hl.1 (rest := []) (st' := []) rfl rfl (Nat.le_of_ble_eq_true rfl) dX5_digest_227 ⟨Nat.zero_le _, Nat.zero_le _⟩ (fun H locs hP hD hS => ?_)
                    refine lv_iinc (v := nI (i6 + 1)) (lv' := [(1, .int (nI (i6 + 1))), (0, .ref aM)]) hx hb dX5_digest_230 hl (k := 1) rfl (nI_add i6 1) (by decide) rfl (fun ls hl => ?_)
                    refine lv_goto (tgt := 214) hx hb dX5_digest_233 (by decide) ?_
                    have e_M_23 : (f_X5_digest_214_M_23 ofr rd pl nl mi pe bk ro ss ((f_X5_digest_187_M_23 co (f_X5_say_M_23 (f_X5_say_M_23 (f_X5_say_M_23 (f_X5_say_M_23 (f_X5_say_M_23 ((f_X5_digest_50_M_23 nl pe bk ro ss lt bo pe)) ((f_X5_leastOf nl pe bc ro ss ((f_X5_digest_50_Ml nl bk ro ss lt bo pe)) 2 0).toInt64)) ((f_X5_leastOf nl pe (f_X5_leastOf_M_9 nl pe bc ro ss ((f_X5_digest_50_Ml nl bk ro ss lt bo pe)) 2) ro ss (f_X5_leastOf_Ml nl pe ro ss ((f_X5_digest_50_Ml nl bk ro ss lt bo pe)) 2) 2 10).toInt64)) ((f_X5_leastOf nl pe (f_X5_leastOf_M_9 nl pe (f_X5_leastOf_M_9 nl pe bc ro ss ((f_X5_digest_50_Ml nl bk ro ss lt bo pe)) 2) ro ss (f_X5_leastOf_Ml nl pe ro ss ((f_X5_digest_50_Ml nl bk ro ss lt bo pe)) 2) 2) ro ss (f_X5_leastOf_Ml nl pe ro ss (f_X5_leastOf_Ml nl pe ro ss ((f_X5_digest_50_Ml nl bk ro ss lt bo pe)) 2) 2) 2 11).toInt64)) ((f_X5_togetherOf nl ro 0).toInt64)) ((f_X5_togetherOf nl ro 1).toInt64)) pl)) (i6 + 1)) = (f_X5_say_M_23 ((f_X5_digest_214_M_23 ofr rd pl nl mi pe bk ro ss ((f_X5_digest_187_M_23 co (f_X5_say_M_23 (f_X5_say_M_23 (f_X5_say_M_23 (f_X5_say_M_23 (f_X5_say_M_23 ((f_X5_digest_50_M_23 nl pe bk ro ss lt bo pe)) ((f_X5_leastOf nl pe bc ro ss ((f_X5_digest_50_Ml nl bk ro ss lt bo pe)) 2 0).toInt64)) ((f_X5_leastOf nl pe (f_X5_leastOf_M_9 nl pe bc ro ss ((f_X5_digest_50_Ml nl bk ro ss lt bo pe)) 2) ro ss (f_X5_leastOf_Ml nl pe ro ss ((f_X5_digest_50_Ml nl bk ro ss lt bo pe)) 2) 2 10).toInt64)) ((f_X5_leastOf nl pe (f_X5_leastOf_M_9 nl pe (f_X5_leastOf_M_9 nl pe bc ro ss ((f_X5_digest_50_Ml nl bk ro ss lt bo pe)) 2) ro ss (f_X5_leastOf_Ml nl pe ro ss ((f_X5_digest_50_Ml nl bk ro ss lt bo pe)) 2) 2) ro ss (f_X5_leastOf_Ml nl pe ro ss (f_X5_leastOf_Ml nl pe ro ss ((f_X5_digest_50_Ml nl bk ro ss lt bo pe)) 2) 2) 2 11).toInt64)) ((f_X5_togetherOf nl ro 0).toInt64)) ((f_X5_togetherOf nl ro 1).toInt64)) pl)) i6)) ((f_X5_countOf ofr rd pl nl mi pe bk ro ss (nI i6)).toInt64)) := (by simp only [f_X5_digest_214_M_23])
                    exact ih214 (i6 + 1) (by omega) _ _ (by rw [e_M_23]; exact hP) (by rw [e_M_23]; exact hD) hS ls (lv_sub hl [1, 0] rfl)
                exact lp214 11 0 (by omega) _ _ hP hD hS ls (lv_sub hl [1, 0] rfl)
              | succ k187 ih187 =>
                intro i5 hk187 H locs hP hD hS ls hl
                refine lv_iload_n hx hb dX5_digest_187 rfl (lv_at hl 1 rfl) ?_
                refine lv_aload_n hx hb dX5_digest_188 rfl (lv_at hl 0 rfl) ?_
                refine va_get (D := D) (ci := 5) (v := .int (nI pl)) (C := RX5) (T := TX5) (N := 24) hx hb hts uX5 hown hK hP 0 rfl rfl 1 (by decide) w5 (fun _ h9 => h9) rfl dX5_digest_189 ?_
                refine lv_icmp_ge (tgt := 212) hx hb dX5_digest_192 (by decide) (fun c => absurd c (nle_f (a := pl) (b := i5) rfl rfl (by omega) (by omega) (by omega))) (fun _ => ?_)
                refine lv_aload_n hx hb dX5_digest_195 rfl (lv_at hl 0 rfl) ?_
                refine lv_aload_n hx hb dX5_digest_196 rfl (lv_at hl 0 rfl) ?_
                refine va_get (D := D) (ci := 5) (v := .ref aMp) (C := RX5) (T := TX5) (N := 24) hx hb hts uX5 hown hK hP 0 rfl rfl 0 (by decide) w6 (fun _ h9 => h9) rfl dX5_digest_197 ?_
                refine lv_iload_n hx hb dX5_digest_200 rfl (lv_at hl 1 rfl) ?_
                refine xald hx hb hK hP 1 rfl i5 rfl (by omega) (by decide) dX5_digest_201 ?_
                refine lv_i2l (v := (co i5).toInt64) hx hb dX5_digest_202 rfl ?_
                refine xV (w2 := [(aM, .inr (5, [.ref aMp, .int (nI pl), .int (nI nl), .int mi, .int ofr, .ref aMr, .int (nI pe), .ref aMs, .ref aMl, .int (f_X5_leastOf_M_9 nl pe (f_X5_leastOf_M_9 nl pe (f_X5_leastOf_M_9 nl pe bc ro ss ((f_X5_digest_50_Ml nl bk ro ss lt bo pe)) 2) ro ss (f_X5_leastOf_Ml nl pe ro ss ((f_X5_digest_50_Ml nl bk ro ss lt bo pe)) 2) 2) ro ss (f_X5_leastOf_Ml nl pe ro ss (f_X5_leastOf_Ml nl pe ro ss ((f_X5_digest_50_Ml nl bk ro ss lt bo pe)) 2) 2) 2), .int rd, .ref aMg, .ref aMb, .int (nI bk), .ref aMo, .int sd, .int ko, .int kpe, .int kmi, .int kbk, .ref aMkr, .ref aMks, .ref aMkb, .long (f_X5_say_M_23 ((f_X5_digest_187_M_23 co (f_X5_say_M_23 (f_X5_say_M_23 (f_X5_say_M_23 (f_X5_say_M_23 (f_X5_say_M_23 ((f_X5_digest_50_M_23 nl pe bk ro ss lt bo pe)) ((f_X5_leastOf nl pe bc ro ss ((f_X5_digest_50_Ml nl bk ro ss lt bo pe)) 2 0).toInt64)) ((f_X5_leastOf nl pe (f_X5_leastOf_M_9 nl pe bc ro ss ((f_X5_digest_50_Ml nl bk ro ss lt bo pe)) 2) ro ss (f_X5_leastOf_Ml nl pe ro ss ((f_X5_digest_50_Ml nl bk ro ss lt bo pe)) 2) 2 10).toInt64)) ((f_X5_leastOf nl pe (f_X5_leastOf_M_9 nl pe (f_X5_leastOf_M_9 nl pe bc ro ss ((f_X5_digest_50_Ml nl bk ro ss lt bo pe)) 2) ro ss (f_X5_leastOf_Ml nl pe ro ss ((f_X5_digest_50_Ml nl bk ro ss lt bo pe)) 2) 2) ro ss (f_X5_leastOf_Ml nl pe ro ss (f_X5_leastOf_Ml nl pe ro ss ((f_X5_digest_50_Ml nl bk ro ss lt bo pe)) 2) 2) 2 11).toInt64)) ((f_X5_togetherOf nl ro 0).toInt64)) ((f_X5_togetherOf nl ro 1).toInt64)) i5)) ((co i5).toInt64))])), (aMp, .inl (cI, 20, .inl co)), (aMr, .inl (cI, 18, .inl ro)), (aMs, .inl (cI, 12, .inl ss)), (aMl, .inl (cI, 6, .inl (f_X5_leastOf_Ml nl pe ro ss (f_X5_leastOf_Ml nl pe ro ss (f_X5_leastOf_Ml nl pe ro ss ((f_X5_digest_50_Ml nl bk ro ss lt bo pe)) 2) 2) 2))), (aMo, .inl (cI, 24, .inl bo))]) ⟨hx, hb, hml, hown, hts⟩ (c_X5_say l D cI aM aMp aMr aMs aMl aMg aMb aMo aMkr aMks aMkb ofr rd pl nl mi pe kmi kpe (f_X5_leastOf_M_9 nl pe (f_X5_leastOf_M_9 nl pe (f_X5_leastOf_M_9 nl pe bc ro ss ((f_X5_digest_50_Ml nl bk ro ss lt bo pe)) 2) ro ss (f_X5_leastOf_Ml nl pe ro ss ((f_X5_digest_50_Ml nl bk ro ss lt bo pe)) 2) 2) ro ss (f_X5_leastOf_Ml nl pe ro ss (f_X5_leastOf_Ml nl pe ro ss ((f_X5_digest_50_Ml nl bk ro ss lt bo pe)) 2) 2) 2) bk sd ko kbk ((f_X5_digest_187_M_23 co (f_X5_say_M_23 (f_X5_say_M_23 (f_X5_say_M_23 (f_X5_say_M_23 (f_X5_say_M_23 ((f_X5_digest_50_M_23 nl pe bk ro ss lt bo pe)) ((f_X5_leastOf nl pe bc ro ss ((f_X5_digest_50_Ml nl bk ro ss lt bo pe)) 2 0).toInt64)) ((f_X5_leastOf nl pe (f_X5_leastOf_M_9 nl pe bc ro ss ((f_X5_digest_50_Ml nl bk ro ss lt bo pe)) 2) ro ss (f_X5_leastOf_Ml nl pe ro ss ((f_X5_digest_50_Ml nl bk ro ss lt bo pe)) 2) 2 10).toInt64)) ((f_X5_leastOf nl pe (f_X5_leastOf_M_9 nl pe (f_X5_leastOf_M_9 nl pe bc ro ss ((f_X5_digest_50_Ml nl bk ro ss lt bo pe)) 2) ro ss (f_X5_leastOf_Ml nl pe ro ss ((f_X5_digest_50_Ml nl bk ro ss lt bo pe)) 2) 2) ro ss (f_X5_leastOf_Ml nl pe ro ss (f_X5_leastOf_Ml nl pe ro ss ((f_X5_digest_50_Ml nl bk ro ss lt bo pe)) 2) 2) 2 11).toInt64)) ((f_X5_togetherOf nl ro 0).toInt64)) ((f_X5_togetherOf nl ro 1).toInt64)) i5)) ((co i5).toInt64)) (cwV 1 hts gX5_digest_X5_say rfl rfl rfl hd_X5_say ⟨Nat.le_of_ble_eq_true rfl, Nat.le_of_ble_eq_true rfl⟩) hK hP hD hS hA [0] [1, 2, 3, 4, 5] [5, 0, 1, 2, 3, 4] rfl rfl rfl rfl rfl (by decide) rfl rfl rfl 0 rfl rfl rfl rfl hl.1 (rest := []) (st' := []) rfl rfl (Nat.le_of_ble_eq_true rfl) dX5_digest_203 ⟨Nat.zero_le _, Nat.zero_le _⟩ (fun H locs hP hD hS => ?_)
                refine lv_iinc (v := nI (i5 + 1)) (lv' := [(1, .int (nI (i5 + 1))), (0, .ref aM)]) hx hb dX5_digest_206 hl (k := 1) rfl (nI_add i5 1) (by decide) rfl (fun ls hl => ?_)
                refine lv_goto (tgt := 187) hx hb dX5_digest_209 (by decide) ?_
                have e_M_23 : (f_X5_digest_187_M_23 co (f_X5_say_M_23 (f_X5_say_M_23 (f_X5_say_M_23 (f_X5_say_M_23 (f_X5_say_M_23 ((f_X5_digest_50_M_23 nl pe bk ro ss lt bo pe)) ((f_X5_leastOf nl pe bc ro ss ((f_X5_digest_50_Ml nl bk ro ss lt bo pe)) 2 0).toInt64)) ((f_X5_leastOf nl pe (f_X5_leastOf_M_9 nl pe bc ro ss ((f_X5_digest_50_Ml nl bk ro ss lt bo pe)) 2) ro ss (f_X5_leastOf_Ml nl pe ro ss ((f_X5_digest_50_Ml nl bk ro ss lt bo pe)) 2) 2 10).toInt64)) ((f_X5_leastOf nl pe (f_X5_leastOf_M_9 nl pe (f_X5_leastOf_M_9 nl pe bc ro ss ((f_X5_digest_50_Ml nl bk ro ss lt bo pe)) 2) ro ss (f_X5_leastOf_Ml nl pe ro ss ((f_X5_digest_50_Ml nl bk ro ss lt bo pe)) 2) 2) ro ss (f_X5_leastOf_Ml nl pe ro ss (f_X5_leastOf_Ml nl pe ro ss ((f_X5_digest_50_Ml nl bk ro ss lt bo pe)) 2) 2) 2 11).toInt64)) ((f_X5_togetherOf nl ro 0).toInt64)) ((f_X5_togetherOf nl ro 1).toInt64)) (i5 + 1)) = (f_X5_say_M_23 ((f_X5_digest_187_M_23 co (f_X5_say_M_23 (f_X5_say_M_23 (f_X5_say_M_23 (f_X5_say_M_23 (f_X5_say_M_23 ((f_X5_digest_50_M_23 nl pe bk ro ss lt bo pe)) ((f_X5_leastOf nl pe bc ro ss ((f_X5_digest_50_Ml nl bk ro ss lt bo pe)) 2 0).toInt64)) ((f_X5_leastOf nl pe (f_X5_leastOf_M_9 nl pe bc ro ss ((f_X5_digest_50_Ml nl bk ro ss lt bo pe)) 2) ro ss (f_X5_leastOf_Ml nl pe ro ss ((f_X5_digest_50_Ml nl bk ro ss lt bo pe)) 2) 2 10).toInt64)) ((f_X5_leastOf nl pe (f_X5_leastOf_M_9 nl pe (f_X5_leastOf_M_9 nl pe bc ro ss ((f_X5_digest_50_Ml nl bk ro ss lt bo pe)) 2) ro ss (f_X5_leastOf_Ml nl pe ro ss ((f_X5_digest_50_Ml nl bk ro ss lt bo pe)) 2) 2) ro ss (f_X5_leastOf_Ml nl pe ro ss (f_X5_leastOf_Ml nl pe ro ss ((f_X5_digest_50_Ml nl bk ro ss lt bo pe)) 2) 2) 2 11).toInt64)) ((f_X5_togetherOf nl ro 0).toInt64)) ((f_X5_togetherOf nl ro 1).toInt64)) i5)) ((co i5).toInt64)) := (by simp only [f_X5_digest_187_M_23])
                exact ih187 (i5 + 1) (by omega) _ _ (by rw [e_M_23]; exact hP) (by rw [e_M_23]; exact hD) hS ls (lv_sub hl [1, 0] rfl)
            exact lp187 pl 0 (by omega) _ _ hP hD hS ls (lv_sub hl [1, 0] rfl)
        | succ k50 ih50 =>
          intro i3 hk50 H locs hP hD hS ls hl
          refine lv_iload_n hx hb dX5_digest_50 rfl (lv_at hl 1 rfl) ?_
          refine lv_aload_n hx hb dX5_digest_51 rfl (lv_at hl 0 rfl) ?_
          refine va_get (D := D) (ci := 5) (v := .int (nI pe)) (C := RX5) (T := TX5) (N := 24) hx hb hts uX5 hown hK hP 0 rfl rfl 6 (by decide) w4 (fun _ h9 => h9) rfl dX5_digest_52 ?_
          refine lv_icmp_ge (tgt := 123) hx hb dX5_digest_55 (by decide) (fun c => absurd c (nle_f (a := pe) (b := i3) rfl rfl (by omega) (by omega) (by omega))) (fun _ => ?_)
          refine lv_iconst (v := 0) hx hb dX5_digest_58 (by decide) ?_
          refine lv_istore_n (lv' := [(2, .int 0), (0, .ref aM), (1, .int (nI i3))]) hx hb dX5_digest_59 rfl hl (by decide) rfl (fun ls hl => ?_)
          have lp60 : ∀ (k60 i4 : Nat), i4 + k60 = 4 → ∀ (H : Heap) (locs : List Loc), va_P D vwCl [(aM, .inr (5, [.ref aMp, .int (nI pl), .int (nI nl), .int mi, .int ofr, .ref aMr, .int (nI pe), .ref aMs, .ref aMl, .int bc, .int rd, .ref aMg, .ref aMb, .int (nI bk), .ref aMo, .int sd, .int ko, .int kpe, .int kmi, .int kbk, .ref aMkr, .ref aMks, .ref aMkb, .long ((f_X5_digest_60_M_23 ro ss i3 (f_X5_digest_50_M_23 nl pe bk ro ss lt bo i3) i4))])), (aMp, .inl (cI, 20, .inl co)), (aMr, .inl (cI, 18, .inl ro)), (aMs, .inl (cI, 12, .inl ss)), (aMl, .inl (cI, 6, .inl ((f_X5_digest_50_Ml nl bk ro ss lt bo i3)))), (aMo, .inl (cI, 24, .inl bo))] H → va_D A [(aM, .inr (5, [.ref aMp, .int (nI pl), .int (nI nl), .int mi, .int ofr, .ref aMr, .int (nI pe), .ref aMs, .ref aMl, .int bc, .int rd, .ref aMg, .ref aMb, .int (nI bk), .ref aMo, .int sd, .int ko, .int kpe, .int kmi, .int kbk, .ref aMkr, .ref aMks, .ref aMkb, .long ((f_X5_digest_60_M_23 ro ss i3 (f_X5_digest_50_M_23 nl pe bk ro ss lt bo i3) i4))])), (aMp, .inl (cI, 20, .inl co)), (aMr, .inl (cI, 18, .inl ro)), (aMs, .inl (cI, 12, .inl ss)), (aMl, .inl (cI, 6, .inl ((f_X5_digest_50_Ml nl bk ro ss lt bo i3)))), (aMo, .inl (cI, 24, .inl bo))] → va_S A s.heap H locs → ∀ ls : Array Slot, lv_has ls 3 [(0, .ref aM), (1, .int (nI i3)), (2, .int (nI i4))] → W p l e rm_X5_digest s m args below meth c H locs 0 0 Q (F0 m 60 ls []) := by
            intro k60
            induction k60 with
            | zero =>
              intro i4 hk60 H locs hP hD hS ls hl
              have hN60 : 4 = i4 := by omega
              subst hN60
              refine lv_iload_n hx hb dX5_digest_60 rfl (lv_at hl 2 rfl) ?_
              refine lv_iconst (v := 4) hx hb dX5_digest_61 (by decide) ?_
              refine lv_icmp_ge (tgt := 82) hx hb dX5_digest_62 (by decide) (fun _ => ?_) (fun c => absurd (nle_t (a := 4) (b := 4) rfl rfl (by omega) (by omega) (by omega)) c)
              refine lv_aload_n hx hb dX5_digest_82 rfl (lv_at hl 0 rfl) ?_
              refine lv_aload_n hx hb dX5_digest_83 rfl (lv_at hl 0 rfl) ?_
              refine lv_iload_n hx hb dX5_digest_84 rfl (lv_at hl 1 rfl) ?_
              refine lv_iconst (v := 4) hx hb dX5_digest_85 (by decide) ?_
              refine lv_iconst (v := 0) hx hb dX5_digest_86 (by decide) ?_
              refine xV (w2 := [(aM, .inr (5, [.ref aMp, .int (nI pl), .int (nI nl), .int mi, .int ofr, .ref aMr, .int (nI pe), .ref aMs, .ref aMl, .int bc, .int rd, .ref aMg, .ref aMb, .int (nI bk), .ref aMo, .int sd, .int ko, .int kpe, .int kmi, .int kbk, .ref aMkr, .ref aMks, .ref aMkb, .long ((f_X5_digest_60_M_23 ro ss i3 (f_X5_digest_50_M_23 nl pe bk ro ss lt bo i3) 4))])), (aMp, .inl (cI, 20, .inl co)), (aMr, .inl (cI, 18, .inl ro)), (aMs, .inl (cI, 12, .inl ss)), (aMl, .inl (cI, 6, .inl (f_X5_wavedOf_Ml nl bk ro ss ((f_X5_digest_50_Ml nl bk ro ss lt bo i3)) bo 4 i3))), (aMo, .inl (cI, 24, .inl bo))]) ⟨hx, hb, hml, hown, hts⟩ (c_X5_wavedOf l D cI aM aMp aMr aMs aMl aMg aMb aMo aMkr aMks aMkb ofr rd pl nl mi pe kmi kpe bc bk sd ko kbk ((f_X5_digest_60_M_23 ro ss i3 (f_X5_digest_50_M_23 nl pe bk ro ss lt bo i3) 4)) ro ss ((f_X5_digest_50_Ml nl bk ro ss lt bo i3)) bo 4 i3 0 hn hpe hbk hbo (by omega) (by decide)) (cwV 3 hts gX5_digest_X5_wavedOf rfl rfl rfl hd_X5_wavedOf ⟨Nat.le_of_ble_eq_true rfl, Nat.le_of_ble_eq_true rfl⟩) hK hP hD hS hA [0, 2, 3, 4, 5] [1] [1, 0, 2, 3, 4, 5] rfl rfl rfl rfl rfl (by decide) rfl rfl rfl 0 rfl rfl rfl rfl hl.1 (rest := [.ref aM]) (st' := [.int (f_X5_wavedOf nl bk ro ss ((f_X5_digest_50_Ml nl bk ro ss lt bo i3)) bo 4 i3 0), .ref aM]) rfl rfl (Nat.le_of_ble_eq_true rfl) dX5_digest_87 ⟨Nat.zero_le _, Nat.zero_le _⟩ (fun H locs hP hD hS => ?_)
              refine lv_i2l (v := (f_X5_wavedOf nl bk ro ss ((f_X5_digest_50_Ml nl bk ro ss lt bo i3)) bo 4 i3 0).toInt64) hx hb dX5_digest_90 rfl ?_
              refine xV (w2 := [(aM, .inr (5, [.ref aMp, .int (nI pl), .int (nI nl), .int mi, .int ofr, .ref aMr, .int (nI pe), .ref aMs, .ref aMl, .int bc, .int rd, .ref aMg, .ref aMb, .int (nI bk), .ref aMo, .int sd, .int ko, .int kpe, .int kmi, .int kbk, .ref aMkr, .ref aMks, .ref aMkb, .long (f_X5_say_M_23 ((f_X5_digest_60_M_23 ro ss i3 (f_X5_digest_50_M_23 nl pe bk ro ss lt bo i3) 4)) ((f_X5_wavedOf nl bk ro ss ((f_X5_digest_50_Ml nl bk ro ss lt bo i3)) bo 4 i3 0).toInt64))])), (aMp, .inl (cI, 20, .inl co)), (aMr, .inl (cI, 18, .inl ro)), (aMs, .inl (cI, 12, .inl ss)), (aMl, .inl (cI, 6, .inl (f_X5_wavedOf_Ml nl bk ro ss ((f_X5_digest_50_Ml nl bk ro ss lt bo i3)) bo 4 i3))), (aMo, .inl (cI, 24, .inl bo))]) ⟨hx, hb, hml, hown, hts⟩ (c_X5_say l D cI aM aMp aMr aMs aMl aMg aMb aMo aMkr aMks aMkb ofr rd pl nl mi pe kmi kpe bc bk sd ko kbk ((f_X5_digest_60_M_23 ro ss i3 (f_X5_digest_50_M_23 nl pe bk ro ss lt bo i3) 4)) ((f_X5_wavedOf nl bk ro ss ((f_X5_digest_50_Ml nl bk ro ss lt bo i3)) bo 4 i3 0).toInt64)) (cwV 1 hts gX5_digest_X5_say rfl rfl rfl hd_X5_say ⟨Nat.le_of_ble_eq_true rfl, Nat.le_of_ble_eq_true rfl⟩) hK hP hD hS hA [0] [1, 2, 3, 4, 5] [5, 0, 1, 2, 3, 4] rfl rfl rfl rfl rfl (by decide) rfl rfl rfl 0 rfl rfl rfl rfl hl.1 (rest := []) (st' := []) rfl rfl (Nat.le_of_ble_eq_true rfl) dX5_digest_91 ⟨Nat.zero_le _, Nat.zero_le _⟩ (fun H locs hP hD hS => ?_)
              refine lv_aload_n hx hb dX5_digest_94 rfl (lv_at hl 0 rfl) ?_
              refine lv_aload_n hx hb dX5_digest_95 rfl (lv_at hl 0 rfl) ?_
              refine lv_iload_n hx hb dX5_digest_96 rfl (lv_at hl 1 rfl) ?_
              refine lv_iconst (v := 4) hx hb dX5_digest_97 (by decide) ?_
              refine lv_iconst (v := 1) hx hb dX5_digest_98 (by decide) ?_
              refine xV (w2 := [(aM, .inr (5, [.ref aMp, .int (nI pl), .int (nI nl), .int mi, .int ofr, .ref aMr, .int (nI pe), .ref aMs, .ref aMl, .int bc, .int rd, .ref aMg, .ref aMb, .int (nI bk), .ref aMo, .int sd, .int ko, .int kpe, .int kmi, .int kbk, .ref aMkr, .ref aMks, .ref aMkb, .long (f_X5_say_M_23 ((f_X5_digest_60_M_23 ro ss i3 (f_X5_digest_50_M_23 nl pe bk ro ss lt bo i3) 4)) ((f_X5_wavedOf nl bk ro ss ((f_X5_digest_50_Ml nl bk ro ss lt bo i3)) bo 4 i3 0).toInt64))])), (aMp, .inl (cI, 20, .inl co)), (aMr, .inl (cI, 18, .inl ro)), (aMs, .inl (cI, 12, .inl ss)), (aMl, .inl (cI, 6, .inl (f_X5_wavedOf_Ml nl bk ro ss (f_X5_wavedOf_Ml nl bk ro ss ((f_X5_digest_50_Ml nl bk ro ss lt bo i3)) bo 4 i3) bo 4 i3))), (aMo, .inl (cI, 24, .inl bo))]) ⟨hx, hb, hml, hown, hts⟩ (c_X5_wavedOf l D cI aM aMp aMr aMs aMl aMg aMb aMo aMkr aMks aMkb ofr rd pl nl mi pe kmi kpe bc bk sd ko kbk (f_X5_say_M_23 ((f_X5_digest_60_M_23 ro ss i3 (f_X5_digest_50_M_23 nl pe bk ro ss lt bo i3) 4)) ((f_X5_wavedOf nl bk ro ss ((f_X5_digest_50_Ml nl bk ro ss lt bo i3)) bo 4 i3 0).toInt64)) ro ss (f_X5_wavedOf_Ml nl bk ro ss ((f_X5_digest_50_Ml nl bk ro ss lt bo i3)) bo 4 i3) bo 4 i3 1 hn hpe hbk hbo (by omega) (by decide)) (cwV 3 hts gX5_digest_X5_wavedOf rfl rfl rfl hd_X5_wavedOf ⟨Nat.le_of_ble_eq_true rfl, Nat.le_of_ble_eq_true rfl⟩) hK hP hD hS hA [0, 2, 3, 4, 5] [1] [1, 0, 2, 3, 4, 5] rfl rfl rfl rfl rfl (by decide) rfl rfl rfl 0 rfl rfl rfl rfl hl.1 (rest := [.ref aM]) (st' := [.int (f_X5_wavedOf nl bk ro ss (f_X5_wavedOf_Ml nl bk ro ss ((f_X5_digest_50_Ml nl bk ro ss lt bo i3)) bo 4 i3) bo 4 i3 1), .ref aM]) rfl rfl (Nat.le_of_ble_eq_true rfl) dX5_digest_99 ⟨Nat.zero_le _, Nat.zero_le _⟩ (fun H locs hP hD hS => ?_)
              refine lv_i2l (v := (f_X5_wavedOf nl bk ro ss (f_X5_wavedOf_Ml nl bk ro ss ((f_X5_digest_50_Ml nl bk ro ss lt bo i3)) bo 4 i3) bo 4 i3 1).toInt64) hx hb dX5_digest_102 rfl ?_
              refine xV (w2 := [(aM, .inr (5, [.ref aMp, .int (nI pl), .int (nI nl), .int mi, .int ofr, .ref aMr, .int (nI pe), .ref aMs, .ref aMl, .int bc, .int rd, .ref aMg, .ref aMb, .int (nI bk), .ref aMo, .int sd, .int ko, .int kpe, .int kmi, .int kbk, .ref aMkr, .ref aMks, .ref aMkb, .long (f_X5_say_M_23 (f_X5_say_M_23 ((f_X5_digest_60_M_23 ro ss i3 (f_X5_digest_50_M_23 nl pe bk ro ss lt bo i3) 4)) ((f_X5_wavedOf nl bk ro ss ((f_X5_digest_50_Ml nl bk ro ss lt bo i3)) bo 4 i3 0).toInt64)) ((f_X5_wavedOf nl bk ro ss (f_X5_wavedOf_Ml nl bk ro ss ((f_X5_digest_50_Ml nl bk ro ss lt bo i3)) bo 4 i3) bo 4 i3 1).toInt64))])), (aMp, .inl (cI, 20, .inl co)), (aMr, .inl (cI, 18, .inl ro)), (aMs, .inl (cI, 12, .inl ss)), (aMl, .inl (cI, 6, .inl (f_X5_wavedOf_Ml nl bk ro ss (f_X5_wavedOf_Ml nl bk ro ss ((f_X5_digest_50_Ml nl bk ro ss lt bo i3)) bo 4 i3) bo 4 i3))), (aMo, .inl (cI, 24, .inl bo))]) ⟨hx, hb, hml, hown, hts⟩ (c_X5_say l D cI aM aMp aMr aMs aMl aMg aMb aMo aMkr aMks aMkb ofr rd pl nl mi pe kmi kpe bc bk sd ko kbk (f_X5_say_M_23 ((f_X5_digest_60_M_23 ro ss i3 (f_X5_digest_50_M_23 nl pe bk ro ss lt bo i3) 4)) ((f_X5_wavedOf nl bk ro ss ((f_X5_digest_50_Ml nl bk ro ss lt bo i3)) bo 4 i3 0).toInt64)) ((f_X5_wavedOf nl bk ro ss (f_X5_wavedOf_Ml nl bk ro ss ((f_X5_digest_50_Ml nl bk ro ss lt bo i3)) bo 4 i3) bo 4 i3 1).toInt64)) (cwV 1 hts gX5_digest_X5_say rfl rfl rfl hd_X5_say ⟨Nat.le_of_ble_eq_true rfl, Nat.le_of_ble_eq_true rfl⟩) hK hP hD hS hA [0] [1, 2, 3, 4, 5] [5, 0, 1, 2, 3, 4] rfl rfl rfl rfl rfl (by decide) rfl rfl rfl 0 rfl rfl rfl rfl hl.1 (rest := []) (st' := []) rfl rfl (Nat.le_of_ble_eq_true rfl) dX5_digest_103 ⟨Nat.zero_le _, Nat.zero_le _⟩ (fun H locs hP hD hS => ?_)
              refine lv_aload_n hx hb dX5_digest_106 rfl (lv_at hl 0 rfl) ?_
              refine lv_aload_n hx hb dX5_digest_107 rfl (lv_at hl 0 rfl) ?_
              refine lv_iload_n hx hb dX5_digest_108 rfl (lv_at hl 1 rfl) ?_
              refine lv_iconst (v := 3) hx hb dX5_digest_109 (by decide) ?_
              refine xV (w2 := [(aM, .inr (5, [.ref aMp, .int (nI pl), .int (nI nl), .int mi, .int ofr, .ref aMr, .int (nI pe), .ref aMs, .ref aMl, .int bc, .int rd, .ref aMg, .ref aMb, .int (nI bk), .ref aMo, .int sd, .int ko, .int kpe, .int kmi, .int kbk, .ref aMkr, .ref aMks, .ref aMkb, .long (f_X5_say_M_23 (f_X5_say_M_23 ((f_X5_digest_60_M_23 ro ss i3 (f_X5_digest_50_M_23 nl pe bk ro ss lt bo i3) 4)) ((f_X5_wavedOf nl bk ro ss ((f_X5_digest_50_Ml nl bk ro ss lt bo i3)) bo 4 i3 0).toInt64)) ((f_X5_wavedOf nl bk ro ss (f_X5_wavedOf_Ml nl bk ro ss ((f_X5_digest_50_Ml nl bk ro ss lt bo i3)) bo 4 i3) bo 4 i3 1).toInt64))])), (aMp, .inl (cI, 20, .inl co)), (aMr, .inl (cI, 18, .inl ro)), (aMs, .inl (cI, 12, .inl ss)), (aMl, .inl (cI, 6, .inl (f_X5_lookOf_Ml nl ro ss (f_X5_wavedOf_Ml nl bk ro ss (f_X5_wavedOf_Ml nl bk ro ss ((f_X5_digest_50_Ml nl bk ro ss lt bo i3)) bo 4 i3) bo 4 i3) 3 i3))), (aMo, .inl (cI, 24, .inl bo))]) ⟨hx, hb, hml, hown, hts⟩ (c_X5_lookOf l D cI aM aMp aMr aMs aMl aMg aMb aMo aMkr aMks aMkb ofr rd pl nl mi pe kmi kpe bc bk sd ko kbk (f_X5_say_M_23 (f_X5_say_M_23 ((f_X5_digest_60_M_23 ro ss i3 (f_X5_digest_50_M_23 nl pe bk ro ss lt bo i3) 4)) ((f_X5_wavedOf nl bk ro ss ((f_X5_digest_50_Ml nl bk ro ss lt bo i3)) bo 4 i3 0).toInt64)) ((f_X5_wavedOf nl bk ro ss (f_X5_wavedOf_Ml nl bk ro ss ((f_X5_digest_50_Ml nl bk ro ss lt bo i3)) bo 4 i3) bo 4 i3 1).toInt64)) ro ss (f_X5_wavedOf_Ml nl bk ro ss (f_X5_wavedOf_Ml nl bk ro ss ((f_X5_digest_50_Ml nl bk ro ss lt bo i3)) bo 4 i3) bo 4 i3) bo 3 i3 hn hpe hbk hbo (by omega) (by decide)) (cwV 2 hts gX5_digest_X5_lookOf rfl rfl rfl hd_X5_lookOf ⟨Nat.le_of_ble_eq_true rfl, Nat.le_of_ble_eq_true rfl⟩) hK hP hD hS hA [0, 2, 3, 4, 5] [1] [1, 0, 2, 3, 4, 5] rfl rfl rfl rfl rfl (by decide) rfl rfl rfl 0 rfl rfl rfl rfl hl.1 (rest := [.ref aM]) (st' := [.int (f_X5_lookOf nl bk ro ss (f_X5_wavedOf_Ml nl bk ro ss (f_X5_wavedOf_Ml nl bk ro ss ((f_X5_digest_50_Ml nl bk ro ss lt bo i3)) bo 4 i3) bo 4 i3) bo 3 i3), .ref aM]) rfl rfl (Nat.le_of_ble_eq_true rfl) dX5_digest_110 ⟨Nat.zero_le _, Nat.zero_le _⟩ (fun H locs hP hD hS => ?_)
              refine lv_i2l (v := (f_X5_lookOf nl bk ro ss (f_X5_wavedOf_Ml nl bk ro ss (f_X5_wavedOf_Ml nl bk ro ss ((f_X5_digest_50_Ml nl bk ro ss lt bo i3)) bo 4 i3) bo 4 i3) bo 3 i3).toInt64) hx hb dX5_digest_113 rfl ?_
              refine xV (w2 := [(aM, .inr (5, [.ref aMp, .int (nI pl), .int (nI nl), .int mi, .int ofr, .ref aMr, .int (nI pe), .ref aMs, .ref aMl, .int bc, .int rd, .ref aMg, .ref aMb, .int (nI bk), .ref aMo, .int sd, .int ko, .int kpe, .int kmi, .int kbk, .ref aMkr, .ref aMks, .ref aMkb, .long (f_X5_say_M_23 (f_X5_say_M_23 (f_X5_say_M_23 ((f_X5_digest_60_M_23 ro ss i3 (f_X5_digest_50_M_23 nl pe bk ro ss lt bo i3) 4)) ((f_X5_wavedOf nl bk ro ss ((f_X5_digest_50_Ml nl bk ro ss lt bo i3)) bo 4 i3 0).toInt64)) ((f_X5_wavedOf nl bk ro ss (f_X5_wavedOf_Ml nl bk ro ss ((f_X5_digest_50_Ml nl bk ro ss lt bo i3)) bo 4 i3) bo 4 i3 1).toInt64)) ((f_X5_lookOf nl bk ro ss (f_X5_wavedOf_Ml nl bk ro ss (f_X5_wavedOf_Ml nl bk ro ss ((f_X5_digest_50_Ml nl bk ro ss lt bo i3)) bo 4 i3) bo 4 i3) bo 3 i3).toInt64))])), (aMp, .inl (cI, 20, .inl co)), (aMr, .inl (cI, 18, .inl ro)), (aMs, .inl (cI, 12, .inl ss)), (aMl, .inl (cI, 6, .inl (f_X5_lookOf_Ml nl ro ss (f_X5_wavedOf_Ml nl bk ro ss (f_X5_wavedOf_Ml nl bk ro ss ((f_X5_digest_50_Ml nl bk ro ss lt bo i3)) bo 4 i3) bo 4 i3) 3 i3))), (aMo, .inl (cI, 24, .inl bo))]) ⟨hx, hb, hml, hown, hts⟩ (c_X5_say l D cI aM aMp aMr aMs aMl aMg aMb aMo aMkr aMks aMkb ofr rd pl nl mi pe kmi kpe bc bk sd ko kbk (f_X5_say_M_23 (f_X5_say_M_23 ((f_X5_digest_60_M_23 ro ss i3 (f_X5_digest_50_M_23 nl pe bk ro ss lt bo i3) 4)) ((f_X5_wavedOf nl bk ro ss ((f_X5_digest_50_Ml nl bk ro ss lt bo i3)) bo 4 i3 0).toInt64)) ((f_X5_wavedOf nl bk ro ss (f_X5_wavedOf_Ml nl bk ro ss ((f_X5_digest_50_Ml nl bk ro ss lt bo i3)) bo 4 i3) bo 4 i3 1).toInt64)) ((f_X5_lookOf nl bk ro ss (f_X5_wavedOf_Ml nl bk ro ss (f_X5_wavedOf_Ml nl bk ro ss ((f_X5_digest_50_Ml nl bk ro ss lt bo i3)) bo 4 i3) bo 4 i3) bo 3 i3).toInt64)) (cwV 1 hts gX5_digest_X5_say rfl rfl rfl hd_X5_say ⟨Nat.le_of_ble_eq_true rfl, Nat.le_of_ble_eq_true rfl⟩) hK hP hD hS hA [0] [1, 2, 3, 4, 5] [5, 0, 1, 2, 3, 4] rfl rfl rfl rfl rfl (by decide) rfl rfl rfl 0 rfl rfl rfl rfl hl.1 (rest := []) (st' := []) rfl rfl (Nat.le_of_ble_eq_true rfl) dX5_digest_114 ⟨Nat.zero_le _, Nat.zero_le _⟩ (fun H locs hP hD hS => ?_)
              refine lv_iinc (v := nI (i3 + 1)) (lv' := [(1, .int (nI (i3 + 1))), (0, .ref aM), (2, .int (nI 4))]) hx hb dX5_digest_117 hl (k := 1) rfl (nI_add i3 1) (by decide) rfl (fun ls hl => ?_)
              refine lv_goto (tgt := 50) hx hb dX5_digest_120 (by decide) ?_
              have e_M_23 : (f_X5_digest_50_M_23 nl pe bk ro ss lt bo (i3 + 1)) = (f_X5_say_M_23 (f_X5_say_M_23 (f_X5_say_M_23 ((f_X5_digest_60_M_23 ro ss i3 (f_X5_digest_50_M_23 nl pe bk ro ss lt bo i3) 4)) ((f_X5_wavedOf nl bk ro ss ((f_X5_digest_50_Ml nl bk ro ss lt bo i3)) bo 4 i3 0).toInt64)) ((f_X5_wavedOf nl bk ro ss (f_X5_wavedOf_Ml nl bk ro ss ((f_X5_digest_50_Ml nl bk ro ss lt bo i3)) bo 4 i3) bo 4 i3 1).toInt64)) ((f_X5_lookOf nl bk ro ss (f_X5_wavedOf_Ml nl bk ro ss (f_X5_wavedOf_Ml nl bk ro ss ((f_X5_digest_50_Ml nl bk ro ss lt bo i3)) bo 4 i3) bo 4 i3) bo 3 i3).toInt64)) := (by simp only [f_X5_digest_50_M_23])
              have e_Ml : (f_X5_digest_50_Ml nl bk ro ss lt bo (i3 + 1)) = (f_X5_lookOf_Ml nl ro ss (f_X5_wavedOf_Ml nl bk ro ss (f_X5_wavedOf_Ml nl bk ro ss ((f_X5_digest_50_Ml nl bk ro ss lt bo i3)) bo 4 i3) bo 4 i3) 3 i3) := (by simp only [f_X5_digest_50_Ml])
              exact ih50 (i3 + 1) (by omega) _ _ (by rw [e_M_23, e_Ml]; exact hP) (by rw [e_M_23, e_Ml]; exact hD) hS ls (lv_sub hl [1, 0] rfl)
            | succ k60 ih60 =>
              intro i4 hk60 H locs hP hD hS ls hl
              refine lv_iload_n hx hb dX5_digest_60 rfl (lv_at hl 2 rfl) ?_
              refine lv_iconst (v := 4) hx hb dX5_digest_61 (by decide) ?_
              refine lv_icmp_ge (tgt := 82) hx hb dX5_digest_62 (by decide) (fun c => absurd c (nle_f (a := 4) (b := i4) rfl rfl (by omega) (by omega) (by omega))) (fun _ => ?_)
              refine lv_aload_n hx hb dX5_digest_65 rfl (lv_at hl 0 rfl) ?_
              refine lv_aload_n hx hb dX5_digest_66 rfl (lv_at hl 0 rfl) ?_
              refine lv_iload_n hx hb dX5_digest_67 rfl (lv_at hl 1 rfl) ?_
              refine lv_iload_n hx hb dX5_digest_68 rfl (lv_at hl 2 rfl) ?_
              refine rV ⟨hx, hb, hml, hown, hts⟩ (c_X5_tell l D cI aM aMp aMr aMs aMl aMg aMb aMo aMkr aMks aMkb ofr rd pl nl mi pe kmi kpe bc bk sd ko kbk ((f_X5_digest_60_M_23 ro ss i3 (f_X5_digest_50_M_23 nl pe bk ro ss lt bo i3) i4)) ro ss i3 (nI i4) hpe (by omega) hss) (cwV 2 hts gX5_digest_X5_tell rfl rfl rfl hd_X5_tell ⟨Nat.le_of_ble_eq_true rfl, Nat.le_of_ble_eq_true rfl⟩) hK (hP.sub [0, 2, 3] rfl) 0 rfl rfl rfl rfl hl.1 (rest := [.ref aM]) (st' := [.int (f_X5_tell ro ss i3 (nI i4)), .ref aM]) rfl rfl (Nat.le_of_ble_eq_true rfl) dX5_digest_69 ⟨Nat.zero_le _, Nat.zero_le _⟩ ?_
              refine lv_i2l (v := (f_X5_tell ro ss i3 (nI i4)).toInt64) hx hb dX5_digest_72 rfl ?_
              refine xV (w2 := [(aM, .inr (5, [.ref aMp, .int (nI pl), .int (nI nl), .int mi, .int ofr, .ref aMr, .int (nI pe), .ref aMs, .ref aMl, .int bc, .int rd, .ref aMg, .ref aMb, .int (nI bk), .ref aMo, .int sd, .int ko, .int kpe, .int kmi, .int kbk, .ref aMkr, .ref aMks, .ref aMkb, .long (f_X5_say_M_23 ((f_X5_digest_60_M_23 ro ss i3 (f_X5_digest_50_M_23 nl pe bk ro ss lt bo i3) i4)) ((f_X5_tell ro ss i3 (nI i4)).toInt64))])), (aMp, .inl (cI, 20, .inl co)), (aMr, .inl (cI, 18, .inl ro)), (aMs, .inl (cI, 12, .inl ss)), (aMl, .inl (cI, 6, .inl ((f_X5_digest_50_Ml nl bk ro ss lt bo i3)))), (aMo, .inl (cI, 24, .inl bo))]) ⟨hx, hb, hml, hown, hts⟩ (c_X5_say l D cI aM aMp aMr aMs aMl aMg aMb aMo aMkr aMks aMkb ofr rd pl nl mi pe kmi kpe bc bk sd ko kbk ((f_X5_digest_60_M_23 ro ss i3 (f_X5_digest_50_M_23 nl pe bk ro ss lt bo i3) i4)) ((f_X5_tell ro ss i3 (nI i4)).toInt64)) (cwV 1 hts gX5_digest_X5_say rfl rfl rfl hd_X5_say ⟨Nat.le_of_ble_eq_true rfl, Nat.le_of_ble_eq_true rfl⟩) hK hP hD hS hA [0] [1, 2, 3, 4, 5] [5, 0, 1, 2, 3, 4] rfl rfl rfl rfl rfl (by decide) rfl rfl rfl 0 rfl rfl rfl rfl hl.1 (rest := []) (st' := []) rfl rfl (Nat.le_of_ble_eq_true rfl) dX5_digest_73 ⟨Nat.zero_le _, Nat.zero_le _⟩ (fun H locs hP hD hS => ?_)
              refine lv_iinc (v := nI (i4 + 1)) (lv' := [(2, .int (nI (i4 + 1))), (0, .ref aM), (1, .int (nI i3))]) hx hb dX5_digest_76 hl (k := 2) rfl (nI_add i4 1) (by decide) rfl (fun ls hl => ?_)
              refine lv_goto (tgt := 60) hx hb dX5_digest_79 (by decide) ?_
              have e_M_23 : (f_X5_digest_60_M_23 ro ss i3 (f_X5_digest_50_M_23 nl pe bk ro ss lt bo i3) (i4 + 1)) = (f_X5_say_M_23 ((f_X5_digest_60_M_23 ro ss i3 (f_X5_digest_50_M_23 nl pe bk ro ss lt bo i3) i4)) ((f_X5_tell ro ss i3 (nI i4)).toInt64)) := (by simp only [f_X5_digest_60_M_23])
              exact ih60 (i4 + 1) (by omega) _ _ (by rw [e_M_23]; exact hP) (by rw [e_M_23]; exact hD) hS ls (lv_sub hl [1, 2, 0] rfl)
          exact lp60 4 0 (by omega) _ _ hP hD hS ls (lv_sub hl [1, 2, 0] rfl)
      exact lp50 pe 0 (by omega) _ _ hP hD hS ls (lv_sub hl [1, 0] rfl)
    | succ k9 ih9 =>
      intro i1 hk9 H locs hP hD hS ls hl
      refine lv_iload_n hx hb dX5_digest_9 rfl (lv_at hl 1 rfl) ?_
      refine lv_aload_n hx hb dX5_digest_10 rfl (lv_at hl 0 rfl) ?_
      refine va_get (D := D) (ci := 5) (v := .int (nI nl)) (C := RX5) (T := TX5) (N := 24) hx hb hts uX5 hown hK hP 0 rfl rfl 2 (by decide) w3 (fun _ h9 => h9) rfl dX5_digest_11 ?_
      refine lv_icmp_ge (tgt := 48) hx hb dX5_digest_14 (by decide) (fun c => absurd c (nle_f (a := nl) (b := i1) rfl rfl (by omega) (by omega) (by omega))) (fun _ => ?_)
      refine lv_iconst (v := 0) hx hb dX5_digest_17 (by decide) ?_
      refine lv_istore_n (lv' := [(2, .int 0), (0, .ref aM), (1, .int (nI i1))]) hx hb dX5_digest_18 rfl hl (by decide) rfl (fun ls hl => ?_)
      have lp19 : ∀ (k19 i2 : Nat), i2 + k19 = 6 → ∀ (H : Heap) (locs : List Loc), va_P D vwCl [(aM, .inr (5, [.ref aMp, .int (nI pl), .int (nI nl), .int mi, .int ofr, .ref aMr, .int (nI pe), .ref aMs, .ref aMl, .int bc, .int rd, .ref aMg, .ref aMb, .int (nI bk), .ref aMo, .int sd, .int ko, .int kpe, .int kmi, .int kbk, .ref aMkr, .ref aMks, .ref aMkb, .long ((f_X5_digest_19_M_23 nl pe ro ss i1 (f_X5_digest_9_M_23 nl pe ro ss i1) i2))])), (aMp, .inl (cI, 20, .inl co)), (aMr, .inl (cI, 18, .inl ro)), (aMs, .inl (cI, 12, .inl ss)), (aMl, .inl (cI, 6, .inl lt)), (aMo, .inl (cI, 24, .inl bo))] H → va_D A [(aM, .inr (5, [.ref aMp, .int (nI pl), .int (nI nl), .int mi, .int ofr, .ref aMr, .int (nI pe), .ref aMs, .ref aMl, .int bc, .int rd, .ref aMg, .ref aMb, .int (nI bk), .ref aMo, .int sd, .int ko, .int kpe, .int kmi, .int kbk, .ref aMkr, .ref aMks, .ref aMkb, .long ((f_X5_digest_19_M_23 nl pe ro ss i1 (f_X5_digest_9_M_23 nl pe ro ss i1) i2))])), (aMp, .inl (cI, 20, .inl co)), (aMr, .inl (cI, 18, .inl ro)), (aMs, .inl (cI, 12, .inl ss)), (aMl, .inl (cI, 6, .inl lt)), (aMo, .inl (cI, 24, .inl bo))] → va_S A s.heap H locs → ∀ ls : Array Slot, lv_has ls 3 [(0, .ref aM), (1, .int (nI i1)), (2, .int (nI i2))] → W p l e rm_X5_digest s m args below meth c H locs 0 0 Q (F0 m 19 ls []) := by
        intro k19
        induction k19 with
        | zero =>
          intro i2 hk19 H locs hP hD hS ls hl
          have hN19 : 6 = i2 := by omega
          subst hN19
          refine lv_iload_n hx hb dX5_digest_19 rfl (lv_at hl 2 rfl) ?_
          refine lv_bipush (v := 6) hx hb dX5_digest_20 (by decide) ?_
          refine lv_icmp_ge (tgt := 42) hx hb dX5_digest_22 (by decide) (fun _ => ?_) (fun c => absurd (nle_t (a := 6) (b := 6) rfl rfl (by omega) (by omega) (by omega)) c)
          refine lv_iinc (v := nI (i1 + 1)) (lv' := [(1, .int (nI (i1 + 1))), (0, .ref aM), (2, .int (nI 6))]) hx hb dX5_digest_42 hl (k := 1) rfl (nI_add i1 1) (by decide) rfl (fun ls hl => ?_)
          refine lv_goto (tgt := 9) hx hb dX5_digest_45 (by decide) ?_
          have e_M_23 : (f_X5_digest_9_M_23 nl pe ro ss (i1 + 1)) = (f_X5_digest_19_M_23 nl pe ro ss i1 (f_X5_digest_9_M_23 nl pe ro ss i1) 6) := (by simp only [f_X5_digest_9_M_23])
          exact ih9 (i1 + 1) (by omega) _ _ (by rw [e_M_23]; exact hP) (by rw [e_M_23]; exact hD) hS ls (lv_sub hl [1, 0] rfl)
        | succ k19 ih19 =>
          intro i2 hk19 H locs hP hD hS ls hl
          refine lv_iload_n hx hb dX5_digest_19 rfl (lv_at hl 2 rfl) ?_
          refine lv_bipush (v := 6) hx hb dX5_digest_20 (by decide) ?_
          refine lv_icmp_ge (tgt := 42) hx hb dX5_digest_22 (by decide) (fun c => absurd c (nle_f (a := 6) (b := i2) rfl rfl (by omega) (by omega) (by omega))) (fun _ => ?_)
          refine lv_aload_n hx hb dX5_digest_25 rfl (lv_at hl 0 rfl) ?_
          refine lv_aload_n hx hb dX5_digest_26 rfl (lv_at hl 0 rfl) ?_
          refine lv_iload_n hx hb dX5_digest_27 rfl (lv_at hl 1 rfl) ?_
          refine lv_iload_n hx hb dX5_digest_28 rfl (lv_at hl 2 rfl) ?_
          refine rV ⟨hx, hb, hml, hown, hts⟩ (c_X5_tellLamp l D cI aM aMp aMr aMs aMl aMg aMb aMo aMkr aMks aMkb ofr rd pl nl mi pe kmi kpe bc bk sd ko kbk ((f_X5_digest_19_M_23 nl pe ro ss i1 (f_X5_digest_9_M_23 nl pe ro ss i1) i2)) ro ss i1 (nI i2) hn hpe (by omega)) (cwV 2 hts gX5_digest_X5_tellLamp rfl rfl rfl hd_X5_tellLamp ⟨Nat.le_of_ble_eq_true rfl, Nat.le_of_ble_eq_true rfl⟩) hK (hP.sub [0, 2, 3] rfl) 0 rfl rfl rfl rfl hl.1 (rest := [.ref aM]) (st' := [.int (f_X5_tellLamp nl pe ro ss i1 (nI i2)), .ref aM]) rfl rfl (Nat.le_of_ble_eq_true rfl) dX5_digest_29 ⟨Nat.zero_le _, Nat.zero_le _⟩ ?_
          refine lv_i2l (v := (f_X5_tellLamp nl pe ro ss i1 (nI i2)).toInt64) hx hb dX5_digest_32 rfl ?_
          refine xV (w2 := [(aM, .inr (5, [.ref aMp, .int (nI pl), .int (nI nl), .int mi, .int ofr, .ref aMr, .int (nI pe), .ref aMs, .ref aMl, .int bc, .int rd, .ref aMg, .ref aMb, .int (nI bk), .ref aMo, .int sd, .int ko, .int kpe, .int kmi, .int kbk, .ref aMkr, .ref aMks, .ref aMkb, .long (f_X5_say_M_23 ((f_X5_digest_19_M_23 nl pe ro ss i1 (f_X5_digest_9_M_23 nl pe ro ss i1) i2)) ((f_X5_tellLamp nl pe ro ss i1 (nI i2)).toInt64))])), (aMp, .inl (cI, 20, .inl co)), (aMr, .inl (cI, 18, .inl ro)), (aMs, .inl (cI, 12, .inl ss)), (aMl, .inl (cI, 6, .inl lt)), (aMo, .inl (cI, 24, .inl bo))]) ⟨hx, hb, hml, hown, hts⟩ (c_X5_say l D cI aM aMp aMr aMs aMl aMg aMb aMo aMkr aMks aMkb ofr rd pl nl mi pe kmi kpe bc bk sd ko kbk ((f_X5_digest_19_M_23 nl pe ro ss i1 (f_X5_digest_9_M_23 nl pe ro ss i1) i2)) ((f_X5_tellLamp nl pe ro ss i1 (nI i2)).toInt64)) (cwV 1 hts gX5_digest_X5_say rfl rfl rfl hd_X5_say ⟨Nat.le_of_ble_eq_true rfl, Nat.le_of_ble_eq_true rfl⟩) hK hP hD hS hA [0] [1, 2, 3, 4, 5] [5, 0, 1, 2, 3, 4] rfl rfl rfl rfl rfl (by decide) rfl rfl rfl 0 rfl rfl rfl rfl hl.1 (rest := []) (st' := []) rfl rfl (Nat.le_of_ble_eq_true rfl) dX5_digest_33 ⟨Nat.zero_le _, Nat.zero_le _⟩ (fun H locs hP hD hS => ?_)
          refine lv_iinc (v := nI (i2 + 1)) (lv' := [(2, .int (nI (i2 + 1))), (0, .ref aM), (1, .int (nI i1))]) hx hb dX5_digest_36 hl (k := 2) rfl (nI_add i2 1) (by decide) rfl (fun ls hl => ?_)
          refine lv_goto (tgt := 19) hx hb dX5_digest_39 (by decide) ?_
          have e_M_23 : (f_X5_digest_19_M_23 nl pe ro ss i1 (f_X5_digest_9_M_23 nl pe ro ss i1) (i2 + 1)) = (f_X5_say_M_23 ((f_X5_digest_19_M_23 nl pe ro ss i1 (f_X5_digest_9_M_23 nl pe ro ss i1) i2)) ((f_X5_tellLamp nl pe ro ss i1 (nI i2)).toInt64)) := (by simp only [f_X5_digest_19_M_23])
          exact ih19 (i2 + 1) (by omega) _ _ (by rw [e_M_23]; exact hP) (by rw [e_M_23]; exact hD) hS ls (lv_sub hl [1, 2, 0] rfl)
      exact lp19 6 0 (by omega) _ _ hP hD hS ls (lv_sub hl [1, 2, 0] rfl)
  exact lp9 nl 0 (by omega) _ _ hP hD hS ls (lv_sub hl [1, 0] rfl)
