def f_X4_keepsLit_26_r (nl : Nat) (ho : Nat → Int32) (sn : Nat → Int32) (pe : Nat) (sc : Nat → Int32) (lit : Int32) (mu : Nat) (rN : Nat → Int32 → Int32 → (Nat → Int32) → (Nat → Int32)) (rr : Nat → Int32 → Int32 → (Nat → Int32) → Int32) (waves : Int32) : Nat → Nat → (Nat → Int32) → Int32
  | 0, _, _ => 0
  | k26 + 1, i1, x26_N => (if nI (2 ^ pe) ≤ nI i1 then 0 else (if 0 ≤ (waves - (f_J6_bitCount_0f7a4 (nI i1))) then (if (f_X0_inDark pe sc (f_X1_litOnes nl (f_X1_after nl ho sn lit (f_X0_stirred pe sc (nI i1))))) = 0 then (if (rr (mu + 1) (f_X1_after nl ho sn lit (f_X0_stirred pe sc (nI i1))) (waves - (f_J6_bitCount_0f7a4 (nI i1))) x26_N) = 0 then (f_X4_keepsLit_26_r nl ho sn pe sc lit mu rN rr waves k26 (i1 + 1) (rN (mu + 1) (f_X1_after nl ho sn lit (f_X0_stirred pe sc (nI i1))) (waves - (f_J6_bitCount_0f7a4 (nI i1))) x26_N)) else 1) else (f_X4_keepsLit_26_r nl ho sn pe sc lit mu rN rr waves k26 (i1 + 1) x26_N)) else (f_X4_keepsLit_26_r nl ho sn pe sc lit mu rN rr waves k26 (i1 + 1) x26_N)))
def f_X4_keepsLit_26_N (nl : Nat) (ho : Nat → Int32) (sn : Nat → Int32) (pe : Nat) (sc : Nat → Int32) (lit : Int32) (mu : Nat) (rN : Nat → Int32 → Int32 → (Nat → Int32) → (Nat → Int32)) (rr : Nat → Int32 → Int32 → (Nat → Int32) → Int32) (waves : Int32) : Nat → Nat → (Nat → Int32) → (Nat → Int32)
  | 0, _, _ => (fun _ => 0)
  | k26 + 1, i1, x26_N => (if nI (2 ^ pe) ≤ nI i1 then x26_N else (if 0 ≤ (waves - (f_J6_bitCount_0f7a4 (nI i1))) then (if (f_X0_inDark pe sc (f_X1_litOnes nl (f_X1_after nl ho sn lit (f_X0_stirred pe sc (nI i1))))) = 0 then (if (rr (mu + 1) (f_X1_after nl ho sn lit (f_X0_stirred pe sc (nI i1))) (waves - (f_J6_bitCount_0f7a4 (nI i1))) x26_N) = 0 then (f_X4_keepsLit_26_N nl ho sn pe sc lit mu rN rr waves k26 (i1 + 1) (rN (mu + 1) (f_X1_after nl ho sn lit (f_X0_stirred pe sc (nI i1))) (waves - (f_J6_bitCount_0f7a4 (nI i1))) x26_N)) else (upd (rN (mu + 1) (f_X1_after nl ho sn lit (f_X0_stirred pe sc (nI i1))) (waves - (f_J6_bitCount_0f7a4 (nI i1))) x26_N) mu (nI i1))) else (f_X4_keepsLit_26_N nl ho sn pe sc lit mu rN rr waves k26 (i1 + 1) x26_N)) else (f_X4_keepsLit_26_N nl ho sn pe sc lit mu rN rr waves k26 (i1 + 1) x26_N)))
def f_X4_keepsLit (nl : Nat) (ho : Nat → Int32) (sn : Nat → Int32) (pe : Nat) (sc : Nat → Int32) (pn : Nat → Int32) (lit : Int32) (mm : Nat) (mu : Nat) (rN : Nat → Int32 → Int32 → (Nat → Int32) → (Nat → Int32)) (rr : Nat → Int32 → Int32 → (Nat → Int32) → Int32) (waves : Int32) : Int32 := (if nI mm ≤ nI mu then 1 else (f_X4_keepsLit_26_r nl ho sn pe sc lit mu rN rr waves (2 ^ pe + 1) 0 pn))
def f_X4_keepsLit_N (nl : Nat) (ho : Nat → Int32) (sn : Nat → Int32) (pe : Nat) (sc : Nat → Int32) (pn : Nat → Int32) (lit : Int32) (mm : Nat) (mu : Nat) (rN : Nat → Int32 → Int32 → (Nat → Int32) → (Nat → Int32)) (rr : Nat → Int32 → Int32 → (Nat → Int32) → Int32) (waves : Int32) : Nat → Int32 := (if nI mm ≤ nI mu then pn else (f_X4_keepsLit_26_N nl ho sn pe sc lit mu rN rr waves (2 ^ pe + 1) 0 pn))
theorem hd_X4_keepsLit : yX4_keepsLit.cls ≠ "java/lang/invoke/MethodHandle" ∧ yX4_keepsLit.cls ≠ "java/lang/invoke/VarHandle" ∧ (parseMethodDescriptor yX4_keepsLit.desc).map (fun d => d.parameters.length) = some 7 := by decide +kernel
set_option maxHeartbeats 4000000 in
set_option maxRecDepth 100000 in
theorem c1_X4_keepsLit (l : Launch) (D : va_G) (cI : ClassId) (aL aLk aLh aLs aE aEs aEw aEd aEl aEt aN : Nat) (nl : Nat) (ho : Nat → Int32) (sn : Nat → Int32) (li : Int32) (mi : Int32) (pe : Nat) (to : Int32) (sc : Nat → Int32) (pn : Nat → Int32) (fr : Nat) (lit : Int32) (lo : Nat) (mm : Nat) (mu : Nat) (rN : Nat → Int32 → Int32 → (Nat → Int32) → (Nat → Int32)) (rr : Nat → Int32 → Int32 → (Nat → Int32) → Int32) (waves : Int32) (hn : nl ≤ 6) (hpe : pe ≤ 4) (hm3 : mm ≤ 3) (hmu : mu ≤ mm) (hrec : mu < mm → ∀ (lit waves : Int32) (pn : Nat → Int32), MetX l yX4_keepsLit wsX4_keepsLit { frames := fr, cells := 0, slots := 0, locals := lo } D cI [.ref aL, .ref aE, .ref aN, .int (nI mm), .int (nI (mu + 1)), .int lit, .int waves] [(aL, .inr (1, [.ref aLk, .ref aLh, .ref aLs, .int (nI nl)])), (aLh, .inl (cI, 6, .inl ho)), (aLs, .inl (cI, 6, .inl sn)), (aE, .inr (0, [.int li, .int mi, .int (nI pe), .ref aEs, .ref aEw, .ref aEd, .int to, .ref aEl, .ref aEt])), (aEs, .inl (cI, 4, .inl sc)), (aN, .inl (cI, 3, .inl pn))] (some (.int (rr (mu + 1) lit waves pn))) [(aL, .inr (1, [.ref aLk, .ref aLh, .ref aLs, .int (nI nl)])), (aLh, .inl (cI, 6, .inl ho)), (aLs, .inl (cI, 6, .inl sn)), (aE, .inr (0, [.int li, .int mi, .int (nI pe), .ref aEs, .ref aEw, .ref aEd, .int to, .ref aEl, .ref aEt])), (aEs, .inl (cI, 4, .inl sc)), (aN, .inl (cI, 3, .inl (rN (mu + 1) lit waves pn)))]) : MetX l yX4_keepsLit wsX4_keepsLit { frames := fr + 2, cells := 0, slots := 0, locals := lo + 46 } D cI [.ref aL, .ref aE, .ref aN, .int (nI mm), .int (nI mu), .int lit, .int waves] [(aL, .inr (1, [.ref aLk, .ref aLh, .ref aLs, .int (nI nl)])), (aLh, .inl (cI, 6, .inl ho)), (aLs, .inl (cI, 6, .inl sn)), (aE, .inr (0, [.int li, .int mi, .int (nI pe), .ref aEs, .ref aEw, .ref aEd, .int to, .ref aEl, .ref aEt])), (aEs, .inl (cI, 4, .inl sc)), (aN, .inl (cI, 3, .inl pn))] (some (.int (f_X4_keepsLit nl ho sn pe sc pn lit mm mu rN rr waves))) [(aL, .inr (1, [.ref aLk, .ref aLh, .ref aLs, .int (nI nl)])), (aLh, .inl (cI, 6, .inl ho)), (aLs, .inl (cI, 6, .inl sn)), (aE, .inr (0, [.int li, .int mi, .int (nI pe), .ref aEs, .ref aEw, .ref aEd, .int to, .ref aEl, .ref aEt])), (aEs, .inl (cI, 4, .inl sc)), (aN, .inl (cI, 3, .inl (f_X4_keepsLit_N nl ho sn pe sc pn lit mm mu rN rr waves)))] := by
  refine mX (cc := cX4_keepsLit) (maxL := 11) (ret := (some .boolean)) (by decide) rfl (Nat.le_of_ble_eq_true rfl) ?_
  intro p e s m args below meth c Q A hx hb hr hml hown hts hlk hP hK hD hA hS hQ ls hl
  have hown : s.vm.findClass RX4 = some m.cls := hown
  have hl : lv_has ls 11 [(0, .ref aL), (1, .ref aE), (2, .ref aN), (3, .int (nI mm)), (4, .int (nI mu)), (5, .int lit), (6, .int waves)] := hl
  have w1 := hts (.fieldLink RX4 125 "DarkOffice$Evening" "people" "I") (List.mem_of_getElem? (i := 1) rfl)
  have uX0 : ∀ w ∈ wsX00, w ∈ wsX4_keepsLit := fun _ h => List.mem_cons_of_mem _ (List.mem_append_left _ (List.mem_append_right _ h))
  refine lv_iload hx hb dX4_keepsLit_0 (lv_at hl 4 rfl) ?_
  refine lv_iload_n hx hb dX4_keepsLit_2 rfl (lv_at hl 3 rfl) ?_
  refine lv_icmp_ge (tgt := 13) hx hb dX4_keepsLit_3 (by decide) (fun c1 => ?_) (fun c1 => ?_)
  · have q1 : mm ≤ mu := nle_d (a := mm) (b := mu) rfl rfl (by omega) (by omega) c1
    refine lv_iconst (v := 1) hx hb dX4_keepsLit_13 (by decide) ?_
    have e_N : (f_X4_keepsLit_N nl ho sn pe sc pn lit mm mu rN rr waves) = pn := (by simp only [f_X4_keepsLit_N, if_pos c1])
    exact eXz hx hb hr hlk hQ (by rw [e_N]; exact hP) (by rw [e_N]; exact hD) hS dX4_keepsLit_14 rfl (Eq.symm (by simp only [f_X4_keepsLit, if_pos c1]))
  · have q1 : mu < mm := nle_e (a := mm) (b := mu) rfl rfl (by omega) (by omega) c1
    refine lv_iload hx hb dX4_keepsLit_6 (lv_at hl 4 rfl) ?_
    refine lv_aload_n hx hb dX4_keepsLit_8 rfl (lv_at hl 2 rfl) ?_
    refine va_alen (v := 3) hx hb hK hP 5 0 rfl rfl rfl dX4_keepsLit_9 ?_
    refine lv_icmp_lt (tgt := 15) hx hb dX4_keepsLit_10 (by decide) (fun _ => ?_) (fun c => absurd (nlt_t (a := mu) (b := 3) rfl rfl (by omega) (by omega) (by omega)) c)
    refine lv_iconst (v := 1) hx hb dX4_keepsLit_15 (by decide) ?_
    refine lv_aload_n hx hb dX4_keepsLit_16 rfl (lv_at hl 1 rfl) ?_
    refine va_get (D := D) (ci := 0) (v := .int (nI pe)) (C := RX0) (T := TX0) (N := 9) hx hb hts uX0 hown hK hP 3 rfl rfl 2 (by decide) w1 (fun _ h9 => h9) rfl dX4_keepsLit_17 ?_
    refine lv_ishl hx hb dX4_keepsLit_20 ?_
    refine tpi (y := nI (2 ^ pe)) (one_shl pe (by omega)) ?_
    refine lv_istore (lv' := [(7, .int (nI (2 ^ pe))), (0, .ref aL), (1, .ref aE), (2, .ref aN), (3, .int (nI mm)), (4, .int (nI mu)), (5, .int lit), (6, .int waves)]) hx hb dX4_keepsLit_21 hl (by decide) rfl (fun ls hl => ?_)
    have hse := pw_se hpe
    refine lv_iconst (v := 0) hx hb dX4_keepsLit_23 (by decide) ?_
    refine lv_istore (lv' := [(8, .int 0), (7, .int (nI (2 ^ pe))), (0, .ref aL), (1, .ref aE), (2, .ref aN), (3, .int (nI mm)), (4, .int (nI mu)), (5, .int lit), (6, .int waves)]) hx hb dX4_keepsLit_24 hl (by decide) rfl (fun ls hl => ?_)
    have lp26 : ∀ (k26 : Nat) (i1 : Nat) (x26_N : Nat → Int32), i1 ≤ 2 ^ pe ∧ 2 ^ pe < i1 + k26 → ((f_X4_keepsLit nl ho sn pe sc pn lit mm mu rN rr waves) = (f_X4_keepsLit_26_r nl ho sn pe sc lit mu rN rr waves k26 i1 x26_N)) → ((f_X4_keepsLit_N nl ho sn pe sc pn lit mm mu rN rr waves) = (f_X4_keepsLit_26_N nl ho sn pe sc lit mu rN rr waves k26 i1 x26_N)) → ∀ (H : Heap) (locs : List Loc), va_P D vwCl [(aL, .inr (1, [.ref aLk, .ref aLh, .ref aLs, .int (nI nl)])), (aLh, .inl (cI, 6, .inl ho)), (aLs, .inl (cI, 6, .inl sn)), (aE, .inr (0, [.int li, .int mi, .int (nI pe), .ref aEs, .ref aEw, .ref aEd, .int to, .ref aEl, .ref aEt])), (aEs, .inl (cI, 4, .inl sc)), (aN, .inl (cI, 3, .inl x26_N))] H → va_D A [(aL, .inr (1, [.ref aLk, .ref aLh, .ref aLs, .int (nI nl)])), (aLh, .inl (cI, 6, .inl ho)), (aLs, .inl (cI, 6, .inl sn)), (aE, .inr (0, [.int li, .int mi, .int (nI pe), .ref aEs, .ref aEw, .ref aEd, .int to, .ref aEl, .ref aEt])), (aEs, .inl (cI, 4, .inl sc)), (aN, .inl (cI, 3, .inl x26_N))] → va_S A s.heap H locs → ∀ ls : Array Slot, lv_has ls 11 [(0, .ref aL), (1, .ref aE), (2, .ref aN), (3, .int (nI mm)), (4, .int (nI mu)), (5, .int lit), (6, .int waves), (7, .int (nI (2 ^ pe))), (8, .int (nI i1))] → W p l e { frames := fr + 2, cells := 0, slots := 0, locals := lo + 46 } s m args below meth c H locs 0 0 Q (F0 m 26 ls []) := by
      intro k26
      induction k26 with
      | zero =>
        intro i1 x26_N hh26 h26_r h26_N H locs hP hD hS ls hl
        exact absurd hh26 (by omega)
      | succ k26 ih26 =>
        intro i1 x26_N hh26 h26_r h26_N H locs hP hD hS ls hl
        refine lv_iload hx hb dX4_keepsLit_26 (lv_at hl 8 rfl) ?_
        refine lv_iload hx hb dX4_keepsLit_28 (lv_at hl 7 rfl) ?_
        refine lv_icmp_ge (tgt := 110) hx hb dX4_keepsLit_30 (by decide) (fun c2 => ?_) (fun c2 => ?_)
        · have q2 : 2 ^ pe ≤ i1 := nle_d (a := 2 ^ pe) (b := i1) rfl rfl (by omega) (by omega) c2
          refine lv_iconst (v := 0) hx hb dX4_keepsLit_110 (by decide) ?_
          have e_N : (f_X4_keepsLit_N nl ho sn pe sc pn lit mm mu rN rr waves) = x26_N := (h26_N.trans (by simp only [f_X4_keepsLit_26_N, if_pos c2]))
          exact eXz hx hb hr hlk hQ (by rw [e_N]; exact hP) (by rw [e_N]; exact hD) hS dX4_keepsLit_111 rfl (Eq.symm (h26_r.trans (by simp only [f_X4_keepsLit_26_r, if_pos c2])))
        · have q2 : i1 < 2 ^ pe := nle_e (a := 2 ^ pe) (b := i1) rfl rfl (by omega) (by omega) c2
          refine lv_iload hx hb dX4_keepsLit_33 (lv_at hl 6 rfl) ?_
          refine lv_iload hx hb dX4_keepsLit_35 (lv_at hl 8 rfl) ?_
          refine rS ⟨hx, hb, hml, hown, hts⟩ (c_J6_bitCount_0f7a4 l D cI (nI i1)) (va_cwS 1 hts gX4_keepsLit_J6_bitCount_0f7a4 rfl rfl rfl hd_J6_bitCount_0f7a4 ⟨Nat.le_trans (Nat.le_of_ble_eq_true rfl : rm_J6_bitCount_0f7a4.frames + 1 ≤ 2) (Nat.le_add_left _ _), Nat.le_trans (Nat.le_of_ble_eq_true rfl : 8 + (1 + 11) + rm_J6_bitCount_0f7a4.locals ≤ 46) (Nat.le_add_left _ _)⟩) hK (hP.sub [] rfl) rfl hl.1 (rest := [.int waves]) (st' := [.int (f_J6_bitCount_0f7a4 (nI i1)), .int waves]) rfl rfl (Nat.le_of_ble_eq_true rfl) dX4_keepsLit_37 ⟨Nat.zero_le _, Nat.zero_le _⟩ ?_
          refine lv_isub hx hb dX4_keepsLit_40 ?_
          refine lv_istore (lv' := [(9, .int (waves - (f_J6_bitCount_0f7a4 (nI i1)))), (0, .ref aL), (1, .ref aE), (2, .ref aN), (3, .int (nI mm)), (4, .int (nI mu)), (5, .int lit), (6, .int waves), (7, .int (nI (2 ^ pe))), (8, .int (nI i1))]) hx hb dX4_keepsLit_41 hl (by decide) rfl (fun ls hl => ?_)
          refine lv_iload hx hb dX4_keepsLit_43 (lv_at hl 0 rfl) ?_
          refine lv_if_ge (tgt := 51) hx hb dX4_keepsLit_45 (by decide) (fun c3 => ?_) (fun c3 => ?_)
          · refine lv_aload_n hx hb dX4_keepsLit_51 rfl (lv_at hl 1 rfl) ?_
            refine lv_iload hx hb dX4_keepsLit_52 (lv_at hl 6 rfl) ?_
            refine lv_aload_n hx hb dX4_keepsLit_54 rfl (lv_at hl 2 rfl) ?_
            refine lv_iload hx hb dX4_keepsLit_55 (lv_at hl 9 rfl) ?_
            refine rV ⟨hx, hb, hml, hown, hts⟩ (c_X0_stirred l D cI aE aEs aEw aEd aEl aEt li mi pe to sc (nI i1) hpe) (cwV 1 hts gX4_keepsLit_X0_stirred rfl rfl rfl hd_X0_stirred ⟨Nat.le_trans (Nat.le_of_ble_eq_true rfl : rm_X0_stirred.frames + 1 ≤ 2) (Nat.le_add_left _ _), Nat.le_trans (Nat.le_of_ble_eq_true rfl : 8 + (4 + 11) + rm_X0_stirred.locals ≤ 46) (Nat.le_add_left _ _)⟩) hK (hP.sub [3, 4] rfl) 0 rfl rfl rfl rfl hl.1 (rest := [.int lit, .ref aL]) (st' := [.int (f_X0_stirred pe sc (nI i1)), .int lit, .ref aL]) rfl rfl (Nat.le_of_ble_eq_true rfl) dX4_keepsLit_57 ⟨Nat.zero_le _, Nat.zero_le _⟩ ?_
            refine rV ⟨hx, hb, hml, hown, hts⟩ (c_X1_after l D cI aL aLk aLh aLs nl ho sn lit (f_X0_stirred pe sc (nI i1)) hn) (cwV 2 hts gX4_keepsLit_X1_after rfl rfl rfl hd_X1_after ⟨Nat.le_trans (Nat.le_of_ble_eq_true rfl : rm_X1_after.frames + 1 ≤ 2) (Nat.le_add_left _ _), Nat.le_trans (Nat.le_of_ble_eq_true rfl : 8 + (6 + 11) + rm_X1_after.locals ≤ 46) (Nat.le_add_left _ _)⟩) hK (hP.sub [0, 1, 2] rfl) 0 rfl rfl rfl rfl hl.1 (rest := []) (st' := [.int (f_X1_after nl ho sn lit (f_X0_stirred pe sc (nI i1)))]) rfl rfl (Nat.le_of_ble_eq_true rfl) dX4_keepsLit_60 ⟨Nat.zero_le _, Nat.zero_le _⟩ ?_
            refine lv_istore (lv' := [(10, .int (f_X1_after nl ho sn lit (f_X0_stirred pe sc (nI i1)))), (9, .int (waves - (f_J6_bitCount_0f7a4 (nI i1)))), (0, .ref aL), (1, .ref aE), (2, .ref aN), (3, .int (nI mm)), (4, .int (nI mu)), (5, .int lit), (6, .int waves), (7, .int (nI (2 ^ pe))), (8, .int (nI i1))]) hx hb dX4_keepsLit_63 hl (by decide) rfl (fun ls hl => ?_)
            refine lv_aload_n hx hb dX4_keepsLit_65 rfl (lv_at hl 3 rfl) ?_
            refine lv_aload_n hx hb dX4_keepsLit_66 rfl (lv_at hl 2 rfl) ?_
            refine lv_iload hx hb dX4_keepsLit_67 (lv_at hl 0 rfl) ?_
            refine rV ⟨hx, hb, hml, hown, hts⟩ (c_X1_litOnes l D cI aL aLk aLh aLs nl (f_X1_after nl ho sn lit (f_X0_stirred pe sc (nI i1))) hn) (cwV 1 hts gX4_keepsLit_X1_litOnes rfl rfl rfl hd_X1_litOnes ⟨Nat.le_trans (Nat.le_of_ble_eq_true rfl : rm_X1_litOnes.frames + 1 ≤ 2) (Nat.le_add_left _ _), Nat.le_trans (Nat.le_of_ble_eq_true rfl : 8 + (4 + 11) + rm_X1_litOnes.locals ≤ 46) (Nat.le_add_left _ _)⟩) hK (hP.sub [0] rfl) 0 rfl rfl rfl rfl hl.1 (rest := [.ref aE]) (st' := [.int (f_X1_litOnes nl (f_X1_after nl ho sn lit (f_X0_stirred pe sc (nI i1)))), .ref aE]) rfl rfl (Nat.le_of_ble_eq_true rfl) dX4_keepsLit_69 ⟨Nat.zero_le _, Nat.zero_le _⟩ ?_
            refine rV ⟨hx, hb, hml, hown, hts⟩ (c_X0_inDark l D cI aE aEs aEw aEd aEl aEt li mi pe to sc (f_X1_litOnes nl (f_X1_after nl ho sn lit (f_X0_stirred pe sc (nI i1)))) hpe) (cwV 1 hts gX4_keepsLit_X0_inDark rfl rfl rfl hd_X0_inDark ⟨Nat.le_trans (Nat.le_of_ble_eq_true rfl : rm_X0_inDark.frames + 1 ≤ 2) (Nat.le_add_left _ _), Nat.le_trans (Nat.le_of_ble_eq_true rfl : 8 + (4 + 11) + rm_X0_inDark.locals ≤ 46) (Nat.le_add_left _ _)⟩) hK (hP.sub [3, 4] rfl) 0 rfl rfl rfl rfl hl.1 (rest := []) (st' := [.int (f_X0_inDark pe sc (f_X1_litOnes nl (f_X1_after nl ho sn lit (f_X0_stirred pe sc (nI i1)))))]) rfl rfl (Nat.le_of_ble_eq_true rfl) dX4_keepsLit_72 ⟨Nat.zero_le _, Nat.zero_le _⟩ ?_
            refine lv_if_ne (tgt := 104) hx hb dX4_keepsLit_75 (by decide) (fun c4 => ?_) (fun c4 => ?_)
            · refine lv_iinc (v := nI (i1 + 1)) (lv' := [(8, .int (nI (i1 + 1))), (10, .int (f_X1_after nl ho sn lit (f_X0_stirred pe sc (nI i1)))), (9, .int (waves - (f_J6_bitCount_0f7a4 (nI i1)))), (0, .ref aL), (1, .ref aE), (2, .ref aN), (3, .int (nI mm)), (4, .int (nI mu)), (5, .int lit), (6, .int waves), (7, .int (nI (2 ^ pe)))]) hx hb dX4_keepsLit_104 hl (k := 10) rfl (nI_add i1 1) (by decide) rfl (fun ls hl => ?_)
              refine lv_goto (tgt := 26) hx hb dX4_keepsLit_107 (by decide) ?_
              exact ih26 (i1 + 1) x26_N (by omega) (h26_r.trans (by simp only [f_X4_keepsLit_26_r, if_neg c2, if_pos c3, if_neg c4])) (h26_N.trans (by simp only [f_X4_keepsLit_26_N, if_neg c2, if_pos c3, if_neg c4])) _ _ (hP) (hD) hS ls (lv_sub hl [3, 4, 5, 6, 7, 8, 9, 10, 0] rfl)
            · refine lv_aload_n hx hb dX4_keepsLit_78 rfl (lv_at hl 2 rfl) ?_
              refine lv_aload_n hx hb dX4_keepsLit_79 rfl (lv_at hl 3 rfl) ?_
              refine lv_aload_n hx hb dX4_keepsLit_80 rfl (lv_at hl 4 rfl) ?_
              refine lv_iload_n hx hb dX4_keepsLit_81 rfl (lv_at hl 5 rfl) ?_
              refine lv_iload hx hb dX4_keepsLit_82 (lv_at hl 6 rfl) ?_
              refine lv_iconst (v := 1) hx hb dX4_keepsLit_84 (by decide) ?_
              refine lv_iadd hx hb dX4_keepsLit_85 ?_
              refine tpi (y := nI (mu + 1)) (nI_1 mu) ?_
              refine lv_iload hx hb dX4_keepsLit_86 (lv_at hl 0 rfl) ?_
              refine lv_iload hx hb dX4_keepsLit_88 (lv_at hl 1 rfl) ?_
              refine xS (w2 := [(aL, .inr (1, [.ref aLk, .ref aLh, .ref aLs, .int (nI nl)])), (aLh, .inl (cI, 6, .inl ho)), (aLs, .inl (cI, 6, .inl sn)), (aE, .inr (0, [.int li, .int mi, .int (nI pe), .ref aEs, .ref aEw, .ref aEd, .int to, .ref aEl, .ref aEt])), (aEs, .inl (cI, 4, .inl sc)), (aN, .inl (cI, 3, .inl (rN (mu + 1) (f_X1_after nl ho sn lit (f_X0_stirred pe sc (nI i1))) (waves - (f_J6_bitCount_0f7a4 (nI i1))) x26_N)))]) ⟨hx, hb, hml, hown, hts⟩ (hrec (by omega) (f_X1_after nl ho sn lit (f_X0_stirred pe sc (nI i1))) (waves - (f_J6_bitCount_0f7a4 (nI i1))) x26_N) (va_cwS 7 hts gX4_keepsLit_X4_keepsLit rfl rfl rfl hd_X4_keepsLit ⟨Nat.le_succ (fr + 1), (by show 8 + (11 + 11) + lo ≤ lo + 46; omega)⟩) hK hP hD hS hA [0, 1, 2, 3, 4, 5] [] [0, 1, 2, 3, 4, 5] rfl rfl rfl rfl rfl (by decide) rfl rfl rfl rfl hl.1 (rest := []) (st' := [.int (rr (mu + 1) (f_X1_after nl ho sn lit (f_X0_stirred pe sc (nI i1))) (waves - (f_J6_bitCount_0f7a4 (nI i1))) x26_N)]) rfl rfl (Nat.le_of_ble_eq_true rfl) dX4_keepsLit_90 ⟨Nat.zero_le _, Nat.zero_le _⟩ (fun H locs hP hD hS => ?_)
              refine lv_if_eq (tgt := 104) hx hb dX4_keepsLit_93 (by decide) (fun c5 => ?_) (fun c5 => ?_)
              · refine lv_iinc (v := nI (i1 + 1)) (lv' := [(8, .int (nI (i1 + 1))), (10, .int (f_X1_after nl ho sn lit (f_X0_stirred pe sc (nI i1)))), (9, .int (waves - (f_J6_bitCount_0f7a4 (nI i1)))), (0, .ref aL), (1, .ref aE), (2, .ref aN), (3, .int (nI mm)), (4, .int (nI mu)), (5, .int lit), (6, .int waves), (7, .int (nI (2 ^ pe)))]) hx hb dX4_keepsLit_104 hl (k := 10) rfl (nI_add i1 1) (by decide) rfl (fun ls hl => ?_)
                refine lv_goto (tgt := 26) hx hb dX4_keepsLit_107 (by decide) ?_
                exact ih26 (i1 + 1) (rN (mu + 1) (f_X1_after nl ho sn lit (f_X0_stirred pe sc (nI i1))) (waves - (f_J6_bitCount_0f7a4 (nI i1))) x26_N) (by omega) (h26_r.trans (by simp only [f_X4_keepsLit_26_r, if_neg c2, if_pos c3, if_pos c4, if_pos c5])) (h26_N.trans (by simp only [f_X4_keepsLit_26_N, if_neg c2, if_pos c3, if_pos c4, if_pos c5])) _ _ (hP) (hD) hS ls (lv_sub hl [3, 4, 5, 6, 7, 8, 9, 10, 0] rfl)
              · refine lv_aload_n hx hb dX4_keepsLit_96 rfl (lv_at hl 4 rfl) ?_
                refine lv_iload hx hb dX4_keepsLit_97 (lv_at hl 6 rfl) ?_
                refine lv_iload hx hb dX4_keepsLit_99 (lv_at hl 10 rfl) ?_
                refine xast hx hb hK hP hD hS 5 rfl mu rfl (by omega) (by decide) dX4_keepsLit_101 (fun H locs hP hD hS => ?_)
                have hP : va_P D vwCl [(aL, .inr (1, [.ref aLk, .ref aLh, .ref aLs, .int (nI nl)])), (aLh, .inl (cI, 6, .inl ho)), (aLs, .inl (cI, 6, .inl sn)), (aE, .inr (0, [.int li, .int mi, .int (nI pe), .ref aEs, .ref aEw, .ref aEd, .int to, .ref aEl, .ref aEt])), (aEs, .inl (cI, 4, .inl sc)), (aN, .inl (cI, 3, .inl (upd (rN (mu + 1) (f_X1_after nl ho sn lit (f_X0_stirred pe sc (nI i1))) (waves - (f_J6_bitCount_0f7a4 (nI i1))) x26_N) mu (nI i1))))] H := hP
                have hD : va_D A [(aL, .inr (1, [.ref aLk, .ref aLh, .ref aLs, .int (nI nl)])), (aLh, .inl (cI, 6, .inl ho)), (aLs, .inl (cI, 6, .inl sn)), (aE, .inr (0, [.int li, .int mi, .int (nI pe), .ref aEs, .ref aEw, .ref aEd, .int to, .ref aEl, .ref aEt])), (aEs, .inl (cI, 4, .inl sc)), (aN, .inl (cI, 3, .inl (upd (rN (mu + 1) (f_X1_after nl ho sn lit (f_X0_stirred pe sc (nI i1))) (waves - (f_J6_bitCount_0f7a4 (nI i1))) x26_N) mu (nI i1))))] := hD
                refine lv_iconst (v := 1) hx hb dX4_keepsLit_102 (by decide) ?_
                have e_N : (f_X4_keepsLit_N nl ho sn pe sc pn lit mm mu rN rr waves) = (upd (rN (mu + 1) (f_X1_after nl ho sn lit (f_X0_stirred pe sc (nI i1))) (waves - (f_J6_bitCount_0f7a4 (nI i1))) x26_N) mu (nI i1)) := (h26_N.trans (by simp only [f_X4_keepsLit_26_N, if_neg c2, if_pos c3, if_pos c4, if_neg c5]))
                exact eXz hx hb hr hlk hQ (by rw [e_N]; exact hP) (by rw [e_N]; exact hD) hS dX4_keepsLit_103 rfl (Eq.symm (h26_r.trans (by simp only [f_X4_keepsLit_26_r, if_neg c2, if_pos c3, if_pos c4, if_neg c5])))
          · refine lv_goto (tgt := 104) hx hb dX4_keepsLit_48 (by decide) ?_
            refine lv_iinc (v := nI (i1 + 1)) (lv' := [(8, .int (nI (i1 + 1))), (9, .int (waves - (f_J6_bitCount_0f7a4 (nI i1)))), (0, .ref aL), (1, .ref aE), (2, .ref aN), (3, .int (nI mm)), (4, .int (nI mu)), (5, .int lit), (6, .int waves), (7, .int (nI (2 ^ pe)))]) hx hb dX4_keepsLit_104 hl (k := 9) rfl (nI_add i1 1) (by decide) rfl (fun ls hl => ?_)
            refine lv_goto (tgt := 26) hx hb dX4_keepsLit_107 (by decide) ?_
            exact ih26 (i1 + 1) x26_N (by omega) (h26_r.trans (by simp only [f_X4_keepsLit_26_r, if_neg c2, if_neg c3])) (h26_N.trans (by simp only [f_X4_keepsLit_26_N, if_neg c2, if_neg c3])) _ _ (hP) (hD) hS ls (lv_sub hl [2, 3, 4, 5, 6, 7, 8, 9, 0] rfl)
    exact lp26 (2 ^ pe + 1) 0 pn ⟨Nat.zero_le _, by rw [Nat.zero_add]; exact Nat.lt_succ_self _⟩ (by simp only [f_X4_keepsLit, if_neg c1]) (by simp only [f_X4_keepsLit_N, if_neg c1]) _ _ hP hD hS ls (lv_sub hl [2, 3, 4, 5, 6, 7, 8, 1, 0] rfl)

def g_kl (nl : Nat) (ho : Nat → Int32) (sn : Nat → Int32) (pe : Nat) (sc : Nat → Int32) (mm : Nat) : Nat → Nat → Int32 → Int32 → (Nat → Int32) → Int32 × (Nat → Int32)
  | 0, mu, lit, waves, pn => ((f_X4_keepsLit nl ho sn pe sc pn lit mm mu (fun _ _ _ _ => fun _ => 0) (fun _ _ _ _ => 0) waves), (f_X4_keepsLit_N nl ho sn pe sc pn lit mm mu (fun _ _ _ _ => fun _ => 0) (fun _ _ _ _ => 0) waves))
  | d + 1, mu, lit, waves, pn => ((f_X4_keepsLit nl ho sn pe sc pn lit mm mu (fun mu lit waves pn => (g_kl nl ho sn pe sc mm d mu lit waves pn).2) (fun mu lit waves pn => (g_kl nl ho sn pe sc mm d mu lit waves pn).1) waves), (f_X4_keepsLit_N nl ho sn pe sc pn lit mm mu (fun mu lit waves pn => (g_kl nl ho sn pe sc mm d mu lit waves pn).2) (fun mu lit waves pn => (g_kl nl ho sn pe sc mm d mu lit waves pn).1) waves))

set_option maxHeartbeats 4000000 in
theorem c_X4_keepsLit (l : Launch) (D : va_G) (cI : ClassId) (aL aLk aLh aLs aE aEs aEw aEd aEl aEt aN : Nat) (nl : Nat) (ho : Nat → Int32) (sn : Nat → Int32) (li : Int32) (mi : Int32) (pe : Nat) (to : Int32) (sc : Nat → Int32) (mm : Nat) (hn : nl ≤ 6) (hpe : pe ≤ 4) (hm3 : mm ≤ 3) : ∀ (dd : Nat) (mu : Nat) (lit : Int32) (waves : Int32) (pn : Nat → Int32), mu ≤ mm ∧ mm ≤ mu + dd → MetX l yX4_keepsLit wsX4_keepsLit { frames := 2 * dd + 2, cells := 0, slots := 0, locals := 46 * dd + 46 } D cI [.ref aL, .ref aE, .ref aN, .int (nI mm), .int (nI mu), .int lit, .int waves] [(aL, .inr (1, [.ref aLk, .ref aLh, .ref aLs, .int (nI nl)])), (aLh, .inl (cI, 6, .inl ho)), (aLs, .inl (cI, 6, .inl sn)), (aE, .inr (0, [.int li, .int mi, .int (nI pe), .ref aEs, .ref aEw, .ref aEd, .int to, .ref aEl, .ref aEt])), (aEs, .inl (cI, 4, .inl sc)), (aN, .inl (cI, 3, .inl pn))] (some (.int (g_kl nl ho sn pe sc mm dd mu lit waves pn).1)) [(aL, .inr (1, [.ref aLk, .ref aLh, .ref aLs, .int (nI nl)])), (aLh, .inl (cI, 6, .inl ho)), (aLs, .inl (cI, 6, .inl sn)), (aE, .inr (0, [.int li, .int mi, .int (nI pe), .ref aEs, .ref aEw, .ref aEd, .int to, .ref aEl, .ref aEt])), (aEs, .inl (cI, 4, .inl sc)), (aN, .inl (cI, 3, .inl ((g_kl nl ho sn pe sc mm dd mu lit waves pn).2)))] := by
  intro dd
  induction dd with
  | zero =>
    intro mu lit waves pn hdd
    exact c1_X4_keepsLit l D cI aL aLk aLh aLs aE aEs aEw aEd aEl aEt aN nl ho sn li mi pe to sc pn 0 lit 0 mm mu (fun _ _ _ _ => fun _ => 0) (fun _ _ _ _ => 0) waves hn hpe hm3 (by omega) (fun h => absurd h (by omega))
  | succ dd ihd =>
    intro mu lit waves pn hdd
    exact c1_X4_keepsLit l D cI aL aLk aLh aLs aE aEs aEw aEd aEl aEt aN nl ho sn li mi pe to sc pn (2 * dd + 2) lit (46 * dd + 46) mm mu (fun mu lit waves pn => (g_kl nl ho sn pe sc mm dd mu lit waves pn).2) (fun mu lit waves pn => (g_kl nl ho sn pe sc mm dd mu lit waves pn).1) waves hn hpe hm3 (by omega) (fun hlt lit waves pn => ihd (mu + 1) lit waves pn (by omega))

def f_X4_lightsAll_81_r (nl : Nat) (ho : Nat → Int32) (sn : Nat → Int32) (lit : Int32) (mu : Nat) (rN : Nat → Int32 → Int32 → (Nat → Int32) → (Nat → Int32)) (rr : Nat → Int32 → Int32 → (Nat → Int32) → Int32) (sect : Int32) : Nat → Nat → (Nat → Int32) → Int32
  | 0, _, _ => 0
  | k81 + 1, i1, x81_S => (if 2 < nI i1 then 0 else (if (rr (mu + 1) ((sect + nI i1) - 1) (f_X1_after nl ho sn lit ((1 : Int32) <<< (sect &&& 31))) x81_S) = 0 then (f_X4_lightsAll_81_r nl ho sn lit mu rN rr sect k81 (i1 + 1) (rN (mu + 1) ((sect + nI i1) - 1) (f_X1_after nl ho sn lit ((1 : Int32) <<< (sect &&& 31))) x81_S)) else 1))
def f_X4_lightsAll_81_S (nl : Nat) (ho : Nat → Int32) (sn : Nat → Int32) (lit : Int32) (mu : Nat) (rN : Nat → Int32 → Int32 → (Nat → Int32) → (Nat → Int32)) (rr : Nat → Int32 → Int32 → (Nat → Int32) → Int32) (sect : Int32) : Nat → Nat → (Nat → Int32) → (Nat → Int32)
  | 0, _, _ => (fun _ => 0)
  | k81 + 1, i1, x81_S => (if 2 < nI i1 then x81_S else (if (rr (mu + 1) ((sect + nI i1) - 1) (f_X1_after nl ho sn lit ((1 : Int32) <<< (sect &&& 31))) x81_S) = 0 then (f_X4_lightsAll_81_S nl ho sn lit mu rN rr sect k81 (i1 + 1) (rN (mu + 1) ((sect + nI i1) - 1) (f_X1_after nl ho sn lit ((1 : Int32) <<< (sect &&& 31))) x81_S)) else (upd (rN (mu + 1) ((sect + nI i1) - 1) (f_X1_after nl ho sn lit ((1 : Int32) <<< (sect &&& 31))) x81_S) mu (nI i1))))
def f_X4_lightsAll (nl : Nat) (ho : Nat → Int32) (sn : Nat → Int32) (sp : Nat → Int32) (lit : Int32) (mm : Nat) (mu : Nat) (rN : Nat → Int32 → Int32 → (Nat → Int32) → (Nat → Int32)) (rr : Nat → Int32 → Int32 → (Nat → Int32) → Int32) (sect : Int32) : Int32 := (if nI mm ≤ nI mu then 0 else (if sect < 0 then 0 else (if sect < nI nl then (if nI mu = (nI mm - 1) then (if (f_X1_litOnes nl (f_X1_after nl ho sn lit ((1 : Int32) <<< (sect &&& 31)))) = (f_X1_allOnes nl) then 1 else 0) else (f_X4_lightsAll_81_r nl ho sn lit mu rN rr sect 4 0 sp)) else 0)))
def f_X4_lightsAll_S (nl : Nat) (ho : Nat → Int32) (sn : Nat → Int32) (sp : Nat → Int32) (lit : Int32) (mm : Nat) (mu : Nat) (rN : Nat → Int32 → Int32 → (Nat → Int32) → (Nat → Int32)) (rr : Nat → Int32 → Int32 → (Nat → Int32) → Int32) (sect : Int32) : Nat → Int32 := (if nI mm ≤ nI mu then sp else (if sect < 0 then sp else (if sect < nI nl then (if nI mu = (nI mm - 1) then (if sect ≤ 0 then (upd sp mu 1) else (upd sp mu 0)) else (f_X4_lightsAll_81_S nl ho sn lit mu rN rr sect 4 0 sp)) else sp)))
theorem hd_X4_lightsAll : yX4_lightsAll.cls ≠ "java/lang/invoke/MethodHandle" ∧ yX4_lightsAll.cls ≠ "java/lang/invoke/VarHandle" ∧ (parseMethodDescriptor yX4_lightsAll.desc).map (fun d => d.parameters.length) = some 6 := by decide +kernel
set_option maxHeartbeats 4000000 in
set_option maxRecDepth 100000 in
theorem c1_X4_lightsAll (l : Launch) (D : va_G) (cI : ClassId) (aL aLk aLh aLs aS : Nat) (nl : Nat) (ho : Nat → Int32) (sn : Nat → Int32) (sp : Nat → Int32) (fr : Nat) (lit : Int32) (lo : Nat) (mm : Nat) (mu : Nat) (rN : Nat → Int32 → Int32 → (Nat → Int32) → (Nat → Int32)) (rr : Nat → Int32 → Int32 → (Nat → Int32) → Int32) (sect : Int32) (hn : nl ≤ 6) (hm7 : mm ≤ 7) (hmu : mu ≤ mm) (hrec : mu < mm → ∀ (sect lit : Int32) (sp : Nat → Int32), MetX l yX4_lightsAll wsX4_lightsAll { frames := fr, cells := 0, slots := 0, locals := lo } D cI [.ref aL, .ref aS, .int (nI mm), .int (nI (mu + 1)), .int sect, .int lit] [(aL, .inr (1, [.ref aLk, .ref aLh, .ref aLs, .int (nI nl)])), (aLh, .inl (cI, 6, .inl ho)), (aLs, .inl (cI, 6, .inl sn)), (aS, .inl (cI, 7, .inl sp))] (some (.int (rr (mu + 1) sect lit sp))) [(aL, .inr (1, [.ref aLk, .ref aLh, .ref aLs, .int (nI nl)])), (aLh, .inl (cI, 6, .inl ho)), (aLs, .inl (cI, 6, .inl sn)), (aS, .inl (cI, 7, .inl (rN (mu + 1) sect lit sp)))]) : MetX l yX4_lightsAll wsX4_lightsAll { frames := fr + 2, cells := 0, slots := 0, locals := lo + 46 } D cI [.ref aL, .ref aS, .int (nI mm), .int (nI mu), .int sect, .int lit] [(aL, .inr (1, [.ref aLk, .ref aLh, .ref aLs, .int (nI nl)])), (aLh, .inl (cI, 6, .inl ho)), (aLs, .inl (cI, 6, .inl sn)), (aS, .inl (cI, 7, .inl sp))] (some (.int (f_X4_lightsAll nl ho sn sp lit mm mu rN rr sect))) [(aL, .inr (1, [.ref aLk, .ref aLh, .ref aLs, .int (nI nl)])), (aLh, .inl (cI, 6, .inl ho)), (aLs, .inl (cI, 6, .inl sn)), (aS, .inl (cI, 7, .inl (f_X4_lightsAll_S nl ho sn sp lit mm mu rN rr sect)))] := by
  refine mX (cc := cX4_lightsAll) (maxL := 8) (ret := (some .boolean)) (by decide) rfl (Nat.le_of_ble_eq_true rfl) ?_
  intro p e s m args below meth c Q A hx hb hr hml hown hts hlk hP hK hD hA hS hQ ls hl
  have hown : s.vm.findClass RX4 = some m.cls := hown
  have hl : lv_has ls 8 [(0, .ref aL), (1, .ref aS), (2, .int (nI mm)), (3, .int (nI mu)), (4, .int sect), (5, .int lit)] := hl
  have w1 := hts (.fieldLink RX4 77 "DarkOffice$Lamps" "size" "I") (List.mem_of_getElem? (i := 1) rfl)
  have uX1 : ∀ w ∈ wsX10, w ∈ wsX4_lightsAll := fun _ h => List.mem_cons_of_mem _ (List.mem_append_right _ h)
  refine lv_iload_n hx hb dX4_lightsAll_0 rfl (lv_at hl 3 rfl) ?_
  refine lv_iload_n hx hb dX4_lightsAll_1 rfl (lv_at hl 2 rfl) ?_
  refine lv_icmp_ge (tgt := 25) hx hb dX4_lightsAll_2 (by decide) (fun c1 => ?_) (fun c1 => ?_)
  · have q1 : mm ≤ mu := nle_d (a := mm) (b := mu) rfl rfl (by omega) (by omega) c1
    refine lv_iconst (v := 0) hx hb dX4_lightsAll_25 (by decide) ?_
    have e_S : (f_X4_lightsAll_S nl ho sn sp lit mm mu rN rr sect) = sp := (by simp only [f_X4_lightsAll_S, if_pos c1])
    exact eXz hx hb hr hlk hQ (by rw [e_S]; exact hP) (by rw [e_S]; exact hD) hS dX4_lightsAll_26 rfl (Eq.symm (by simp only [f_X4_lightsAll, if_pos c1]))
  · have q1 : mu < mm := nle_e (a := mm) (b := mu) rfl rfl (by omega) (by omega) c1
    refine lv_iload_n hx hb dX4_lightsAll_5 rfl (lv_at hl 3 rfl) ?_
    refine lv_aload_n hx hb dX4_lightsAll_6 rfl (lv_at hl 1 rfl) ?_
    refine va_alen (v := 7) hx hb hK hP 3 0 rfl rfl rfl dX4_lightsAll_7 ?_
    refine lv_icmp_ge (tgt := 25) hx hb dX4_lightsAll_8 (by decide) (fun c => absurd c (nle_f (a := 7) (b := mu) rfl rfl (by omega) (by omega) (by omega))) (fun _ => ?_)
    refine lv_iload hx hb dX4_lightsAll_11 (lv_at hl 4 rfl) ?_
    refine lv_if_lt (tgt := 25) hx hb dX4_lightsAll_13 (by decide) (fun c2 => ?_) (fun c2 => ?_)
    · refine lv_iconst (v := 0) hx hb dX4_lightsAll_25 (by decide) ?_
      have e_S : (f_X4_lightsAll_S nl ho sn sp lit mm mu rN rr sect) = sp := (by simp only [f_X4_lightsAll_S, if_neg c1, if_pos c2])
      exact eXz hx hb hr hlk hQ (by rw [e_S]; exact hP) (by rw [e_S]; exact hD) hS dX4_lightsAll_26 rfl (Eq.symm (by simp only [f_X4_lightsAll, if_neg c1, if_pos c2]))
    · refine lv_iload hx hb dX4_lightsAll_16 (lv_at hl 4 rfl) ?_
      refine lv_aload_n hx hb dX4_lightsAll_18 rfl (lv_at hl 0 rfl) ?_
      refine va_get (D := D) (ci := 1) (v := .int (nI nl)) (C := RX1) (T := TX1) (N := 4) hx hb hts uX1 hown hK hP 0 rfl rfl 3 (by decide) w1 (fun _ h9 => h9) rfl dX4_lightsAll_19 ?_
      refine lv_icmp_lt (tgt := 27) hx hb dX4_lightsAll_22 (by decide) (fun c3 => ?_) (fun c3 => ?_)
      · refine lv_aload_n hx hb dX4_lightsAll_27 rfl (lv_at hl 0 rfl) ?_
        refine lv_iload hx hb dX4_lightsAll_28 (lv_at hl 5 rfl) ?_
        refine lv_iconst (v := 1) hx hb dX4_lightsAll_30 (by decide) ?_
        refine lv_iload hx hb dX4_lightsAll_31 (lv_at hl 4 rfl) ?_
        refine lv_ishl hx hb dX4_lightsAll_33 ?_
        refine rV ⟨hx, hb, hml, hown, hts⟩ (c_X1_after l D cI aL aLk aLh aLs nl ho sn lit ((1 : Int32) <<< (sect &&& 31)) hn) (cwV 2 hts gX4_lightsAll_X1_after rfl rfl rfl hd_X1_after ⟨Nat.le_trans (Nat.le_of_ble_eq_true rfl : rm_X1_after.frames + 1 ≤ 2) (Nat.le_add_left _ _), Nat.le_trans (Nat.le_of_ble_eq_true rfl : 8 + (6 + 11) + rm_X1_after.locals ≤ 46) (Nat.le_add_left _ _)⟩) hK (hP.sub [0, 1, 2] rfl) 0 rfl rfl rfl rfl hl.1 (rest := []) (st' := [.int (f_X1_after nl ho sn lit ((1 : Int32) <<< (sect &&& 31)))]) rfl rfl (Nat.le_of_ble_eq_true rfl) dX4_lightsAll_34 ⟨Nat.zero_le _, Nat.zero_le _⟩ ?_
        refine lv_istore (lv' := [(6, .int (f_X1_after nl ho sn lit ((1 : Int32) <<< (sect &&& 31)))), (0, .ref aL), (1, .ref aS), (2, .int (nI mm)), (3, .int (nI mu)), (4, .int sect), (5, .int lit)]) hx hb dX4_lightsAll_37 hl (by decide) rfl (fun ls hl => ?_)
        refine lv_iload_n hx hb dX4_lightsAll_39 rfl (lv_at hl 4 rfl) ?_
        refine lv_iload_n hx hb dX4_lightsAll_40 rfl (lv_at hl 3 rfl) ?_
        refine lv_iconst (v := 1) hx hb dX4_lightsAll_41 (by decide) ?_
        refine lv_isub hx hb dX4_lightsAll_42 ?_
        refine lv_icmp_ne (tgt := 78) hx hb dX4_lightsAll_43 (by decide) (fun c4 => ?_) (fun c4 => ?_)
        · refine lv_iconst (v := 0) hx hb dX4_lightsAll_78 (by decide) ?_
          refine lv_istore (lv' := [(7, .int 0), (6, .int (f_X1_after nl ho sn lit ((1 : Int32) <<< (sect &&& 31)))), (0, .ref aL), (1, .ref aS), (2, .int (nI mm)), (3, .int (nI mu)), (4, .int sect), (5, .int lit)]) hx hb dX4_lightsAll_79 hl (by decide) rfl (fun ls hl => ?_)
          have lp81 : ∀ (k81 : Nat) (i1 : Nat) (x81_S : Nat → Int32), i1 ≤ 3 ∧ 3 < i1 + k81 → ((f_X4_lightsAll nl ho sn sp lit mm mu rN rr sect) = (f_X4_lightsAll_81_r nl ho sn lit mu rN rr sect k81 i1 x81_S)) → ((f_X4_lightsAll_S nl ho sn sp lit mm mu rN rr sect) = (f_X4_lightsAll_81_S nl ho sn lit mu rN rr sect k81 i1 x81_S)) → ∀ (H : Heap) (locs : List Loc), va_P D vwCl [(aL, .inr (1, [.ref aLk, .ref aLh, .ref aLs, .int (nI nl)])), (aLh, .inl (cI, 6, .inl ho)), (aLs, .inl (cI, 6, .inl sn)), (aS, .inl (cI, 7, .inl x81_S))] H → va_D A [(aL, .inr (1, [.ref aLk, .ref aLh, .ref aLs, .int (nI nl)])), (aLh, .inl (cI, 6, .inl ho)), (aLs, .inl (cI, 6, .inl sn)), (aS, .inl (cI, 7, .inl x81_S))] → va_S A s.heap H locs → ∀ ls : Array Slot, lv_has ls 8 [(0, .ref aL), (1, .ref aS), (2, .int (nI mm)), (3, .int (nI mu)), (4, .int sect), (6, .int (f_X1_after nl ho sn lit ((1 : Int32) <<< (sect &&& 31)))), (7, .int (nI i1))] → W p l e { frames := fr + 2, cells := 0, slots := 0, locals := lo + 46 } s m args below meth c H locs 0 0 Q (F0 m 81 ls []) := by
            intro k81
            induction k81 with
            | zero =>
              intro i1 x81_S hh81 h81_r h81_S H locs hP hD hS ls hl
              exact absurd hh81 (by omega)
            | succ k81 ih81 =>
              intro i1 x81_S hh81 h81_r h81_S H locs hP hD hS ls hl
              refine lv_iload hx hb dX4_lightsAll_81 (lv_at hl 6 rfl) ?_
              refine lv_iconst (v := 2) hx hb dX4_lightsAll_83 (by decide) ?_
              refine lv_icmp_gt (tgt := 121) hx hb dX4_lightsAll_84 (by decide) (fun c5 => ?_) (fun c5 => ?_)
              · have q5 : 2 < i1 := nlt_d (a := 2) (b := i1) rfl rfl (by omega) (by omega) c5
                refine lv_iconst (v := 0) hx hb dX4_lightsAll_121 (by decide) ?_
                have e_S : (f_X4_lightsAll_S nl ho sn sp lit mm mu rN rr sect) = x81_S := (h81_S.trans (by simp only [f_X4_lightsAll_81_S, if_pos c5]))
                exact eXz hx hb hr hlk hQ (by rw [e_S]; exact hP) (by rw [e_S]; exact hD) hS dX4_lightsAll_122 rfl (Eq.symm (h81_r.trans (by simp only [f_X4_lightsAll_81_r, if_pos c5])))
              · have q5 : i1 ≤ 2 := nlt_e (a := 2) (b := i1) rfl rfl (by omega) (by omega) c5
                refine lv_aload_n hx hb dX4_lightsAll_87 rfl (lv_at hl 0 rfl) ?_
                refine lv_aload_n hx hb dX4_lightsAll_88 rfl (lv_at hl 1 rfl) ?_
                refine lv_iload_n hx hb dX4_lightsAll_89 rfl (lv_at hl 2 rfl) ?_
                refine lv_iload_n hx hb dX4_lightsAll_90 rfl (lv_at hl 3 rfl) ?_
                refine lv_iconst (v := 1) hx hb dX4_lightsAll_91 (by decide) ?_
                refine lv_iadd hx hb dX4_lightsAll_92 ?_
                refine tpi (y := nI (mu + 1)) (nI_1 mu) ?_
                refine lv_iload hx hb dX4_lightsAll_93 (lv_at hl 4 rfl) ?_
                refine lv_iload hx hb dX4_lightsAll_95 (lv_at hl 6 rfl) ?_
                refine lv_iadd hx hb dX4_lightsAll_97 ?_
                refine lv_iconst (v := 1) hx hb dX4_lightsAll_98 (by decide) ?_
                refine lv_isub hx hb dX4_lightsAll_99 ?_
                refine lv_iload hx hb dX4_lightsAll_100 (lv_at hl 5 rfl) ?_
                refine xS (w2 := [(aL, .inr (1, [.ref aLk, .ref aLh, .ref aLs, .int (nI nl)])), (aLh, .inl (cI, 6, .inl ho)), (aLs, .inl (cI, 6, .inl sn)), (aS, .inl (cI, 7, .inl (rN (mu + 1) ((sect + nI i1) - 1) (f_X1_after nl ho sn lit ((1 : Int32) <<< (sect &&& 31))) x81_S)))]) ⟨hx, hb, hml, hown, hts⟩ (hrec (by omega) ((sect + nI i1) - 1) (f_X1_after nl ho sn lit ((1 : Int32) <<< (sect &&& 31))) x81_S) (va_cwS 6 hts gX4_lightsAll_X4_lightsAll rfl rfl rfl hd_X4_lightsAll ⟨Nat.le_succ (fr + 1), (by show 8 + (8 + 11) + lo ≤ lo + 46; omega)⟩) hK hP hD hS hA [0, 1, 2, 3] [] [0, 1, 2, 3] rfl rfl rfl rfl rfl (by decide) rfl rfl rfl rfl hl.1 (rest := []) (st' := [.int (rr (mu + 1) ((sect + nI i1) - 1) (f_X1_after nl ho sn lit ((1 : Int32) <<< (sect &&& 31))) x81_S)]) rfl rfl (Nat.le_of_ble_eq_true rfl) dX4_lightsAll_102 ⟨Nat.zero_le _, Nat.zero_le _⟩ (fun H locs hP hD hS => ?_)
                refine lv_if_eq (tgt := 115) hx hb dX4_lightsAll_105 (by decide) (fun c6 => ?_) (fun c6 => ?_)
                · refine lv_iinc (v := nI (i1 + 1)) (lv' := [(7, .int (nI (i1 + 1))), (0, .ref aL), (1, .ref aS), (2, .int (nI mm)), (3, .int (nI mu)), (4, .int sect), (6, .int (f_X1_after nl ho sn lit ((1 : Int32) <<< (sect &&& 31))))]) hx hb dX4_lightsAll_115 hl (k := 6) rfl (nI_add i1 1) (by decide) rfl (fun ls hl => ?_)
                  refine lv_goto (tgt := 81) hx hb dX4_lightsAll_118 (by decide) ?_
                  exact ih81 (i1 + 1) (rN (mu + 1) ((sect + nI i1) - 1) (f_X1_after nl ho sn lit ((1 : Int32) <<< (sect &&& 31))) x81_S) (by omega) (h81_r.trans (by simp only [f_X4_lightsAll_81_r, if_neg c5, if_pos c6])) (h81_S.trans (by simp only [f_X4_lightsAll_81_S, if_neg c5, if_pos c6])) _ _ (hP) (hD) hS ls (lv_sub hl [1, 2, 3, 4, 5, 6, 0] rfl)
                · refine lv_aload_n hx hb dX4_lightsAll_108 rfl (lv_at hl 1 rfl) ?_
                  refine lv_iload_n hx hb dX4_lightsAll_109 rfl (lv_at hl 3 rfl) ?_
                  refine lv_iload hx hb dX4_lightsAll_110 (lv_at hl 6 rfl) ?_
                  refine xast hx hb hK hP hD hS 3 rfl mu rfl (by omega) (by decide) dX4_lightsAll_112 (fun H locs hP hD hS => ?_)
                  have hP : va_P D vwCl [(aL, .inr (1, [.ref aLk, .ref aLh, .ref aLs, .int (nI nl)])), (aLh, .inl (cI, 6, .inl ho)), (aLs, .inl (cI, 6, .inl sn)), (aS, .inl (cI, 7, .inl (upd (rN (mu + 1) ((sect + nI i1) - 1) (f_X1_after nl ho sn lit ((1 : Int32) <<< (sect &&& 31))) x81_S) mu (nI i1))))] H := hP
                  have hD : va_D A [(aL, .inr (1, [.ref aLk, .ref aLh, .ref aLs, .int (nI nl)])), (aLh, .inl (cI, 6, .inl ho)), (aLs, .inl (cI, 6, .inl sn)), (aS, .inl (cI, 7, .inl (upd (rN (mu + 1) ((sect + nI i1) - 1) (f_X1_after nl ho sn lit ((1 : Int32) <<< (sect &&& 31))) x81_S) mu (nI i1))))] := hD
                  refine lv_iconst (v := 1) hx hb dX4_lightsAll_113 (by decide) ?_
                  have e_S : (f_X4_lightsAll_S nl ho sn sp lit mm mu rN rr sect) = (upd (rN (mu + 1) ((sect + nI i1) - 1) (f_X1_after nl ho sn lit ((1 : Int32) <<< (sect &&& 31))) x81_S) mu (nI i1)) := (h81_S.trans (by simp only [f_X4_lightsAll_81_S, if_neg c5, if_neg c6]))
                  exact eXz hx hb hr hlk hQ (by rw [e_S]; exact hP) (by rw [e_S]; exact hD) hS dX4_lightsAll_114 rfl (Eq.symm (h81_r.trans (by simp only [f_X4_lightsAll_81_r, if_neg c5, if_neg c6])))
          exact lp81 4 0 sp (by omega) (by simp only [f_X4_lightsAll, if_neg c1, if_neg c2, if_pos c3, if_neg c4]) (by simp only [f_X4_lightsAll_S, if_neg c1, if_neg c2, if_pos c3, if_neg c4]) _ _ hP hD hS ls (lv_sub hl [2, 3, 4, 5, 6, 1, 0] rfl)
        · refine lv_aload_n hx hb dX4_lightsAll_46 rfl (lv_at hl 2 rfl) ?_
          refine lv_iload_n hx hb dX4_lightsAll_47 rfl (lv_at hl 4 rfl) ?_
          refine lv_iload hx hb dX4_lightsAll_48 (lv_at hl 5 rfl) ?_
          refine lv_if_le (tgt := 57) hx hb dX4_lightsAll_50 (by decide) (fun c7 => ?_) (fun c7 => ?_)
          · refine lv_iconst (v := 1) hx hb dX4_lightsAll_57 (by decide) ?_
            refine xast hx hb hK hP hD hS 3 rfl mu rfl (by omega) (by decide) dX4_lightsAll_58 (fun H locs hP hD hS => ?_)
            have hP : va_P D vwCl [(aL, .inr (1, [.ref aLk, .ref aLh, .ref aLs, .int (nI nl)])), (aLh, .inl (cI, 6, .inl ho)), (aLs, .inl (cI, 6, .inl sn)), (aS, .inl (cI, 7, .inl (upd sp mu 1)))] H := hP
            have hD : va_D A [(aL, .inr (1, [.ref aLk, .ref aLh, .ref aLs, .int (nI nl)])), (aLh, .inl (cI, 6, .inl ho)), (aLs, .inl (cI, 6, .inl sn)), (aS, .inl (cI, 7, .inl (upd sp mu 1)))] := hD
            refine lv_aload_n hx hb dX4_lightsAll_59 rfl (lv_at hl 1 rfl) ?_
            refine lv_iload hx hb dX4_lightsAll_60 (lv_at hl 0 rfl) ?_
            refine rV ⟨hx, hb, hml, hown, hts⟩ (c_X1_litOnes l D cI aL aLk aLh aLs nl (f_X1_after nl ho sn lit ((1 : Int32) <<< (sect &&& 31))) hn) (cwV 1 hts gX4_lightsAll_X1_litOnes rfl rfl rfl hd_X1_litOnes ⟨Nat.le_trans (Nat.le_of_ble_eq_true rfl : rm_X1_litOnes.frames + 1 ≤ 2) (Nat.le_add_left _ _), Nat.le_trans (Nat.le_of_ble_eq_true rfl : 8 + (4 + 11) + rm_X1_litOnes.locals ≤ 46) (Nat.le_add_left _ _)⟩) hK (hP.sub [0] rfl) 0 rfl rfl rfl rfl hl.1 (rest := []) (st' := [.int (f_X1_litOnes nl (f_X1_after nl ho sn lit ((1 : Int32) <<< (sect &&& 31))))]) rfl rfl (Nat.le_of_ble_eq_true rfl) dX4_lightsAll_62 ⟨Nat.zero_le _, Nat.zero_le _⟩ ?_
            refine lv_aload_n hx hb dX4_lightsAll_65 rfl (lv_at hl 1 rfl) ?_
            refine rV ⟨hx, hb, hml, hown, hts⟩ (c_X1_allOnes l D cI aL aLk aLh aLs nl) (cwV 0 hts gX4_lightsAll_X1_allOnes rfl rfl rfl hd_X1_allOnes ⟨Nat.le_trans (Nat.le_of_ble_eq_true rfl : rm_X1_allOnes.frames + 1 ≤ 2) (Nat.le_add_left _ _), Nat.le_trans (Nat.le_of_ble_eq_true rfl : 8 + (1 + 11) + rm_X1_allOnes.locals ≤ 46) (Nat.le_add_left _ _)⟩) hK (hP.sub [0] rfl) 0 rfl rfl rfl rfl hl.1 (rest := [.int (f_X1_litOnes nl (f_X1_after nl ho sn lit ((1 : Int32) <<< (sect &&& 31))))]) (st' := [.int (f_X1_allOnes nl), .int (f_X1_litOnes nl (f_X1_after nl ho sn lit ((1 : Int32) <<< (sect &&& 31))))]) rfl rfl (Nat.le_of_ble_eq_true rfl) dX4_lightsAll_66 ⟨Nat.zero_le _, Nat.zero_le _⟩ ?_
            refine lv_icmp_ne (tgt := 76) hx hb dX4_lightsAll_69 (by decide) (fun c8 => ?_) (fun c8 => ?_)
            · refine lv_iconst (v := 0) hx hb dX4_lightsAll_76 (by decide) ?_
              have e_S : (f_X4_lightsAll_S nl ho sn sp lit mm mu rN rr sect) = (upd sp mu 1) := (by simp only [f_X4_lightsAll_S, if_neg c1, if_neg c2, if_pos c3, if_pos c4, if_pos c7, if_neg c8])
              exact eXz hx hb hr hlk hQ (by rw [e_S]; exact hP) (by rw [e_S]; exact hD) hS dX4_lightsAll_77 rfl (Eq.symm (by simp only [f_X4_lightsAll, if_neg c1, if_neg c2, if_pos c3, if_pos c4, if_pos c7, if_neg c8]))
            · refine lv_iconst (v := 1) hx hb dX4_lightsAll_72 (by decide) ?_
              refine lv_goto (tgt := 77) hx hb dX4_lightsAll_73 (by decide) ?_
              have e_S : (f_X4_lightsAll_S nl ho sn sp lit mm mu rN rr sect) = (upd sp mu 1) := (by simp only [f_X4_lightsAll_S, if_neg c1, if_neg c2, if_pos c3, if_pos c4, if_pos c7, if_pos c8])
              exact eXz hx hb hr hlk hQ (by rw [e_S]; exact hP) (by rw [e_S]; exact hD) hS dX4_lightsAll_77 rfl (Eq.symm (by simp only [f_X4_lightsAll, if_neg c1, if_neg c2, if_pos c3, if_pos c4, if_pos c7, if_pos c8]))
          · refine lv_iconst (v := 0) hx hb dX4_lightsAll_53 (by decide) ?_
            refine lv_goto (tgt := 58) hx hb dX4_lightsAll_54 (by decide) ?_
            refine xast hx hb hK hP hD hS 3 rfl mu rfl (by omega) (by decide) dX4_lightsAll_58 (fun H locs hP hD hS => ?_)
            have hP : va_P D vwCl [(aL, .inr (1, [.ref aLk, .ref aLh, .ref aLs, .int (nI nl)])), (aLh, .inl (cI, 6, .inl ho)), (aLs, .inl (cI, 6, .inl sn)), (aS, .inl (cI, 7, .inl (upd sp mu 0)))] H := hP
            have hD : va_D A [(aL, .inr (1, [.ref aLk, .ref aLh, .ref aLs, .int (nI nl)])), (aLh, .inl (cI, 6, .inl ho)), (aLs, .inl (cI, 6, .inl sn)), (aS, .inl (cI, 7, .inl (upd sp mu 0)))] := hD
            refine lv_aload_n hx hb dX4_lightsAll_59 rfl (lv_at hl 1 rfl) ?_
            refine lv_iload hx hb dX4_lightsAll_60 (lv_at hl 0 rfl) ?_
            refine rV ⟨hx, hb, hml, hown, hts⟩ (c_X1_litOnes l D cI aL aLk aLh aLs nl (f_X1_after nl ho sn lit ((1 : Int32) <<< (sect &&& 31))) hn) (cwV 1 hts gX4_lightsAll_X1_litOnes rfl rfl rfl hd_X1_litOnes ⟨Nat.le_trans (Nat.le_of_ble_eq_true rfl : rm_X1_litOnes.frames + 1 ≤ 2) (Nat.le_add_left _ _), Nat.le_trans (Nat.le_of_ble_eq_true rfl : 8 + (4 + 11) + rm_X1_litOnes.locals ≤ 46) (Nat.le_add_left _ _)⟩) hK (hP.sub [0] rfl) 0 rfl rfl rfl rfl hl.1 (rest := []) (st' := [.int (f_X1_litOnes nl (f_X1_after nl ho sn lit ((1 : Int32) <<< (sect &&& 31))))]) rfl rfl (Nat.le_of_ble_eq_true rfl) dX4_lightsAll_62 ⟨Nat.zero_le _, Nat.zero_le _⟩ ?_
            refine lv_aload_n hx hb dX4_lightsAll_65 rfl (lv_at hl 1 rfl) ?_
            refine rV ⟨hx, hb, hml, hown, hts⟩ (c_X1_allOnes l D cI aL aLk aLh aLs nl) (cwV 0 hts gX4_lightsAll_X1_allOnes rfl rfl rfl hd_X1_allOnes ⟨Nat.le_trans (Nat.le_of_ble_eq_true rfl : rm_X1_allOnes.frames + 1 ≤ 2) (Nat.le_add_left _ _), Nat.le_trans (Nat.le_of_ble_eq_true rfl : 8 + (1 + 11) + rm_X1_allOnes.locals ≤ 46) (Nat.le_add_left _ _)⟩) hK (hP.sub [0] rfl) 0 rfl rfl rfl rfl hl.1 (rest := [.int (f_X1_litOnes nl (f_X1_after nl ho sn lit ((1 : Int32) <<< (sect &&& 31))))]) (st' := [.int (f_X1_allOnes nl), .int (f_X1_litOnes nl (f_X1_after nl ho sn lit ((1 : Int32) <<< (sect &&& 31))))]) rfl rfl (Nat.le_of_ble_eq_true rfl) dX4_lightsAll_66 ⟨Nat.zero_le _, Nat.zero_le _⟩ ?_
            refine lv_icmp_ne (tgt := 76) hx hb dX4_lightsAll_69 (by decide) (fun c9 => ?_) (fun c9 => ?_)
            · refine lv_iconst (v := 0) hx hb dX4_lightsAll_76 (by decide) ?_
              have e_S : (f_X4_lightsAll_S nl ho sn sp lit mm mu rN rr sect) = (upd sp mu 0) := (by simp only [f_X4_lightsAll_S, if_neg c1, if_neg c2, if_pos c3, if_pos c4, if_neg c7, if_neg c9])
              exact eXz hx hb hr hlk hQ (by rw [e_S]; exact hP) (by rw [e_S]; exact hD) hS dX4_lightsAll_77 rfl (Eq.symm (by simp only [f_X4_lightsAll, if_neg c1, if_neg c2, if_pos c3, if_pos c4, if_neg c7, if_neg c9]))
            · refine lv_iconst (v := 1) hx hb dX4_lightsAll_72 (by decide) ?_
              refine lv_goto (tgt := 77) hx hb dX4_lightsAll_73 (by decide) ?_
              have e_S : (f_X4_lightsAll_S nl ho sn sp lit mm mu rN rr sect) = (upd sp mu 0) := (by simp only [f_X4_lightsAll_S, if_neg c1, if_neg c2, if_pos c3, if_pos c4, if_neg c7, if_pos c9])
              exact eXz hx hb hr hlk hQ (by rw [e_S]; exact hP) (by rw [e_S]; exact hD) hS dX4_lightsAll_77 rfl (Eq.symm (by simp only [f_X4_lightsAll, if_neg c1, if_neg c2, if_pos c3, if_pos c4, if_neg c7, if_pos c9]))
      · refine lv_iconst (v := 0) hx hb dX4_lightsAll_25 (by decide) ?_
        have e_S : (f_X4_lightsAll_S nl ho sn sp lit mm mu rN rr sect) = sp := (by simp only [f_X4_lightsAll_S, if_neg c1, if_neg c2, if_neg c3])
        exact eXz hx hb hr hlk hQ (by rw [e_S]; exact hP) (by rw [e_S]; exact hD) hS dX4_lightsAll_26 rfl (Eq.symm (by simp only [f_X4_lightsAll, if_neg c1, if_neg c2, if_neg c3]))

def g_la (nl : Nat) (ho : Nat → Int32) (sn : Nat → Int32) (mm : Nat) : Nat → Nat → Int32 → Int32 → (Nat → Int32) → Int32 × (Nat → Int32)
  | 0, mu, sect, lit, sp => ((f_X4_lightsAll nl ho sn sp lit mm mu (fun _ _ _ _ => fun _ => 0) (fun _ _ _ _ => 0) sect), (f_X4_lightsAll_S nl ho sn sp lit mm mu (fun _ _ _ _ => fun _ => 0) (fun _ _ _ _ => 0) sect))
  | d + 1, mu, sect, lit, sp => ((f_X4_lightsAll nl ho sn sp lit mm mu (fun mu sect lit sp => (g_la nl ho sn mm d mu sect lit sp).2) (fun mu sect lit sp => (g_la nl ho sn mm d mu sect lit sp).1) sect), (f_X4_lightsAll_S nl ho sn sp lit mm mu (fun mu sect lit sp => (g_la nl ho sn mm d mu sect lit sp).2) (fun mu sect lit sp => (g_la nl ho sn mm d mu sect lit sp).1) sect))

set_option maxHeartbeats 4000000 in
theorem c_X4_lightsAll (l : Launch) (D : va_G) (cI : ClassId) (aL aLk aLh aLs aS : Nat) (nl : Nat) (ho : Nat → Int32) (sn : Nat → Int32) (mm : Nat) (hn : nl ≤ 6) (hm7 : mm ≤ 7) : ∀ (dd : Nat) (mu : Nat) (sect : Int32) (lit : Int32) (sp : Nat → Int32), mu ≤ mm ∧ mm ≤ mu + dd → MetX l yX4_lightsAll wsX4_lightsAll { frames := 2 * dd + 2, cells := 0, slots := 0, locals := 46 * dd + 46 } D cI [.ref aL, .ref aS, .int (nI mm), .int (nI mu), .int sect, .int lit] [(aL, .inr (1, [.ref aLk, .ref aLh, .ref aLs, .int (nI nl)])), (aLh, .inl (cI, 6, .inl ho)), (aLs, .inl (cI, 6, .inl sn)), (aS, .inl (cI, 7, .inl sp))] (some (.int (g_la nl ho sn mm dd mu sect lit sp).1)) [(aL, .inr (1, [.ref aLk, .ref aLh, .ref aLs, .int (nI nl)])), (aLh, .inl (cI, 6, .inl ho)), (aLs, .inl (cI, 6, .inl sn)), (aS, .inl (cI, 7, .inl ((g_la nl ho sn mm dd mu sect lit sp).2)))] := by
  intro dd
  induction dd with
  | zero =>
    intro mu sect lit sp hdd
    exact c1_X4_lightsAll l D cI aL aLk aLh aLs aS nl ho sn sp 0 lit 0 mm mu (fun _ _ _ _ => fun _ => 0) (fun _ _ _ _ => 0) sect hn hm7 (by omega) (fun h => absurd h (by omega))
  | succ dd ihd =>
    intro mu sect lit sp hdd
    exact c1_X4_lightsAll l D cI aL aLk aLh aLs aS nl ho sn sp (2 * dd + 2) lit (46 * dd + 46) mm mu (fun mu sect lit sp => (g_la nl ho sn mm dd mu sect lit sp).2) (fun mu sect lit sp => (g_la nl ho sn mm dd mu sect lit sp).1) sect hn hm7 (by omega) (fun hlt sect lit sp => ihd (mu + 1) sect lit sp (by omega))

def rm_X4_planWaving : Room := { frames := 9, cells := 0, slots := 0, locals := 214 }
def f_X4_planWaving_12_r (nl : Nat) (ho : Nat → Int32) (sn : Nat → Int32) (li : Int32) (pe : Nat) (sc : Nat → Int32) (mm : Nat) : Nat → Nat → (Nat → Int32) → Int32
  | 0, _, _ => 0
  | k12 + 1, i1, x12_N => (if nI (pe * mm) < nI i1 then (-1) else (if (g_kl nl ho sn pe sc mm 3 0 li (nI i1) x12_N).1 = 0 then (f_X4_planWaving_12_r nl ho sn li pe sc mm k12 (i1 + 1) ((g_kl nl ho sn pe sc mm 3 0 li (nI i1) x12_N).2)) else nI i1))
def f_X4_planWaving_12_N (nl : Nat) (ho : Nat → Int32) (sn : Nat → Int32) (li : Int32) (pe : Nat) (sc : Nat → Int32) (mm : Nat) : Nat → Nat → (Nat → Int32) → (Nat → Int32)
  | 0, _, _ => (fun _ => 0)
  | k12 + 1, i1, x12_N => (if nI (pe * mm) < nI i1 then x12_N else (if (g_kl nl ho sn pe sc mm 3 0 li (nI i1) x12_N).1 = 0 then (f_X4_planWaving_12_N nl ho sn li pe sc mm k12 (i1 + 1) ((g_kl nl ho sn pe sc mm 3 0 li (nI i1) x12_N).2)) else (g_kl nl ho sn pe sc mm 3 0 li (nI i1) x12_N).2))
def f_X4_planWaving (nl : Nat) (ho : Nat → Int32) (sn : Nat → Int32) (li : Int32) (pe : Nat) (sc : Nat → Int32) (pn : Nat → Int32) (mm : Nat) : Int32 := (f_X4_planWaving_12_r nl ho sn li pe sc mm (pe * mm + 2) 0 pn)
def f_X4_planWaving_N (nl : Nat) (ho : Nat → Int32) (sn : Nat → Int32) (li : Int32) (pe : Nat) (sc : Nat → Int32) (pn : Nat → Int32) (mm : Nat) : Nat → Int32 := (f_X4_planWaving_12_N nl ho sn li pe sc mm (pe * mm + 2) 0 pn)
theorem hd_X4_planWaving : yX4_planWaving.cls = RX4 ∧ yX4_planWaving.cls ≠ "java/lang/invoke/MethodHandle" ∧ yX4_planWaving.cls ≠ "java/lang/invoke/VarHandle" ∧ (parseMethodDescriptor yX4_planWaving.desc).map (fun d => d.parameters.length) = some 1 := by decide +kernel
set_option maxHeartbeats 4000000 in
set_option maxRecDepth 100000 in
theorem c_X4_planWaving (l : Launch) (D : va_G) (cI : ClassId) (aO aP aL aLk aLh aLs aE aEs aEw aEd aEl aEt aK aY aN aS : Nat) (ik : Int32) (ofr : Int32) (rd : Int32) (nl : Nat) (ho : Nat → Int32) (sn : Nat → Int32) (li : Int32) (mi : Int32) (pe : Nat) (to : Int32) (sc : Nat → Int32) (pn : Nat → Int32) (mm : Nat) (hn : nl ≤ 6) (hpe : pe ≤ 4) (hm3 : mm ≤ 3) : MetX l yX4_planWaving wsX4_planWaving rm_X4_planWaving D cI [.ref aO, .int (nI mm)] [(aO, .inr (4, [.ref aP, .ref aL, .ref aE, .ref aK, .ref aY, .ref aN, .ref aS, .int ik, .int ofr, .int rd])), (aL, .inr (1, [.ref aLk, .ref aLh, .ref aLs, .int (nI nl)])), (aLh, .inl (cI, 6, .inl ho)), (aLs, .inl (cI, 6, .inl sn)), (aE, .inr (0, [.int li, .int mi, .int (nI pe), .ref aEs, .ref aEw, .ref aEd, .int to, .ref aEl, .ref aEt])), (aEs, .inl (cI, 4, .inl sc)), (aN, .inl (cI, 3, .inl pn))] (some (.int (f_X4_planWaving nl ho sn li pe sc pn mm))) [(aO, .inr (4, [.ref aP, .ref aL, .ref aE, .ref aK, .ref aY, .ref aN, .ref aS, .int ik, .int ofr, .int rd])), (aL, .inr (1, [.ref aLk, .ref aLh, .ref aLs, .int (nI nl)])), (aLh, .inl (cI, 6, .inl ho)), (aLs, .inl (cI, 6, .inl sn)), (aE, .inr (0, [.int li, .int mi, .int (nI pe), .ref aEs, .ref aEw, .ref aEd, .int to, .ref aEl, .ref aEt])), (aEs, .inl (cI, 4, .inl sc)), (aN, .inl (cI, 3, .inl (f_X4_planWaving_N nl ho sn li pe sc pn mm)))] := by
  refine mX (cc := cX4_planWaving) (maxL := 4) (ret := (some .int)) (by decide) rfl (Nat.le_of_ble_eq_true rfl) ?_
  intro p e s m args below meth c Q A hx hb hr hml hown hts hlk hP hK hD hA hS hQ ls hl
  have hown : s.vm.findClass RX4 = some m.cls := hown
  have hl : lv_has ls 4 [(0, .ref aO), (1, .int (nI mm))] := hl
  have w1 := hts (.fieldLink RX4 26 "DarkOffice" "now" "LDarkOffice$Evening;") (List.mem_of_getElem? (i := 1) rfl)
  have uX4 : ∀ w ∈ wsX40, w ∈ wsX4_planWaving := fun _ h => List.mem_cons_of_mem _ (List.mem_append_left _ (List.mem_append_left _ (List.mem_append_right _ h)))
  have w2 := hts (.fieldLink RX4 125 "DarkOffice$Evening" "people" "I") (List.mem_of_getElem? (i := 2) rfl)
  have uX0 : ∀ w ∈ wsX00, w ∈ wsX4_planWaving := fun _ h => List.mem_cons_of_mem _ (List.mem_append_left _ (List.mem_append_right _ h))
  have w3 := hts (.fieldLink RX4 19 "DarkOffice" "lamps" "LDarkOffice$Lamps;") (List.mem_of_getElem? (i := 3) rfl)
  have w4 := hts (.fieldLink RX4 40 "DarkOffice" "plan" "[I") (List.mem_of_getElem? (i := 4) rfl)
  have w5 := hts (.fieldLink RX4 90 "DarkOffice$Evening" "lit" "I") (List.mem_of_getElem? (i := 5) rfl)
  refine lv_aload_n hx hb dX4_planWaving_0 rfl (lv_at hl 0 rfl) ?_
  refine va_get (D := D) (ci := 4) (v := .ref aE) (C := RX4) (T := TX4) (N := 10) hx hb hts uX4 hown hK hP 0 rfl rfl 2 (by decide) w1 (fun _ h9 => h9) rfl dX4_planWaving_1 ?_
  refine va_get (D := D) (ci := 0) (v := .int (nI pe)) (C := RX0) (T := TX0) (N := 9) hx hb hts uX0 hown hK hP 4 rfl rfl 2 (by decide) w2 (fun _ h9 => h9) rfl dX4_planWaving_4 ?_
  refine lv_iload_n hx hb dX4_planWaving_7 rfl (lv_at hl 1 rfl) ?_
  refine lv_imul hx hb dX4_planWaving_8 ?_
  refine tpi (y := nI (pe * mm)) (pk_mul pe mm) ?_
  refine lv_istore_n (lv' := [(2, .int (nI (pe * mm))), (0, .ref aO), (1, .int (nI mm))]) hx hb dX4_planWaving_9 rfl hl (by decide) rfl (fun ls hl => ?_)
  have hpm : pe * mm ≤ 4 * 3 := Nat.mul_le_mul hpe hm3
  refine lv_iconst (v := 0) hx hb dX4_planWaving_10 (by decide) ?_
  refine lv_istore_n (lv' := [(3, .int 0), (2, .int (nI (pe * mm))), (0, .ref aO), (1, .int (nI mm))]) hx hb dX4_planWaving_11 rfl hl (by decide) rfl (fun ls hl => ?_)
  have lp12 : ∀ (k12 : Nat) (i1 : Nat) (x12_N : Nat → Int32), i1 ≤ pe * mm + 1 ∧ pe * mm + 1 < i1 + k12 → ((f_X4_planWaving nl ho sn li pe sc pn mm) = (f_X4_planWaving_12_r nl ho sn li pe sc mm k12 i1 x12_N)) → ((f_X4_planWaving_N nl ho sn li pe sc pn mm) = (f_X4_planWaving_12_N nl ho sn li pe sc mm k12 i1 x12_N)) → ∀ (H : Heap) (locs : List Loc), va_P D vwCl [(aO, .inr (4, [.ref aP, .ref aL, .ref aE, .ref aK, .ref aY, .ref aN, .ref aS, .int ik, .int ofr, .int rd])), (aL, .inr (1, [.ref aLk, .ref aLh, .ref aLs, .int (nI nl)])), (aLh, .inl (cI, 6, .inl ho)), (aLs, .inl (cI, 6, .inl sn)), (aE, .inr (0, [.int li, .int mi, .int (nI pe), .ref aEs, .ref aEw, .ref aEd, .int to, .ref aEl, .ref aEt])), (aEs, .inl (cI, 4, .inl sc)), (aN, .inl (cI, 3, .inl x12_N))] H → va_D A [(aO, .inr (4, [.ref aP, .ref aL, .ref aE, .ref aK, .ref aY, .ref aN, .ref aS, .int ik, .int ofr, .int rd])), (aL, .inr (1, [.ref aLk, .ref aLh, .ref aLs, .int (nI nl)])), (aLh, .inl (cI, 6, .inl ho)), (aLs, .inl (cI, 6, .inl sn)), (aE, .inr (0, [.int li, .int mi, .int (nI pe), .ref aEs, .ref aEw, .ref aEd, .int to, .ref aEl, .ref aEt])), (aEs, .inl (cI, 4, .inl sc)), (aN, .inl (cI, 3, .inl x12_N))] → va_S A s.heap H locs → ∀ ls : Array Slot, lv_has ls 4 [(0, .ref aO), (1, .int (nI mm)), (2, .int (nI (pe * mm))), (3, .int (nI i1))] → W p l e rm_X4_planWaving s m args below meth c H locs 0 0 Q (F0 m 12 ls []) := by
    intro k12
    induction k12 with
    | zero =>
      intro i1 x12_N hh12 h12_r h12_N H locs hP hD hS ls hl
      exact absurd hh12 (by omega)
    | succ k12 ih12 =>
      intro i1 x12_N hh12 h12_r h12_N H locs hP hD hS ls hl
      refine lv_iload_n hx hb dX4_planWaving_12 rfl (lv_at hl 3 rfl) ?_
      refine lv_iload_n hx hb dX4_planWaving_13 rfl (lv_at hl 2 rfl) ?_
      refine lv_icmp_gt (tgt := 53) hx hb dX4_planWaving_14 (by decide) (fun c1 => ?_) (fun c1 => ?_)
      · have q1 : pe * mm < i1 := nlt_d (a := pe * mm) (b := i1) rfl rfl (by omega) (by omega) c1
        refine lv_iconst (v := (-1)) hx hb dX4_planWaving_53 (by decide) ?_
        have e_N : (f_X4_planWaving_N nl ho sn li pe sc pn mm) = x12_N := (h12_N.trans (by simp only [f_X4_planWaving_12_N, if_pos c1]))
        exact eXi hx hb hr hlk hQ (by rw [e_N]; exact hP) (by rw [e_N]; exact hD) hS dX4_planWaving_54 (Eq.symm (h12_r.trans (by simp only [f_X4_planWaving_12_r, if_pos c1])))
      · have q1 : i1 ≤ pe * mm := nlt_e (a := pe * mm) (b := i1) rfl rfl (by omega) (by omega) c1
        refine lv_aload_n hx hb dX4_planWaving_17 rfl (lv_at hl 0 rfl) ?_
        refine va_get (D := D) (ci := 4) (v := .ref aL) (C := RX4) (T := TX4) (N := 10) hx hb hts uX4 hown hK hP 0 rfl rfl 1 (by decide) w3 (fun _ h9 => h9) rfl dX4_planWaving_18 ?_
        refine lv_aload_n hx hb dX4_planWaving_21 rfl (lv_at hl 0 rfl) ?_
        refine va_get (D := D) (ci := 4) (v := .ref aE) (C := RX4) (T := TX4) (N := 10) hx hb hts uX4 hown hK hP 0 rfl rfl 2 (by decide) w1 (fun _ h9 => h9) rfl dX4_planWaving_22 ?_
        refine lv_aload_n hx hb dX4_planWaving_25 rfl (lv_at hl 0 rfl) ?_
        refine va_get (D := D) (ci := 4) (v := .ref aN) (C := RX4) (T := TX4) (N := 10) hx hb hts uX4 hown hK hP 0 rfl rfl 5 (by decide) w4 (fun _ h9 => h9) rfl dX4_planWaving_26 ?_
        refine lv_iload_n hx hb dX4_planWaving_29 rfl (lv_at hl 1 rfl) ?_
        refine lv_iconst (v := 0) hx hb dX4_planWaving_30 (by decide) ?_
        refine lv_aload_n hx hb dX4_planWaving_31 rfl (lv_at hl 0 rfl) ?_
        refine va_get (D := D) (ci := 4) (v := .ref aE) (C := RX4) (T := TX4) (N := 10) hx hb hts uX4 hown hK hP 0 rfl rfl 2 (by decide) w1 (fun _ h9 => h9) rfl dX4_planWaving_32 ?_
        refine va_get (D := D) (ci := 0) (v := .int li) (C := RX0) (T := TX0) (N := 9) hx hb hts uX0 hown hK hP 4 rfl rfl 0 (by decide) w5 (fun _ h9 => h9) rfl dX4_planWaving_35 ?_
        refine lv_iload_n hx hb dX4_planWaving_38 rfl (lv_at hl 3 rfl) ?_
        refine xS (w2 := [(aO, .inr (4, [.ref aP, .ref aL, .ref aE, .ref aK, .ref aY, .ref aN, .ref aS, .int ik, .int ofr, .int rd])), (aL, .inr (1, [.ref aLk, .ref aLh, .ref aLs, .int (nI nl)])), (aLh, .inl (cI, 6, .inl ho)), (aLs, .inl (cI, 6, .inl sn)), (aE, .inr (0, [.int li, .int mi, .int (nI pe), .ref aEs, .ref aEw, .ref aEd, .int to, .ref aEl, .ref aEt])), (aEs, .inl (cI, 4, .inl sc)), (aN, .inl (cI, 3, .inl ((g_kl nl ho sn pe sc mm 3 0 li (nI i1) x12_N).2)))]) ⟨hx, hb, hml, hown, hts⟩ (c_X4_keepsLit l D cI aL aLk aLh aLs aE aEs aEw aEd aEl aEt aN nl ho sn li mi pe to sc mm hn hpe hm3 3 0 li (nI i1) x12_N (by omega)) (va_cwS 7 hts gX4_planWaving_X4_keepsLit rfl rfl rfl hd_X4_keepsLit ⟨Nat.le_of_ble_eq_true rfl, Nat.le_of_ble_eq_true rfl⟩) hK hP hD hS hA [1, 2, 3, 4, 5, 6] [0] [0, 1, 2, 3, 4, 5, 6] rfl rfl rfl rfl rfl (by decide) rfl rfl rfl rfl hl.1 (rest := []) (st' := [.int ((g_kl nl ho sn pe sc mm 3 0 li (nI i1) x12_N).1)]) rfl rfl (Nat.le_of_ble_eq_true rfl) dX4_planWaving_39 ⟨Nat.zero_le _, Nat.zero_le _⟩ (fun H locs hP hD hS => ?_)
        refine lv_if_eq (tgt := 47) hx hb dX4_planWaving_42 (by decide) (fun c2 => ?_) (fun c2 => ?_)
        · refine lv_iinc (v := nI (i1 + 1)) (lv' := [(3, .int (nI (i1 + 1))), (0, .ref aO), (1, .int (nI mm)), (2, .int (nI (pe * mm)))]) hx hb dX4_planWaving_47 hl (k := 3) rfl (nI_add i1 1) (by decide) rfl (fun ls hl => ?_)
          refine lv_goto (tgt := 12) hx hb dX4_planWaving_50 (by decide) ?_
          exact ih12 (i1 + 1) ((g_kl nl ho sn pe sc mm 3 0 li (nI i1) x12_N).2) (by omega) (h12_r.trans (by simp only [f_X4_planWaving_12_r, if_neg c1, if_pos c2])) (h12_N.trans (by simp only [f_X4_planWaving_12_N, if_neg c1, if_pos c2])) _ _ (hP) (hD) hS ls (lv_sub hl [1, 2, 3, 0] rfl)
        · refine lv_iload_n hx hb dX4_planWaving_45 rfl (lv_at hl 3 rfl) ?_
          have e_N : (f_X4_planWaving_N nl ho sn li pe sc pn mm) = (g_kl nl ho sn pe sc mm 3 0 li (nI i1) x12_N).2 := (h12_N.trans (by simp only [f_X4_planWaving_12_N, if_neg c1, if_neg c2]))
          exact eXi hx hb hr hlk hQ (by rw [e_N]; exact hP) (by rw [e_N]; exact hD) hS dX4_planWaving_46 (Eq.symm (h12_r.trans (by simp only [f_X4_planWaving_12_r, if_neg c1, if_neg c2])))
  exact lp12 (pe * mm + 2) 0 pn (by omega) (by simp only [f_X4_planWaving]) (by simp only [f_X4_planWaving_N]) _ _ hP hD hS ls (lv_sub hl [2, 3, 1, 0] rfl)

def rm_X4_planRound : Room := { frames := 17, cells := 0, slots := 0, locals := 395 }
def f_X4_planRound_2_r (nl : Nat) (ho : Nat → Int32) (sn : Nat → Int32) (li : Int32) (sect : Int32) : Nat → Nat → (Nat → Int32) → Int32
  | 0, _, _ => 0
  | k2 + 1, i1, x2_S => (if 7 < nI (i1 + 1) then (-1) else (if (g_la nl ho sn (i1 + 1) 7 0 sect li x2_S).1 = 0 then (f_X4_planRound_2_r nl ho sn li sect k2 (i1 + 1) ((g_la nl ho sn (i1 + 1) 7 0 sect li x2_S).2)) else nI (i1 + 1)))
def f_X4_planRound_2_S (nl : Nat) (ho : Nat → Int32) (sn : Nat → Int32) (li : Int32) (sect : Int32) : Nat → Nat → (Nat → Int32) → (Nat → Int32)
  | 0, _, _ => (fun _ => 0)
  | k2 + 1, i1, x2_S => (if 7 < nI (i1 + 1) then x2_S else (if (g_la nl ho sn (i1 + 1) 7 0 sect li x2_S).1 = 0 then (f_X4_planRound_2_S nl ho sn li sect k2 (i1 + 1) ((g_la nl ho sn (i1 + 1) 7 0 sect li x2_S).2)) else (g_la nl ho sn (i1 + 1) 7 0 sect li x2_S).2))
def f_X4_planRound (nl : Nat) (ho : Nat → Int32) (sn : Nat → Int32) (li : Int32) (sp : Nat → Int32) (sect : Int32) : Int32 := (f_X4_planRound_2_r nl ho sn li sect 8 0 sp)
def f_X4_planRound_S (nl : Nat) (ho : Nat → Int32) (sn : Nat → Int32) (li : Int32) (sp : Nat → Int32) (sect : Int32) : Nat → Int32 := (f_X4_planRound_2_S nl ho sn li sect 8 0 sp)
theorem hd_X4_planRound : yX4_planRound.cls = RX4 ∧ yX4_planRound.cls ≠ "java/lang/invoke/MethodHandle" ∧ yX4_planRound.cls ≠ "java/lang/invoke/VarHandle" ∧ (parseMethodDescriptor yX4_planRound.desc).map (fun d => d.parameters.length) = some 1 := by decide +kernel
set_option maxHeartbeats 4000000 in
set_option maxRecDepth 100000 in
theorem c_X4_planRound (l : Launch) (D : va_G) (cI : ClassId) (aO aP aL aLk aLh aLs aE aEs aEw aEd aEl aEt aK aY aN aS : Nat) (ik : Int32) (ofr : Int32) (rd : Int32) (nl : Nat) (ho : Nat → Int32) (sn : Nat → Int32) (li : Int32) (mi : Int32) (pe : Nat) (to : Int32) (sp : Nat → Int32) (sect : Int32) (hn : nl ≤ 6) : MetX l yX4_planRound wsX4_planRound rm_X4_planRound D cI [.ref aO, .int sect] [(aO, .inr (4, [.ref aP, .ref aL, .ref aE, .ref aK, .ref aY, .ref aN, .ref aS, .int ik, .int ofr, .int rd])), (aL, .inr (1, [.ref aLk, .ref aLh, .ref aLs, .int (nI nl)])), (aLh, .inl (cI, 6, .inl ho)), (aLs, .inl (cI, 6, .inl sn)), (aE, .inr (0, [.int li, .int mi, .int (nI pe), .ref aEs, .ref aEw, .ref aEd, .int to, .ref aEl, .ref aEt])), (aS, .inl (cI, 7, .inl sp))] (some (.int (f_X4_planRound nl ho sn li sp sect))) [(aO, .inr (4, [.ref aP, .ref aL, .ref aE, .ref aK, .ref aY, .ref aN, .ref aS, .int ik, .int ofr, .int rd])), (aL, .inr (1, [.ref aLk, .ref aLh, .ref aLs, .int (nI nl)])), (aLh, .inl (cI, 6, .inl ho)), (aLs, .inl (cI, 6, .inl sn)), (aE, .inr (0, [.int li, .int mi, .int (nI pe), .ref aEs, .ref aEw, .ref aEd, .int to, .ref aEl, .ref aEt])), (aS, .inl (cI, 7, .inl (f_X4_planRound_S nl ho sn li sp sect)))] := by
  refine mX (cc := cX4_planRound) (maxL := 3) (ret := (some .int)) (by decide) rfl (Nat.le_of_ble_eq_true rfl) ?_
  intro p e s m args below meth c Q A hx hb hr hml hown hts hlk hP hK hD hA hS hQ ls hl
  have hown : s.vm.findClass RX4 = some m.cls := hown
  have hl : lv_has ls 3 [(0, .ref aO), (1, .int sect)] := hl
  have w1 := hts (.fieldLink RX4 19 "DarkOffice" "lamps" "LDarkOffice$Lamps;") (List.mem_of_getElem? (i := 1) rfl)
  have uX4 : ∀ w ∈ wsX40, w ∈ wsX4_planRound := fun _ h => List.mem_cons_of_mem _ (List.mem_append_left _ (List.mem_append_left _ (List.mem_append_right _ h)))
  have w2 := hts (.fieldLink RX4 44 "DarkOffice" "steps" "[I") (List.mem_of_getElem? (i := 2) rfl)
  have w3 := hts (.fieldLink RX4 26 "DarkOffice" "now" "LDarkOffice$Evening;") (List.mem_of_getElem? (i := 3) rfl)
  have w4 := hts (.fieldLink RX4 90 "DarkOffice$Evening" "lit" "I") (List.mem_of_getElem? (i := 4) rfl)
  have uX0 : ∀ w ∈ wsX00, w ∈ wsX4_planRound := fun _ h => List.mem_cons_of_mem _ (List.mem_append_left _ (List.mem_append_right _ h))
  refine lv_iconst (v := 1) hx hb dX4_planRound_0 (by decide) ?_
  refine lv_istore_n (lv' := [(2, .int 1), (0, .ref aO), (1, .int sect)]) hx hb dX4_planRound_1 rfl hl (by decide) rfl (fun ls hl => ?_)
  have lp2 : ∀ (k2 : Nat) (i1 : Nat) (x2_S : Nat → Int32), i1 ≤ 7 ∧ 7 < i1 + k2 → ((f_X4_planRound nl ho sn li sp sect) = (f_X4_planRound_2_r nl ho sn li sect k2 i1 x2_S)) → ((f_X4_planRound_S nl ho sn li sp sect) = (f_X4_planRound_2_S nl ho sn li sect k2 i1 x2_S)) → ∀ (H : Heap) (locs : List Loc), va_P D vwCl [(aO, .inr (4, [.ref aP, .ref aL, .ref aE, .ref aK, .ref aY, .ref aN, .ref aS, .int ik, .int ofr, .int rd])), (aL, .inr (1, [.ref aLk, .ref aLh, .ref aLs, .int (nI nl)])), (aLh, .inl (cI, 6, .inl ho)), (aLs, .inl (cI, 6, .inl sn)), (aE, .inr (0, [.int li, .int mi, .int (nI pe), .ref aEs, .ref aEw, .ref aEd, .int to, .ref aEl, .ref aEt])), (aS, .inl (cI, 7, .inl x2_S))] H → va_D A [(aO, .inr (4, [.ref aP, .ref aL, .ref aE, .ref aK, .ref aY, .ref aN, .ref aS, .int ik, .int ofr, .int rd])), (aL, .inr (1, [.ref aLk, .ref aLh, .ref aLs, .int (nI nl)])), (aLh, .inl (cI, 6, .inl ho)), (aLs, .inl (cI, 6, .inl sn)), (aE, .inr (0, [.int li, .int mi, .int (nI pe), .ref aEs, .ref aEw, .ref aEd, .int to, .ref aEl, .ref aEt])), (aS, .inl (cI, 7, .inl x2_S))] → va_S A s.heap H locs → ∀ ls : Array Slot, lv_has ls 3 [(0, .ref aO), (1, .int sect), (2, .int (nI (i1 + 1)))] → W p l e rm_X4_planRound s m args below meth c H locs 0 0 Q (F0 m 2 ls []) := by
    intro k2
    induction k2 with
    | zero =>
      intro i1 x2_S hh2 h2_r h2_S H locs hP hD hS ls hl
      exact absurd hh2 (by omega)
    | succ k2 ih2 =>
      intro i1 x2_S hh2 h2_r h2_S H locs hP hD hS ls hl
      refine lv_iload_n hx hb dX4_planRound_2 rfl (lv_at hl 2 rfl) ?_
      refine lv_bipush (v := 7) hx hb dX4_planRound_3 (by decide) ?_
      refine lv_icmp_gt (tgt := 40) hx hb dX4_planRound_5 (by decide) (fun c1 => ?_) (fun c1 => ?_)
      · have q1 : 7 < i1 + 1 := nlt_d (a := 7) (b := i1 + 1) rfl rfl (by omega) (by omega) c1
        refine lv_iconst (v := (-1)) hx hb dX4_planRound_40 (by decide) ?_
        have e_S : (f_X4_planRound_S nl ho sn li sp sect) = x2_S := (h2_S.trans (by simp only [f_X4_planRound_2_S, if_pos c1]))
        exact eXi hx hb hr hlk hQ (by rw [e_S]; exact hP) (by rw [e_S]; exact hD) hS dX4_planRound_41 (Eq.symm (h2_r.trans (by simp only [f_X4_planRound_2_r, if_pos c1])))
      · have q1 : i1 + 1 ≤ 7 := nlt_e (a := 7) (b := i1 + 1) rfl rfl (by omega) (by omega) c1
        refine lv_aload_n hx hb dX4_planRound_8 rfl (lv_at hl 0 rfl) ?_
        refine va_get (D := D) (ci := 4) (v := .ref aL) (C := RX4) (T := TX4) (N := 10) hx hb hts uX4 hown hK hP 0 rfl rfl 1 (by decide) w1 (fun _ h9 => h9) rfl dX4_planRound_9 ?_
        refine lv_aload_n hx hb dX4_planRound_12 rfl (lv_at hl 0 rfl) ?_
        refine va_get (D := D) (ci := 4) (v := .ref aS) (C := RX4) (T := TX4) (N := 10) hx hb hts uX4 hown hK hP 0 rfl rfl 6 (by decide) w2 (fun _ h9 => h9) rfl dX4_planRound_13 ?_
        refine lv_iload_n hx hb dX4_planRound_16 rfl (lv_at hl 2 rfl) ?_
        refine lv_iconst (v := 0) hx hb dX4_planRound_17 (by decide) ?_
        refine lv_iload_n hx hb dX4_planRound_18 rfl (lv_at hl 1 rfl) ?_
        refine lv_aload_n hx hb dX4_planRound_19 rfl (lv_at hl 0 rfl) ?_
        refine va_get (D := D) (ci := 4) (v := .ref aE) (C := RX4) (T := TX4) (N := 10) hx hb hts uX4 hown hK hP 0 rfl rfl 2 (by decide) w3 (fun _ h9 => h9) rfl dX4_planRound_20 ?_
        refine va_get (D := D) (ci := 0) (v := .int li) (C := RX0) (T := TX0) (N := 9) hx hb hts uX0 hown hK hP 4 rfl rfl 0 (by decide) w4 (fun _ h9 => h9) rfl dX4_planRound_23 ?_
        refine xS (w2 := [(aO, .inr (4, [.ref aP, .ref aL, .ref aE, .ref aK, .ref aY, .ref aN, .ref aS, .int ik, .int ofr, .int rd])), (aL, .inr (1, [.ref aLk, .ref aLh, .ref aLs, .int (nI nl)])), (aLh, .inl (cI, 6, .inl ho)), (aLs, .inl (cI, 6, .inl sn)), (aE, .inr (0, [.int li, .int mi, .int (nI pe), .ref aEs, .ref aEw, .ref aEd, .int to, .ref aEl, .ref aEt])), (aS, .inl (cI, 7, .inl ((g_la nl ho sn (i1 + 1) 7 0 sect li x2_S).2)))]) ⟨hx, hb, hml, hown, hts⟩ (c_X4_lightsAll l D cI aL aLk aLh aLs aS nl ho sn (i1 + 1) hn (by omega) 7 0 sect li x2_S (by omega)) (va_cwS 6 hts gX4_planRound_X4_lightsAll rfl rfl rfl hd_X4_lightsAll ⟨Nat.le_of_ble_eq_true rfl, Nat.le_of_ble_eq_true rfl⟩) hK hP hD hS hA [1, 2, 3, 5] [0, 4] [0, 2, 3, 4, 1, 5] rfl rfl rfl rfl rfl (by decide) rfl rfl rfl rfl hl.1 (rest := []) (st' := [.int ((g_la nl ho sn (i1 + 1) 7 0 sect li x2_S).1)]) rfl rfl (Nat.le_of_ble_eq_true rfl) dX4_planRound_26 ⟨Nat.zero_le _, Nat.zero_le _⟩ (fun H locs hP hD hS => ?_)
        refine lv_if_eq (tgt := 34) hx hb dX4_planRound_29 (by decide) (fun c2 => ?_) (fun c2 => ?_)
        · refine lv_iinc (v := nI ((i1 + 1) + 1)) (lv' := [(2, .int (nI ((i1 + 1) + 1))), (0, .ref aO), (1, .int sect)]) hx hb dX4_planRound_34 hl (k := 2) rfl (nI_add (i1 + 1) 1) (by decide) rfl (fun ls hl => ?_)
          refine lv_goto (tgt := 2) hx hb dX4_planRound_37 (by decide) ?_
          exact ih2 (i1 + 1) ((g_la nl ho sn (i1 + 1) 7 0 sect li x2_S).2) (by omega) (h2_r.trans (by simp only [f_X4_planRound_2_r, if_neg c1, if_pos c2])) (h2_S.trans (by simp only [f_X4_planRound_2_S, if_neg c1, if_pos c2])) _ _ (hP) (hD) hS ls (lv_sub hl [1, 2, 0] rfl)
        · refine lv_iload_n hx hb dX4_planRound_32 rfl (lv_at hl 2 rfl) ?_
          have e_S : (f_X4_planRound_S nl ho sn li sp sect) = (g_la nl ho sn (i1 + 1) 7 0 sect li x2_S).2 := (h2_S.trans (by simp only [f_X4_planRound_2_S, if_neg c1, if_neg c2]))
          exact eXi hx hb hr hlk hQ (by rw [e_S]; exact hP) (by rw [e_S]; exact hD) hS dX4_planRound_33 (Eq.symm (h2_r.trans (by simp only [f_X4_planRound_2_r, if_neg c1, if_neg c2])))
  exact lp2 8 0 sp (by omega) (by simp only [f_X4_planRound]) (by simp only [f_X4_planRound_S]) _ _ hP hD hS ls (lv_sub hl [1, 2, 0] rfl)

def rm_X4_least : Room := { frames := 10, cells := 0, slots := 0, locals := 237 }
def f_X4_least (nl : Nat) (ho : Nat → Int32) (sn : Nat → Int32) (li : Int32) (pe : Nat) (sc : Nat → Int32) (pn : Nat → Int32) (minutes : Int32) (what : Int32) : Int32 := (if minutes < 1 then (-102) else (if minutes ≤ 3 then (if what = 0 then (if (f_X4_hasOffice nl) = 0 then (-103) else (f_X4_planWaving nl ho sn li pe sc pn (minutes.toNatClampNeg))) else (if (f_X4_asksMinute 3 what) = 0 then (-102) else (if (f_X4_hasOffice nl) = 0 then (-103) else (f_X4_ofMinute (f_X4_planWaving_N nl ho sn li pe sc pn (minutes.toNatClampNeg)) 3 minutes what)))) else (-102)))
def f_X4_least_N (nl : Nat) (ho : Nat → Int32) (sn : Nat → Int32) (li : Int32) (pe : Nat) (sc : Nat → Int32) (pn : Nat → Int32) (minutes : Int32) (what : Int32) : Nat → Int32 := (if minutes < 1 then pn else (if minutes ≤ 3 then (if what = 0 then (if (f_X4_hasOffice nl) = 0 then pn else (f_X4_planWaving_N nl ho sn li pe sc pn (minutes.toNatClampNeg))) else (if (f_X4_asksMinute 3 what) = 0 then pn else (if (f_X4_hasOffice nl) = 0 then pn else (f_X4_planWaving_N nl ho sn li pe sc pn (minutes.toNatClampNeg))))) else pn))
theorem hd_X4_least : yX4_least.cls = RX4 ∧ yX4_least.cls ≠ "java/lang/invoke/MethodHandle" ∧ yX4_least.cls ≠ "java/lang/invoke/VarHandle" ∧ (parseMethodDescriptor yX4_least.desc).map (fun d => d.parameters.length) = some 2 := by decide +kernel
set_option maxHeartbeats 4000000 in
set_option maxRecDepth 100000 in
theorem c_X4_least (l : Launch) (D : va_G) (cI : ClassId) (aO aP aL aLk aLh aLs aE aEs aEw aEd aEl aEt aK aY aN aS : Nat) (ik : Int32) (ofr : Int32) (rd : Int32) (nl : Nat) (ho : Nat → Int32) (sn : Nat → Int32) (li : Int32) (mi : Int32) (pe : Nat) (to : Int32) (sc : Nat → Int32) (pn : Nat → Int32) (minutes : Int32) (what : Int32) (hn : nl ≤ 6) (hpe : pe ≤ 4) : MetX l yX4_least wsX4_least rm_X4_least D cI [.ref aO, .int minutes, .int what] [(aO, .inr (4, [.ref aP, .ref aL, .ref aE, .ref aK, .ref aY, .ref aN, .ref aS, .int ik, .int ofr, .int rd])), (aL, .inr (1, [.ref aLk, .ref aLh, .ref aLs, .int (nI nl)])), (aLh, .inl (cI, 6, .inl ho)), (aLs, .inl (cI, 6, .inl sn)), (aE, .inr (0, [.int li, .int mi, .int (nI pe), .ref aEs, .ref aEw, .ref aEd, .int to, .ref aEl, .ref aEt])), (aEs, .inl (cI, 4, .inl sc)), (aN, .inl (cI, 3, .inl pn))] (some (.int (f_X4_least nl ho sn li pe sc pn minutes what))) [(aO, .inr (4, [.ref aP, .ref aL, .ref aE, .ref aK, .ref aY, .ref aN, .ref aS, .int ik, .int ofr, .int rd])), (aL, .inr (1, [.ref aLk, .ref aLh, .ref aLs, .int (nI nl)])), (aLh, .inl (cI, 6, .inl ho)), (aLs, .inl (cI, 6, .inl sn)), (aE, .inr (0, [.int li, .int mi, .int (nI pe), .ref aEs, .ref aEw, .ref aEd, .int to, .ref aEl, .ref aEt])), (aEs, .inl (cI, 4, .inl sc)), (aN, .inl (cI, 3, .inl (f_X4_least_N nl ho sn li pe sc pn minutes what)))] := by
  refine mX (cc := cX4_least) (maxL := 4) (ret := (some .int)) (by decide) rfl (Nat.le_of_ble_eq_true rfl) ?_
  intro p e s m args below meth c Q A hx hb hr hml hown hts hlk hP hK hD hA hS hQ ls hl
  have hown : s.vm.findClass RX4 = some m.cls := hown
  have hl : lv_has ls 4 [(0, .ref aO), (1, .int minutes), (2, .int what)] := hl
  have w1 := hts (.fieldLink RX4 40 "DarkOffice" "plan" "[I") (List.mem_of_getElem? (i := 1) rfl)
  have uX4 : ∀ w ∈ wsX40, w ∈ wsX4_least := fun _ h => List.mem_cons_of_mem _ (List.mem_append_left _ (List.mem_append_left _ (List.mem_append_right _ h)))
  refine lv_iload_n hx hb dX4_least_0 rfl (lv_at hl 1 rfl) ?_
  refine lv_iconst (v := 1) hx hb dX4_least_1 (by decide) ?_
  refine lv_icmp_lt (tgt := 10) hx hb dX4_least_2 (by decide) (fun c1 => ?_) (fun c1 => ?_)
  · refine lv_bipush (v := (-102)) hx hb dX4_least_10 (by decide) ?_
    have e_N : (f_X4_least_N nl ho sn li pe sc pn minutes what) = pn := (by simp only [f_X4_least_N, if_pos c1])
    exact eXi hx hb hr hlk hQ (by rw [e_N]; exact hP) (by rw [e_N]; exact hD) hS dX4_least_12 (Eq.symm (by simp only [f_X4_least, if_pos c1]))
  · refine lv_iload_n hx hb dX4_least_5 rfl (lv_at hl 1 rfl) ?_
    refine lv_iconst (v := 3) hx hb dX4_least_6 (by decide) ?_
    refine lv_icmp_le (tgt := 13) hx hb dX4_least_7 (by decide) (fun c2 => ?_) (fun c2 => ?_)
    · refine lv_iload_n hx hb dX4_least_13 rfl (lv_at hl 2 rfl) ?_
      refine lv_if_eq (tgt := 28) hx hb dX4_least_14 (by decide) (fun c3 => ?_) (fun c3 => ?_)
      · refine lv_aload_n hx hb dX4_least_28 rfl (lv_at hl 0 rfl) ?_
        refine rV ⟨hx, hb, hml, hown, hts⟩ (c_X4_hasOffice l D cI aO aP aL aLk aLh aLs aE aK aY aN aS ik ofr rd nl hn) (cwV 0 hts gX4_least_X4_hasOffice rfl rfl rfl hd_X4_hasOffice ⟨Nat.le_of_ble_eq_true rfl, Nat.le_of_ble_eq_true rfl⟩) hK (hP.sub [0, 1] rfl) 0 rfl rfl rfl rfl hl.1 (rest := []) (st' := [.int (f_X4_hasOffice nl)]) rfl rfl (Nat.le_of_ble_eq_true rfl) dX4_least_29 ⟨Nat.zero_le _, Nat.zero_le _⟩ ?_
        refine lv_if_ne (tgt := 38) hx hb dX4_least_32 (by decide) (fun c4 => ?_) (fun c4 => ?_)
        · have hm : minutes = nI minutes.toNatClampNeg := nI_self (B := 1) (by decide) c1
          have hm2 : minutes.toNatClampNeg ≤ 3 := nI_bd' (B := 3) (b := 3) rfl (by decide) hm c2
          refine lv_aload_n hx hb dX4_least_38 rfl (lv_at hl 0 rfl) ?_
          refine lv_iload_n hx hb dX4_least_39 rfl (lv_at hl 1 rfl) ?_
          refine tpi (y := nI (minutes.toNatClampNeg)) hm ?_
          refine xV (w2 := [(aO, .inr (4, [.ref aP, .ref aL, .ref aE, .ref aK, .ref aY, .ref aN, .ref aS, .int ik, .int ofr, .int rd])), (aL, .inr (1, [.ref aLk, .ref aLh, .ref aLs, .int (nI nl)])), (aLh, .inl (cI, 6, .inl ho)), (aLs, .inl (cI, 6, .inl sn)), (aE, .inr (0, [.int li, .int mi, .int (nI pe), .ref aEs, .ref aEw, .ref aEd, .int to, .ref aEl, .ref aEt])), (aEs, .inl (cI, 4, .inl sc)), (aN, .inl (cI, 3, .inl (f_X4_planWaving_N nl ho sn li pe sc pn (minutes.toNatClampNeg))))]) ⟨hx, hb, hml, hown, hts⟩ (c_X4_planWaving l D cI aO aP aL aLk aLh aLs aE aEs aEw aEd aEl aEt aK aY aN aS ik ofr rd nl ho sn li mi pe to sc pn (minutes.toNatClampNeg) hn hpe hm2) (cwV 1 hts gX4_least_X4_planWaving rfl rfl rfl hd_X4_planWaving ⟨Nat.le_of_ble_eq_true rfl, Nat.le_of_ble_eq_true rfl⟩) hK hP hD hS hA [0, 1, 2, 3, 4, 5, 6] [] [0, 1, 2, 3, 4, 5, 6] rfl rfl rfl rfl rfl (by decide) rfl rfl rfl 0 rfl rfl rfl rfl hl.1 (rest := []) (st' := [.int (f_X4_planWaving nl ho sn li pe sc pn (minutes.toNatClampNeg))]) rfl rfl (Nat.le_of_ble_eq_true rfl) dX4_least_40 ⟨Nat.zero_le _, Nat.zero_le _⟩ (fun H locs hP hD hS => ?_)
          refine lv_istore_n (lv' := [(3, .int (f_X4_planWaving nl ho sn li pe sc pn (minutes.toNatClampNeg))), (0, .ref aO), (1, .int minutes), (2, .int what)]) hx hb dX4_least_43 rfl hl (by decide) rfl (fun ls hl => ?_)
          refine lv_iload_n hx hb dX4_least_44 rfl (lv_at hl 3 rfl) ?_
          refine lv_if_ne (tgt := 52) hx hb dX4_least_45 (by decide) (fun c => absurd c3 c) (fun _ => ?_)
          refine lv_iload_n hx hb dX4_least_48 rfl (lv_at hl 0 rfl) ?_
          refine lv_goto (tgt := 61) hx hb dX4_least_49 (by decide) ?_
          have e_N : (f_X4_least_N nl ho sn li pe sc pn minutes what) = (f_X4_planWaving_N nl ho sn li pe sc pn (minutes.toNatClampNeg)) := (by simp only [f_X4_least_N, if_neg c1, if_pos c2, if_pos c3, if_neg c4])
          exact eXi hx hb hr hlk hQ (by rw [e_N]; exact hP) (by rw [e_N]; exact hD) hS dX4_least_61 (Eq.symm (by simp only [f_X4_least, if_neg c1, if_pos c2, if_pos c3, if_neg c4]))
        · refine lv_bipush (v := (-103)) hx hb dX4_least_35 (by decide) ?_
          have e_N : (f_X4_least_N nl ho sn li pe sc pn minutes what) = pn := (by simp only [f_X4_least_N, if_neg c1, if_pos c2, if_pos c3, if_pos c4])
          exact eXi hx hb hr hlk hQ (by rw [e_N]; exact hP) (by rw [e_N]; exact hD) hS dX4_least_37 (Eq.symm (by simp only [f_X4_least, if_neg c1, if_pos c2, if_pos c3, if_pos c4]))
      · refine lv_iload_n hx hb dX4_least_17 rfl (lv_at hl 2 rfl) ?_
        refine lv_iconst (v := 3) hx hb dX4_least_18 (by decide) ?_
        refine rS ⟨hx, hb, hml, hown, hts⟩ (c_X4_asksMinute l D cI 3 what) (va_cwS 2 hts gX4_least_X4_asksMinute rfl rfl rfl hd_X4_asksMinute ⟨Nat.le_of_ble_eq_true rfl, Nat.le_of_ble_eq_true rfl⟩) hK (hP.sub [] rfl) rfl hl.1 (rest := []) (st' := [.int (f_X4_asksMinute 3 what)]) rfl rfl (Nat.le_of_ble_eq_true rfl) dX4_least_19 ⟨Nat.zero_le _, Nat.zero_le _⟩ ?_
        refine lv_if_ne (tgt := 28) hx hb dX4_least_22 (by decide) (fun c5 => ?_) (fun c5 => ?_)
        · refine lv_aload_n hx hb dX4_least_28 rfl (lv_at hl 0 rfl) ?_
          refine rV ⟨hx, hb, hml, hown, hts⟩ (c_X4_hasOffice l D cI aO aP aL aLk aLh aLs aE aK aY aN aS ik ofr rd nl hn) (cwV 0 hts gX4_least_X4_hasOffice rfl rfl rfl hd_X4_hasOffice ⟨Nat.le_of_ble_eq_true rfl, Nat.le_of_ble_eq_true rfl⟩) hK (hP.sub [0, 1] rfl) 0 rfl rfl rfl rfl hl.1 (rest := []) (st' := [.int (f_X4_hasOffice nl)]) rfl rfl (Nat.le_of_ble_eq_true rfl) dX4_least_29 ⟨Nat.zero_le _, Nat.zero_le _⟩ ?_
          refine lv_if_ne (tgt := 38) hx hb dX4_least_32 (by decide) (fun c6 => ?_) (fun c6 => ?_)
          · have hm : minutes = nI minutes.toNatClampNeg := nI_self (B := 1) (by decide) c1
            have hm2 : minutes.toNatClampNeg ≤ 3 := nI_bd' (B := 3) (b := 3) rfl (by decide) hm c2
            refine lv_aload_n hx hb dX4_least_38 rfl (lv_at hl 0 rfl) ?_
            refine lv_iload_n hx hb dX4_least_39 rfl (lv_at hl 1 rfl) ?_
            refine tpi (y := nI (minutes.toNatClampNeg)) hm ?_
            refine xV (w2 := [(aO, .inr (4, [.ref aP, .ref aL, .ref aE, .ref aK, .ref aY, .ref aN, .ref aS, .int ik, .int ofr, .int rd])), (aL, .inr (1, [.ref aLk, .ref aLh, .ref aLs, .int (nI nl)])), (aLh, .inl (cI, 6, .inl ho)), (aLs, .inl (cI, 6, .inl sn)), (aE, .inr (0, [.int li, .int mi, .int (nI pe), .ref aEs, .ref aEw, .ref aEd, .int to, .ref aEl, .ref aEt])), (aEs, .inl (cI, 4, .inl sc)), (aN, .inl (cI, 3, .inl (f_X4_planWaving_N nl ho sn li pe sc pn (minutes.toNatClampNeg))))]) ⟨hx, hb, hml, hown, hts⟩ (c_X4_planWaving l D cI aO aP aL aLk aLh aLs aE aEs aEw aEd aEl aEt aK aY aN aS ik ofr rd nl ho sn li mi pe to sc pn (minutes.toNatClampNeg) hn hpe hm2) (cwV 1 hts gX4_least_X4_planWaving rfl rfl rfl hd_X4_planWaving ⟨Nat.le_of_ble_eq_true rfl, Nat.le_of_ble_eq_true rfl⟩) hK hP hD hS hA [0, 1, 2, 3, 4, 5, 6] [] [0, 1, 2, 3, 4, 5, 6] rfl rfl rfl rfl rfl (by decide) rfl rfl rfl 0 rfl rfl rfl rfl hl.1 (rest := []) (st' := [.int (f_X4_planWaving nl ho sn li pe sc pn (minutes.toNatClampNeg))]) rfl rfl (Nat.le_of_ble_eq_true rfl) dX4_least_40 ⟨Nat.zero_le _, Nat.zero_le _⟩ (fun H locs hP hD hS => ?_)
            refine lv_istore_n (lv' := [(3, .int (f_X4_planWaving nl ho sn li pe sc pn (minutes.toNatClampNeg))), (0, .ref aO), (1, .int minutes), (2, .int what)]) hx hb dX4_least_43 rfl hl (by decide) rfl (fun ls hl => ?_)
            refine lv_iload_n hx hb dX4_least_44 rfl (lv_at hl 3 rfl) ?_
            refine lv_if_ne (tgt := 52) hx hb dX4_least_45 (by decide) (fun _ => ?_) (fun c => absurd c c3)
            refine lv_aload_n hx hb dX4_least_52 rfl (lv_at hl 1 rfl) ?_
            refine va_get (D := D) (ci := 4) (v := .ref aN) (C := RX4) (T := TX4) (N := 10) hx hb hts uX4 hown hK hP 0 rfl rfl 5 (by decide) w1 (fun _ h9 => h9) rfl dX4_least_53 ?_
            refine lv_iload_n hx hb dX4_least_56 rfl (lv_at hl 2 rfl) ?_
            refine lv_iload_n hx hb dX4_least_57 rfl (lv_at hl 3 rfl) ?_
            refine rS ⟨hx, hb, hml, hown, hts⟩ (c_X4_ofMinute l D cI aN (f_X4_planWaving_N nl ho sn li pe sc pn (minutes.toNatClampNeg)) 3 minutes what (by decide)) (va_cwS 3 hts gX4_least_X4_ofMinute rfl rfl rfl hd_X4_ofMinute ⟨Nat.le_of_ble_eq_true rfl, Nat.le_of_ble_eq_true rfl⟩) hK (hP.sub [6] rfl) rfl hl.1 (rest := []) (st' := [.int (f_X4_ofMinute (f_X4_planWaving_N nl ho sn li pe sc pn (minutes.toNatClampNeg)) 3 minutes what)]) rfl rfl (Nat.le_of_ble_eq_true rfl) dX4_least_58 ⟨Nat.zero_le _, Nat.zero_le _⟩ ?_
            have e_N : (f_X4_least_N nl ho sn li pe sc pn minutes what) = (f_X4_planWaving_N nl ho sn li pe sc pn (minutes.toNatClampNeg)) := (by simp only [f_X4_least_N, if_neg c1, if_pos c2, if_neg c3, if_neg c5, if_neg c6])
            exact eXi hx hb hr hlk hQ (by rw [e_N]; exact hP) (by rw [e_N]; exact hD) hS dX4_least_61 (Eq.symm (by simp only [f_X4_least, if_neg c1, if_pos c2, if_neg c3, if_neg c5, if_neg c6]))
          · refine lv_bipush (v := (-103)) hx hb dX4_least_35 (by decide) ?_
            have e_N : (f_X4_least_N nl ho sn li pe sc pn minutes what) = pn := (by simp only [f_X4_least_N, if_neg c1, if_pos c2, if_neg c3, if_neg c5, if_pos c6])
            exact eXi hx hb hr hlk hQ (by rw [e_N]; exact hP) (by rw [e_N]; exact hD) hS dX4_least_37 (Eq.symm (by simp only [f_X4_least, if_neg c1, if_pos c2, if_neg c3, if_neg c5, if_pos c6]))
        · refine lv_bipush (v := (-102)) hx hb dX4_least_25 (by decide) ?_
          have e_N : (f_X4_least_N nl ho sn li pe sc pn minutes what) = pn := (by simp only [f_X4_least_N, if_neg c1, if_pos c2, if_neg c3, if_pos c5])
          exact eXi hx hb hr hlk hQ (by rw [e_N]; exact hP) (by rw [e_N]; exact hD) hS dX4_least_27 (Eq.symm (by simp only [f_X4_least, if_neg c1, if_pos c2, if_neg c3, if_pos c5]))
    · refine lv_bipush (v := (-102)) hx hb dX4_least_10 (by decide) ?_
      have e_N : (f_X4_least_N nl ho sn li pe sc pn minutes what) = pn := (by simp only [f_X4_least_N, if_neg c1, if_neg c2])
      exact eXi hx hb hr hlk hQ (by rw [e_N]; exact hP) (by rw [e_N]; exact hD) hS dX4_least_12 (Eq.symm (by simp only [f_X4_least, if_neg c1, if_neg c2]))

def rm_X4_round : Room := { frames := 18, cells := 0, slots := 0, locals := 417 }
def f_X4_round (rd : Int32) (nl : Nat) (ho : Nat → Int32) (sn : Nat → Int32) (li : Int32) (sp : Nat → Int32) (sect : Int32) (what : Int32) : Int32 := (if (f_X4_isLamp nl sect) = 0 then (-101) else (if what = 0 then (if rd < 20 then (f_X4_planRound nl ho sn li sp sect) else (-103)) else (if (f_X4_asksMinute 7 what) = 0 then (-102) else (if rd < 20 then (f_X4_ofMinute (f_X4_planRound_S nl ho sn li sp sect) 7 (f_X4_planRound nl ho sn li sp sect) what) else (-103)))))
def f_X4_round_O_9 (rd : Int32) (nl : Nat) (sect : Int32) (what : Int32) : Int32 := (if (f_X4_isLamp nl sect) = 0 then rd else (if what = 0 then (if rd < 20 then (rd + 1) else rd) else (if (f_X4_asksMinute 7 what) = 0 then rd else (if rd < 20 then (rd + 1) else rd))))
def f_X4_round_S (rd : Int32) (nl : Nat) (ho : Nat → Int32) (sn : Nat → Int32) (li : Int32) (sp : Nat → Int32) (sect : Int32) (what : Int32) : Nat → Int32 := (if (f_X4_isLamp nl sect) = 0 then sp else (if what = 0 then (if rd < 20 then (f_X4_planRound_S nl ho sn li sp sect) else sp) else (if (f_X4_asksMinute 7 what) = 0 then sp else (if rd < 20 then (f_X4_planRound_S nl ho sn li sp sect) else sp))))
theorem hd_X4_round : yX4_round.cls = RX4 ∧ yX4_round.cls ≠ "java/lang/invoke/MethodHandle" ∧ yX4_round.cls ≠ "java/lang/invoke/VarHandle" ∧ (parseMethodDescriptor yX4_round.desc).map (fun d => d.parameters.length) = some 2 := by decide +kernel
set_option maxHeartbeats 4000000 in
set_option maxRecDepth 100000 in
theorem c_X4_round (l : Launch) (D : va_G) (cI : ClassId) (aO aP aL aLk aLh aLs aE aEs aEw aEd aEl aEt aK aY aN aS : Nat) (ik : Int32) (ofr : Int32) (rd : Int32) (nl : Nat) (ho : Nat → Int32) (sn : Nat → Int32) (li : Int32) (mi : Int32) (pe : Nat) (to : Int32) (sp : Nat → Int32) (sect : Int32) (what : Int32) (hn : nl ≤ 6) : MetX l yX4_round wsX4_round rm_X4_round D cI [.ref aO, .int sect, .int what] [(aO, .inr (4, [.ref aP, .ref aL, .ref aE, .ref aK, .ref aY, .ref aN, .ref aS, .int ik, .int ofr, .int rd])), (aL, .inr (1, [.ref aLk, .ref aLh, .ref aLs, .int (nI nl)])), (aLh, .inl (cI, 6, .inl ho)), (aLs, .inl (cI, 6, .inl sn)), (aE, .inr (0, [.int li, .int mi, .int (nI pe), .ref aEs, .ref aEw, .ref aEd, .int to, .ref aEl, .ref aEt])), (aS, .inl (cI, 7, .inl sp))] (some (.int (f_X4_round rd nl ho sn li sp sect what))) [(aO, .inr (4, [.ref aP, .ref aL, .ref aE, .ref aK, .ref aY, .ref aN, .ref aS, .int ik, .int ofr, .int (f_X4_round_O_9 rd nl sect what)])), (aL, .inr (1, [.ref aLk, .ref aLh, .ref aLs, .int (nI nl)])), (aLh, .inl (cI, 6, .inl ho)), (aLs, .inl (cI, 6, .inl sn)), (aE, .inr (0, [.int li, .int mi, .int (nI pe), .ref aEs, .ref aEw, .ref aEd, .int to, .ref aEl, .ref aEt])), (aS, .inl (cI, 7, .inl (f_X4_round_S rd nl ho sn li sp sect what)))] := by
  refine mX (cc := cX4_round) (maxL := 4) (ret := (some .int)) (by decide) rfl (Nat.le_of_ble_eq_true rfl) ?_
  intro p e s m args below meth c Q A hx hb hr hml hown hts hlk hP hK hD hA hS hQ ls hl
  have hown : s.vm.findClass RX4 = some m.cls := hown
  have hl : lv_has ls 4 [(0, .ref aO), (1, .int sect), (2, .int what)] := hl
  have w1 := hts (.fieldLink RX4 160 "DarkOffice" "roundsDone" "I") (List.mem_of_getElem? (i := 1) rfl)
  have uX4 : ∀ w ∈ wsX40, w ∈ wsX4_round := fun _ h => List.mem_cons_of_mem _ (List.mem_append_left _ (List.mem_append_left _ (List.mem_append_right _ h)))
  have w2 := hts (.fieldLink RX4 44 "DarkOffice" "steps" "[I") (List.mem_of_getElem? (i := 2) rfl)
  refine lv_aload_n hx hb dX4_round_0 rfl (lv_at hl 0 rfl) ?_
  refine lv_iload_n hx hb dX4_round_1 rfl (lv_at hl 1 rfl) ?_
  refine rV ⟨hx, hb, hml, hown, hts⟩ (c_X4_isLamp l D cI aO aP aL aLk aLh aLs aE aK aY aN aS ik ofr rd nl sect hn) (cwV 1 hts gX4_round_X4_isLamp rfl rfl rfl hd_X4_isLamp ⟨Nat.le_of_ble_eq_true rfl, Nat.le_of_ble_eq_true rfl⟩) hK (hP.sub [0, 1] rfl) 0 rfl rfl rfl rfl hl.1 (rest := []) (st' := [.int (f_X4_isLamp nl sect)]) rfl rfl (Nat.le_of_ble_eq_true rfl) dX4_round_2 ⟨Nat.zero_le _, Nat.zero_le _⟩ ?_
  refine lv_if_ne (tgt := 11) hx hb dX4_round_5 (by decide) (fun c1 => ?_) (fun c1 => ?_)
  · refine lv_iload_n hx hb dX4_round_11 rfl (lv_at hl 2 rfl) ?_
    refine lv_if_eq (tgt := 27) hx hb dX4_round_12 (by decide) (fun c2 => ?_) (fun c2 => ?_)
    · refine lv_aload_n hx hb dX4_round_27 rfl (lv_at hl 0 rfl) ?_
      refine va_get (D := D) (ci := 4) (v := .int rd) (C := RX4) (T := TX4) (N := 10) hx hb hts uX4 hown hK hP 0 rfl rfl 9 (by decide) w1 (fun _ h9 => h9) rfl dX4_round_28 ?_
      refine lv_bipush (v := 20) hx hb dX4_round_31 (by decide) ?_
      refine lv_icmp_lt (tgt := 39) hx hb dX4_round_33 (by decide) (fun c3 => ?_) (fun c3 => ?_)
      · refine lv_aload_n hx hb dX4_round_39 rfl (lv_at hl 0 rfl) ?_
        refine lv_dup hx hb dX4_round_40 rfl ?_
        refine va_get (D := D) (ci := 4) (v := .int rd) (C := RX4) (T := TX4) (N := 10) hx hb hts uX4 hown hK hP 0 rfl rfl 9 (by decide) w1 (fun _ h9 => h9) rfl dX4_round_41 ?_
        refine lv_iconst (v := 1) hx hb dX4_round_44 (by decide) ?_
        refine lv_iadd hx hb dX4_round_45 ?_
        refine va_put (D := D) (ci := 4) (v := .int (rd + 1)) (ty := .int) (C := RX4) (T := TX4) (N := 10) hx hb hts uX4 tyX4 tyX4_ok nmX4 hown hK hP hD hS 0 rfl rfl 9 (by decide) w1 (fun _ h9 => h9) rfl (by decide +kernel) rfl rfl (Nat.le_of_ble_eq_true rfl) dX4_round_46 (fun H locs hP hD hS => ?_)
        have hP : va_P D vwCl [(aO, .inr (4, [.ref aP, .ref aL, .ref aE, .ref aK, .ref aY, .ref aN, .ref aS, .int ik, .int ofr, .int (rd + 1)])), (aL, .inr (1, [.ref aLk, .ref aLh, .ref aLs, .int (nI nl)])), (aLh, .inl (cI, 6, .inl ho)), (aLs, .inl (cI, 6, .inl sn)), (aE, .inr (0, [.int li, .int mi, .int (nI pe), .ref aEs, .ref aEw, .ref aEd, .int to, .ref aEl, .ref aEt])), (aS, .inl (cI, 7, .inl sp))] H := hP
        have hD : va_D A [(aO, .inr (4, [.ref aP, .ref aL, .ref aE, .ref aK, .ref aY, .ref aN, .ref aS, .int ik, .int ofr, .int (rd + 1)])), (aL, .inr (1, [.ref aLk, .ref aLh, .ref aLs, .int (nI nl)])), (aLh, .inl (cI, 6, .inl ho)), (aLs, .inl (cI, 6, .inl sn)), (aE, .inr (0, [.int li, .int mi, .int (nI pe), .ref aEs, .ref aEw, .ref aEd, .int to, .ref aEl, .ref aEt])), (aS, .inl (cI, 7, .inl sp))] := hD
        refine lv_aload_n hx hb dX4_round_49 rfl (lv_at hl 0 rfl) ?_
        refine lv_iload_n hx hb dX4_round_50 rfl (lv_at hl 1 rfl) ?_
        refine xV (w2 := [(aO, .inr (4, [.ref aP, .ref aL, .ref aE, .ref aK, .ref aY, .ref aN, .ref aS, .int ik, .int ofr, .int (rd + 1)])), (aL, .inr (1, [.ref aLk, .ref aLh, .ref aLs, .int (nI nl)])), (aLh, .inl (cI, 6, .inl ho)), (aLs, .inl (cI, 6, .inl sn)), (aE, .inr (0, [.int li, .int mi, .int (nI pe), .ref aEs, .ref aEw, .ref aEd, .int to, .ref aEl, .ref aEt])), (aS, .inl (cI, 7, .inl (f_X4_planRound_S nl ho sn li sp sect)))]) ⟨hx, hb, hml, hown, hts⟩ (c_X4_planRound l D cI aO aP aL aLk aLh aLs aE aEs aEw aEd aEl aEt aK aY aN aS ik ofr (rd + 1) nl ho sn li mi pe to sp sect hn) (cwV 1 hts gX4_round_X4_planRound rfl rfl rfl hd_X4_planRound ⟨Nat.le_of_ble_eq_true rfl, Nat.le_of_ble_eq_true rfl⟩) hK hP hD hS hA [0, 1, 2, 3, 4, 5] [] [0, 1, 2, 3, 4, 5] rfl rfl rfl rfl rfl (by decide) rfl rfl rfl 0 rfl rfl rfl rfl hl.1 (rest := []) (st' := [.int (f_X4_planRound nl ho sn li sp sect)]) rfl rfl (Nat.le_of_ble_eq_true rfl) dX4_round_51 ⟨Nat.zero_le _, Nat.zero_le _⟩ (fun H locs hP hD hS => ?_)
        refine lv_istore_n (lv' := [(3, .int (f_X4_planRound nl ho sn li sp sect)), (0, .ref aO), (1, .int sect), (2, .int what)]) hx hb dX4_round_54 rfl hl (by decide) rfl (fun ls hl => ?_)
        refine lv_iload_n hx hb dX4_round_55 rfl (lv_at hl 3 rfl) ?_
        refine lv_if_ne (tgt := 63) hx hb dX4_round_56 (by decide) (fun c => absurd c2 c) (fun _ => ?_)
        refine lv_iload_n hx hb dX4_round_59 rfl (lv_at hl 0 rfl) ?_
        refine lv_goto (tgt := 72) hx hb dX4_round_60 (by decide) ?_
        have e_O_9 : (f_X4_round_O_9 rd nl sect what) = (rd + 1) := (by simp only [f_X4_round_O_9, if_neg c1, if_pos c2, if_pos c3])
        have e_S : (f_X4_round_S rd nl ho sn li sp sect what) = (f_X4_planRound_S nl ho sn li sp sect) := (by simp only [f_X4_round_S, if_neg c1, if_pos c2, if_pos c3])
        exact eXi hx hb hr hlk hQ (by rw [e_O_9, e_S]; exact hP) (by rw [e_O_9, e_S]; exact hD) hS dX4_round_72 (Eq.symm (by simp only [f_X4_round, if_neg c1, if_pos c2, if_pos c3]))
      · refine lv_bipush (v := (-103)) hx hb dX4_round_36 (by decide) ?_
        have e_O_9 : (f_X4_round_O_9 rd nl sect what) = rd := (by simp only [f_X4_round_O_9, if_neg c1, if_pos c2, if_neg c3])
        have e_S : (f_X4_round_S rd nl ho sn li sp sect what) = sp := (by simp only [f_X4_round_S, if_neg c1, if_pos c2, if_neg c3])
        exact eXi hx hb hr hlk hQ (by rw [e_O_9, e_S]; exact hP) (by rw [e_O_9, e_S]; exact hD) hS dX4_round_38 (Eq.symm (by simp only [f_X4_round, if_neg c1, if_pos c2, if_neg c3]))
    · refine lv_iload_n hx hb dX4_round_15 rfl (lv_at hl 2 rfl) ?_
      refine lv_bipush (v := 7) hx hb dX4_round_16 (by decide) ?_
      refine rS ⟨hx, hb, hml, hown, hts⟩ (c_X4_asksMinute l D cI 7 what) (va_cwS 2 hts gX4_round_X4_asksMinute rfl rfl rfl hd_X4_asksMinute ⟨Nat.le_of_ble_eq_true rfl, Nat.le_of_ble_eq_true rfl⟩) hK (hP.sub [] rfl) rfl hl.1 (rest := []) (st' := [.int (f_X4_asksMinute 7 what)]) rfl rfl (Nat.le_of_ble_eq_true rfl) dX4_round_18 ⟨Nat.zero_le _, Nat.zero_le _⟩ ?_
      refine lv_if_ne (tgt := 27) hx hb dX4_round_21 (by decide) (fun c4 => ?_) (fun c4 => ?_)
      · refine lv_aload_n hx hb dX4_round_27 rfl (lv_at hl 0 rfl) ?_
        refine va_get (D := D) (ci := 4) (v := .int rd) (C := RX4) (T := TX4) (N := 10) hx hb hts uX4 hown hK hP 0 rfl rfl 9 (by decide) w1 (fun _ h9 => h9) rfl dX4_round_28 ?_
        refine lv_bipush (v := 20) hx hb dX4_round_31 (by decide) ?_
        refine lv_icmp_lt (tgt := 39) hx hb dX4_round_33 (by decide) (fun c5 => ?_) (fun c5 => ?_)
        · refine lv_aload_n hx hb dX4_round_39 rfl (lv_at hl 0 rfl) ?_
          refine lv_dup hx hb dX4_round_40 rfl ?_
          refine va_get (D := D) (ci := 4) (v := .int rd) (C := RX4) (T := TX4) (N := 10) hx hb hts uX4 hown hK hP 0 rfl rfl 9 (by decide) w1 (fun _ h9 => h9) rfl dX4_round_41 ?_
          refine lv_iconst (v := 1) hx hb dX4_round_44 (by decide) ?_
          refine lv_iadd hx hb dX4_round_45 ?_
          refine va_put (D := D) (ci := 4) (v := .int (rd + 1)) (ty := .int) (C := RX4) (T := TX4) (N := 10) hx hb hts uX4 tyX4 tyX4_ok nmX4 hown hK hP hD hS 0 rfl rfl 9 (by decide) w1 (fun _ h9 => h9) rfl (by decide +kernel) rfl rfl (Nat.le_of_ble_eq_true rfl) dX4_round_46 (fun H locs hP hD hS => ?_)
          have hP : va_P D vwCl [(aO, .inr (4, [.ref aP, .ref aL, .ref aE, .ref aK, .ref aY, .ref aN, .ref aS, .int ik, .int ofr, .int (rd + 1)])), (aL, .inr (1, [.ref aLk, .ref aLh, .ref aLs, .int (nI nl)])), (aLh, .inl (cI, 6, .inl ho)), (aLs, .inl (cI, 6, .inl sn)), (aE, .inr (0, [.int li, .int mi, .int (nI pe), .ref aEs, .ref aEw, .ref aEd, .int to, .ref aEl, .ref aEt])), (aS, .inl (cI, 7, .inl sp))] H := hP
          have hD : va_D A [(aO, .inr (4, [.ref aP, .ref aL, .ref aE, .ref aK, .ref aY, .ref aN, .ref aS, .int ik, .int ofr, .int (rd + 1)])), (aL, .inr (1, [.ref aLk, .ref aLh, .ref aLs, .int (nI nl)])), (aLh, .inl (cI, 6, .inl ho)), (aLs, .inl (cI, 6, .inl sn)), (aE, .inr (0, [.int li, .int mi, .int (nI pe), .ref aEs, .ref aEw, .ref aEd, .int to, .ref aEl, .ref aEt])), (aS, .inl (cI, 7, .inl sp))] := hD
          refine lv_aload_n hx hb dX4_round_49 rfl (lv_at hl 0 rfl) ?_
          refine lv_iload_n hx hb dX4_round_50 rfl (lv_at hl 1 rfl) ?_
          refine xV (w2 := [(aO, .inr (4, [.ref aP, .ref aL, .ref aE, .ref aK, .ref aY, .ref aN, .ref aS, .int ik, .int ofr, .int (rd + 1)])), (aL, .inr (1, [.ref aLk, .ref aLh, .ref aLs, .int (nI nl)])), (aLh, .inl (cI, 6, .inl ho)), (aLs, .inl (cI, 6, .inl sn)), (aE, .inr (0, [.int li, .int mi, .int (nI pe), .ref aEs, .ref aEw, .ref aEd, .int to, .ref aEl, .ref aEt])), (aS, .inl (cI, 7, .inl (f_X4_planRound_S nl ho sn li sp sect)))]) ⟨hx, hb, hml, hown, hts⟩ (c_X4_planRound l D cI aO aP aL aLk aLh aLs aE aEs aEw aEd aEl aEt aK aY aN aS ik ofr (rd + 1) nl ho sn li mi pe to sp sect hn) (cwV 1 hts gX4_round_X4_planRound rfl rfl rfl hd_X4_planRound ⟨Nat.le_of_ble_eq_true rfl, Nat.le_of_ble_eq_true rfl⟩) hK hP hD hS hA [0, 1, 2, 3, 4, 5] [] [0, 1, 2, 3, 4, 5] rfl rfl rfl rfl rfl (by decide) rfl rfl rfl 0 rfl rfl rfl rfl hl.1 (rest := []) (st' := [.int (f_X4_planRound nl ho sn li sp sect)]) rfl rfl (Nat.le_of_ble_eq_true rfl) dX4_round_51 ⟨Nat.zero_le _, Nat.zero_le _⟩ (fun H locs hP hD hS => ?_)
          refine lv_istore_n (lv' := [(3, .int (f_X4_planRound nl ho sn li sp sect)), (0, .ref aO), (1, .int sect), (2, .int what)]) hx hb dX4_round_54 rfl hl (by decide) rfl (fun ls hl => ?_)
          refine lv_iload_n hx hb dX4_round_55 rfl (lv_at hl 3 rfl) ?_
          refine lv_if_ne (tgt := 63) hx hb dX4_round_56 (by decide) (fun _ => ?_) (fun c => absurd c c2)
          refine lv_aload_n hx hb dX4_round_63 rfl (lv_at hl 1 rfl) ?_
          refine va_get (D := D) (ci := 4) (v := .ref aS) (C := RX4) (T := TX4) (N := 10) hx hb hts uX4 hown hK hP 0 rfl rfl 6 (by decide) w2 (fun _ h9 => h9) rfl dX4_round_64 ?_
          refine lv_iload_n hx hb dX4_round_67 rfl (lv_at hl 0 rfl) ?_
          refine lv_iload_n hx hb dX4_round_68 rfl (lv_at hl 3 rfl) ?_
          refine rS ⟨hx, hb, hml, hown, hts⟩ (c_X4_ofMinute l D cI aS (f_X4_planRound_S nl ho sn li sp sect) 7 (f_X4_planRound nl ho sn li sp sect) what (by decide)) (va_cwS 3 hts gX4_round_X4_ofMinute rfl rfl rfl hd_X4_ofMinute ⟨Nat.le_of_ble_eq_true rfl, Nat.le_of_ble_eq_true rfl⟩) hK (hP.sub [5] rfl) rfl hl.1 (rest := []) (st' := [.int (f_X4_ofMinute (f_X4_planRound_S nl ho sn li sp sect) 7 (f_X4_planRound nl ho sn li sp sect) what)]) rfl rfl (Nat.le_of_ble_eq_true rfl) dX4_round_69 ⟨Nat.zero_le _, Nat.zero_le _⟩ ?_
          have e_O_9 : (f_X4_round_O_9 rd nl sect what) = (rd + 1) := (by simp only [f_X4_round_O_9, if_neg c1, if_neg c2, if_neg c4, if_pos c5])
          have e_S : (f_X4_round_S rd nl ho sn li sp sect what) = (f_X4_planRound_S nl ho sn li sp sect) := (by simp only [f_X4_round_S, if_neg c1, if_neg c2, if_neg c4, if_pos c5])
          exact eXi hx hb hr hlk hQ (by rw [e_O_9, e_S]; exact hP) (by rw [e_O_9, e_S]; exact hD) hS dX4_round_72 (Eq.symm (by simp only [f_X4_round, if_neg c1, if_neg c2, if_neg c4, if_pos c5]))
        · refine lv_bipush (v := (-103)) hx hb dX4_round_36 (by decide) ?_
          have e_O_9 : (f_X4_round_O_9 rd nl sect what) = rd := (by simp only [f_X4_round_O_9, if_neg c1, if_neg c2, if_neg c4, if_neg c5])
          have e_S : (f_X4_round_S rd nl ho sn li sp sect what) = sp := (by simp only [f_X4_round_S, if_neg c1, if_neg c2, if_neg c4, if_neg c5])
          exact eXi hx hb hr hlk hQ (by rw [e_O_9, e_S]; exact hP) (by rw [e_O_9, e_S]; exact hD) hS dX4_round_38 (Eq.symm (by simp only [f_X4_round, if_neg c1, if_neg c2, if_neg c4, if_neg c5]))
      · refine lv_bipush (v := (-102)) hx hb dX4_round_24 (by decide) ?_
        have e_O_9 : (f_X4_round_O_9 rd nl sect what) = rd := (by simp only [f_X4_round_O_9, if_neg c1, if_neg c2, if_pos c4])
        have e_S : (f_X4_round_S rd nl ho sn li sp sect what) = sp := (by simp only [f_X4_round_S, if_neg c1, if_neg c2, if_pos c4])
        exact eXi hx hb hr hlk hQ (by rw [e_O_9, e_S]; exact hP) (by rw [e_O_9, e_S]; exact hD) hS dX4_round_26 (Eq.symm (by simp only [f_X4_round, if_neg c1, if_neg c2, if_pos c4]))
  · refine lv_bipush (v := (-101)) hx hb dX4_round_8 (by decide) ?_
    have e_O_9 : (f_X4_round_O_9 rd nl sect what) = rd := (by simp only [f_X4_round_O_9, if_pos c1])
    have e_S : (f_X4_round_S rd nl ho sn li sp sect what) = sp := (by simp only [f_X4_round_S, if_pos c1])
    exact eXi hx hb hr hlk hQ (by rw [e_O_9, e_S]; exact hP) (by rw [e_O_9, e_S]; exact hD) hS dX4_round_10 (Eq.symm (by simp only [f_X4_round, if_pos c1]))

def rm_X4_digest : Room := { frames := 10, cells := 0, slots := 0, locals := 237 }
def f_X4_digest_55_Y_1 (pe : Nat) (zq : Int32) : Nat → Int32
  | 0 => zq
  | i3 + 1 => (f_X4_digestPerson_Y_1 pe i3)
def f_X4_digest_55_Ye (nl : Nat) (ho : Nat → Int32) (sn : Nat → Int32) (li : Int32) (pe : Nat) (sc : Nat → Int32) (tl : Nat → Int32) (td : Nat → Int32) (en : Nat → Int32) : Nat → (Nat → Int32)
  | 0 => en
  | i3 + 1 => (f_X4_digestPerson_Ye nl ho sn li pe sc tl td ((f_X4_digest_55_Ye nl ho sn li pe sc tl td en i3)) i3)
def f_X4_digest_20_v1 (nl : Nat) (kd : Nat → Int32) (ho : Nat → Int32) (sn : Nat → Int32) (li : Int32) (pe : Nat) (sc : Nat → Int32) (i1 : Nat) (o6_v1 : Int64) : Nat → Int64
  | 0 => o6_v1
  | i2 + 1 => ((31 * (f_X4_digest_20_v1 nl kd ho sn li pe sc i1 o6_v1 i2)) + (f_X4_lamp nl kd ho sn li pe sc (nI i1) (nI i2)).toInt64)
def f_X4_digest_6_v1 (nl : Nat) (kd : Nat → Int32) (ho : Nat → Int32) (sn : Nat → Int32) (li : Int32) (pe : Nat) (sc : Nat → Int32) : Nat → Int64
  | 0 => 911
  | i1 + 1 => (f_X4_digest_20_v1 nl kd ho sn li pe sc i1 (f_X4_digest_6_v1 nl kd ho sn li pe sc i1) 6)
def f_X4_digest_Y_1 (pe : Nat) (zq : Int32) : Int32 := (f_X4_digest_55_Y_1 pe zq pe)
def f_X4_digest_Ye (nl : Nat) (ho : Nat → Int32) (sn : Nat → Int32) (li : Int32) (pe : Nat) (sc : Nat → Int32) (tl : Nat → Int32) (td : Nat → Int32) (en : Nat → Int32) : Nat → Int32 := (f_X4_digest_55_Ye nl ho sn li pe sc tl td en pe)
def f_X4_digest_N (nl : Nat) (ho : Nat → Int32) (sn : Nat → Int32) (li : Int32) (pe : Nat) (sc : Nat → Int32) (pn : Nat → Int32) : Nat → Int32 := (if (f_X4_hasOffice nl) = 0 then pn else (f_X4_planWaving_N nl ho sn li pe sc pn 2))
def f_X4_digest_55_v1 (nl : Nat) (kd : Nat → Int32) (ho : Nat → Int32) (sn : Nat → Int32) (li : Int32) (pe : Nat) (sc : Nat → Int32) (wv : Nat → Int32) (dk : Nat → Int32) (tl : Nat → Int32) (td : Nat → Int32) (en : Nat → Int32) : Nat → Int64
  | 0 => (f_X4_digest_6_v1 nl kd ho sn li pe sc nl)
  | i3 + 1 => (f_X4_digestPerson nl ho sn li pe sc wv dk tl td ((f_X4_digest_55_Ye nl ho sn li pe sc tl td en i3)) ((f_X4_digest_55_v1 nl kd ho sn li pe sc wv dk tl td en i3)) i3)
def f_X4_digest_155_v1 (co : Nat → Int32) (z155_v1 : Int64) : Nat → Int64
  | 0 => z155_v1
  | i4 + 1 => ((31 * (f_X4_digest_155_v1 co z155_v1 i4)) + (co i4).toInt64)
def f_X4_digest_191_v1 (ofr : Int32) (rd : Int32) (pl : Nat) (nl : Nat) (li : Int32) (mi : Int32) (pe : Nat) (to : Int32) (sc : Nat → Int32) (wv : Nat → Int32) (dk : Nat → Int32) (z191_v1 : Int64) : Nat → Int64
  | 0 => z191_v1
  | i5 + 1 => ((31 * (f_X4_digest_191_v1 ofr rd pl nl li mi pe to sc wv dk z191_v1 i5)) + (f_X4_count ofr rd pl nl li mi pe to sc wv dk (nI i5)).toInt64)
def f_X4_digest (ofr : Int32) (rd : Int32) (pl : Nat) (co : Nat → Int32) (nl : Nat) (kd : Nat → Int32) (ho : Nat → Int32) (sn : Nat → Int32) (li : Int32) (mi : Int32) (pe : Nat) (to : Int32) (sc : Nat → Int32) (wv : Nat → Int32) (dk : Nat → Int32) (tl : Nat → Int32) (td : Nat → Int32) (en : Nat → Int32) (pn : Nat → Int32) : Int64 := (if (f_X4_hasOffice nl) = 0 then (f_X4_digest_191_v1 ofr rd pl nl li mi pe to sc wv dk ((f_X4_digest_155_v1 co ((f_X4_digest_55_v1 nl kd ho sn li pe sc wv dk tl td en pe)) pl)) 11) else (f_X4_digest_191_v1 ofr rd pl nl li mi pe to sc wv dk ((f_X4_digest_155_v1 co ((31 * ((31 * ((31 * ((31 * ((31 * (f_X4_digest_55_v1 nl kd ho sn li pe sc wv dk tl td en pe)) + (f_X4_planWaving nl ho sn li pe sc pn 2).toInt64)) + ((f_X4_planWaving_N nl ho sn li pe sc pn 2) 0).toInt64)) + ((f_X4_planWaving_N nl ho sn li pe sc pn 2) 1).toInt64)) + (f_X4_together nl sn 0).toInt64)) + (f_X4_together nl sn 1).toInt64) pl)) 11))
theorem hd_X4_digest : yX4_digest.cls = RX4 ∧ yX4_digest.cls ≠ "java/lang/invoke/MethodHandle" ∧ yX4_digest.cls ≠ "java/lang/invoke/VarHandle" ∧ (parseMethodDescriptor yX4_digest.desc).map (fun d => d.parameters.length) = some 0 := by decide +kernel
set_option maxHeartbeats 4000000 in
set_option maxRecDepth 100000 in
theorem c_X4_digest (l : Launch) (D : va_G) (cI : ClassId) (aO aP aPc aL aLk aLh aLs aE aEs aEw aEd aEl aEt aK aY aYe aN aS : Nat) (ik : Int32) (ofr : Int32) (rd : Int32) (pl : Nat) (co : Nat → Int32) (nl : Nat) (kd : Nat → Int32) (ho : Nat → Int32) (sn : Nat → Int32) (li : Int32) (mi : Int32) (pe : Nat) (to : Int32) (sc : Nat → Int32) (wv : Nat → Int32) (dk : Nat → Int32) (tl : Nat → Int32) (td : Nat → Int32) (zq : Int32) (en : Nat → Int32) (pn : Nat → Int32) (hn : nl ≤ 6) (hpe : pe ≤ 4) (hpl : pl ≤ 20) : MetX l yX4_digest wsX4_digest rm_X4_digest D cI [.ref aO] [(aO, .inr (4, [.ref aP, .ref aL, .ref aE, .ref aK, .ref aY, .ref aN, .ref aS, .int ik, .int ofr, .int rd])), (aP, .inr (2, [.ref aPc, .int (nI pl)])), (aPc, .inl (cI, 20, .inl co)), (aL, .inr (1, [.ref aLk, .ref aLh, .ref aLs, .int (nI nl)])), (aLk, .inl (cI, 6, .inl kd)), (aLh, .inl (cI, 6, .inl ho)), (aLs, .inl (cI, 6, .inl sn)), (aE, .inr (0, [.int li, .int mi, .int (nI pe), .ref aEs, .ref aEw, .ref aEd, .int to, .ref aEl, .ref aEt])), (aEs, .inl (cI, 4, .inl sc)), (aEw, .inl (cI, 4, .inl wv)), (aEd, .inl (cI, 4, .inl dk)), (aEl, .inl (cI, 7, .inl tl)), (aEt, .inl (cI, 7, .inl td)), (aY, .inr (3, [.ref aYe, .int zq])), (aYe, .inl (cI, 64, .inl en)), (aN, .inl (cI, 3, .inl pn))] (some (.long (f_X4_digest ofr rd pl co nl kd ho sn li mi pe to sc wv dk tl td en pn))) [(aO, .inr (4, [.ref aP, .ref aL, .ref aE, .ref aK, .ref aY, .ref aN, .ref aS, .int ik, .int ofr, .int rd])), (aP, .inr (2, [.ref aPc, .int (nI pl)])), (aPc, .inl (cI, 20, .inl co)), (aL, .inr (1, [.ref aLk, .ref aLh, .ref aLs, .int (nI nl)])), (aLk, .inl (cI, 6, .inl kd)), (aLh, .inl (cI, 6, .inl ho)), (aLs, .inl (cI, 6, .inl sn)), (aE, .inr (0, [.int li, .int mi, .int (nI pe), .ref aEs, .ref aEw, .ref aEd, .int to, .ref aEl, .ref aEt])), (aEs, .inl (cI, 4, .inl sc)), (aEw, .inl (cI, 4, .inl wv)), (aEd, .inl (cI, 4, .inl dk)), (aEl, .inl (cI, 7, .inl tl)), (aEt, .inl (cI, 7, .inl td)), (aY, .inr (3, [.ref aYe, .int (f_X4_digest_Y_1 pe zq)])), (aYe, .inl (cI, 64, .inl (f_X4_digest_Ye nl ho sn li pe sc tl td en))), (aN, .inl (cI, 3, .inl (f_X4_digest_N nl ho sn li pe sc pn)))] := by
  refine mX (cc := cX4_digest) (maxL := 5) (ret := (some .long)) (by decide) rfl (Nat.le_of_ble_eq_true rfl) ?_
  intro p e s m args below meth c Q A hx hb hr hml hown hts hlk hP hK hD hA hS hQ ls hl
  have hown : s.vm.findClass RX4 = some m.cls := hown
  have hl : lv_has ls 5 [(0, .ref aO)] := hl
  have w1 := hts (.constantLong RX4 210 (911)) (List.mem_of_getElem? (i := 1) rfl)
  have w2 := hts (.fieldLink RX4 19 "DarkOffice" "lamps" "LDarkOffice$Lamps;") (List.mem_of_getElem? (i := 2) rfl)
  have uX4 : ∀ w ∈ wsX40, w ∈ wsX4_digest := fun _ h => List.mem_cons_of_mem _ (List.mem_append_left _ (List.mem_append_left _ (List.mem_append_left _ (List.mem_append_left _ (List.mem_append_right _ h)))))
  have w3 := hts (.fieldLink RX4 77 "DarkOffice$Lamps" "size" "I") (List.mem_of_getElem? (i := 3) rfl)
  have uX1 : ∀ w ∈ wsX10, w ∈ wsX4_digest := fun _ h => List.mem_cons_of_mem _ (List.mem_append_left _ (List.mem_append_left _ (List.mem_append_left _ (List.mem_append_right _ h))))
  have w5 := hts (.fieldLink RX4 26 "DarkOffice" "now" "LDarkOffice$Evening;") (List.mem_of_getElem? (i := 5) rfl)
  have w6 := hts (.fieldLink RX4 125 "DarkOffice$Evening" "people" "I") (List.mem_of_getElem? (i := 6) rfl)
  have uX0 : ∀ w ∈ wsX00, w ∈ wsX4_digest := fun _ h => List.mem_cons_of_mem _ (List.mem_append_left _ (List.mem_append_left _ (List.mem_append_right _ h)))
  have w8 := hts (.fieldLink RX4 10 "DarkOffice" "page" "LDarkOffice$Page;") (List.mem_of_getElem? (i := 8) rfl)
  have w9 := hts (.fieldLink RX4 51 "DarkOffice$Page" "length" "I") (List.mem_of_getElem? (i := 9) rfl)
  have uX2 : ∀ w ∈ wsX20, w ∈ wsX4_digest := fun _ h => List.mem_cons_of_mem _ (List.mem_append_left _ (List.mem_append_right _ h))
  have w4 := hts (.constantLong RX4 212 (31)) (List.mem_of_getElem? (i := 4) rfl)
  have w10 := hts (.fieldLink RX4 224 "DarkOffice$Page" "codes" "[I") (List.mem_of_getElem? (i := 10) rfl)
  have w7 := hts (.fieldLink RX4 40 "DarkOffice" "plan" "[I") (List.mem_of_getElem? (i := 7) rfl)
  refine lv_ldc2 (v := 911) hx hb hown w1 dX4_digest_0 ?_
  refine lv_lstore_n (lv' := [(1, .long 911), (0, .ref aO)]) hx hb dX4_digest_3 rfl hl (by decide) rfl (fun ls hl => ?_)
  refine lv_iconst (v := 0) hx hb dX4_digest_4 (by decide) ?_
  refine lv_istore_n (lv' := [(3, .int 0), (1, .long 911), (0, .ref aO)]) hx hb dX4_digest_5 rfl hl (by decide) rfl (fun ls hl => ?_)
  have lp6 : ∀ (k6 i1 : Nat), i1 + k6 = nl → ∀ (H : Heap) (locs : List Loc), va_P D vwCl [(aO, .inr (4, [.ref aP, .ref aL, .ref aE, .ref aK, .ref aY, .ref aN, .ref aS, .int ik, .int ofr, .int rd])), (aP, .inr (2, [.ref aPc, .int (nI pl)])), (aPc, .inl (cI, 20, .inl co)), (aL, .inr (1, [.ref aLk, .ref aLh, .ref aLs, .int (nI nl)])), (aLk, .inl (cI, 6, .inl kd)), (aLh, .inl (cI, 6, .inl ho)), (aLs, .inl (cI, 6, .inl sn)), (aE, .inr (0, [.int li, .int mi, .int (nI pe), .ref aEs, .ref aEw, .ref aEd, .int to, .ref aEl, .ref aEt])), (aEs, .inl (cI, 4, .inl sc)), (aEw, .inl (cI, 4, .inl wv)), (aEd, .inl (cI, 4, .inl dk)), (aEl, .inl (cI, 7, .inl tl)), (aEt, .inl (cI, 7, .inl td)), (aY, .inr (3, [.ref aYe, .int zq])), (aYe, .inl (cI, 64, .inl en)), (aN, .inl (cI, 3, .inl pn))] H → va_D A [(aO, .inr (4, [.ref aP, .ref aL, .ref aE, .ref aK, .ref aY, .ref aN, .ref aS, .int ik, .int ofr, .int rd])), (aP, .inr (2, [.ref aPc, .int (nI pl)])), (aPc, .inl (cI, 20, .inl co)), (aL, .inr (1, [.ref aLk, .ref aLh, .ref aLs, .int (nI nl)])), (aLk, .inl (cI, 6, .inl kd)), (aLh, .inl (cI, 6, .inl ho)), (aLs, .inl (cI, 6, .inl sn)), (aE, .inr (0, [.int li, .int mi, .int (nI pe), .ref aEs, .ref aEw, .ref aEd, .int to, .ref aEl, .ref aEt])), (aEs, .inl (cI, 4, .inl sc)), (aEw, .inl (cI, 4, .inl wv)), (aEd, .inl (cI, 4, .inl dk)), (aEl, .inl (cI, 7, .inl tl)), (aEt, .inl (cI, 7, .inl td)), (aY, .inr (3, [.ref aYe, .int zq])), (aYe, .inl (cI, 64, .inl en)), (aN, .inl (cI, 3, .inl pn))] → va_S A s.heap H locs → ∀ ls : Array Slot, lv_has ls 5 [(0, .ref aO), (1, .long ((f_X4_digest_6_v1 nl kd ho sn li pe sc i1))), (3, .int (nI i1))] → W p l e rm_X4_digest s m args below meth c H locs 0 0 Q (F0 m 6 ls []) := by
    intro k6
    induction k6 with
    | zero =>
      intro i1 hk6 H locs hP hD hS ls hl
      have hN6 : nl = i1 := by omega
      subst hN6
      refine lv_iload_n hx hb dX4_digest_6 rfl (lv_at hl 2 rfl) ?_
      refine lv_aload_n hx hb dX4_digest_7 rfl (lv_at hl 0 rfl) ?_
      refine va_get (D := D) (ci := 4) (v := .ref aL) (C := RX4) (T := TX4) (N := 10) hx hb hts uX4 hown hK hP 0 rfl rfl 1 (by decide) w2 (fun _ h9 => h9) rfl dX4_digest_8 ?_
      refine va_get (D := D) (ci := 1) (v := .int (nI nl)) (C := RX1) (T := TX1) (N := 4) hx hb hts uX1 hown hK hP 3 rfl rfl 3 (by decide) w3 (fun _ h9 => h9) rfl dX4_digest_11 ?_
      refine lv_icmp_ge (tgt := 53) hx hb dX4_digest_14 (by decide) (fun _ => ?_) (fun c => absurd (nle_t (a := nl) (b := nl) rfl rfl (by omega) (by omega) (by omega)) c)
      refine lv_iconst (v := 0) hx hb dX4_digest_53 (by decide) ?_
      refine lv_istore_n (lv' := [(3, .int 0), (0, .ref aO), (1, .long ((f_X4_digest_6_v1 nl kd ho sn li pe sc nl)))]) hx hb dX4_digest_54 rfl hl (by decide) rfl (fun ls hl => ?_)
      have lp55 : ∀ (k55 i3 : Nat), i3 + k55 = pe → ∀ (H : Heap) (locs : List Loc), va_P D vwCl [(aO, .inr (4, [.ref aP, .ref aL, .ref aE, .ref aK, .ref aY, .ref aN, .ref aS, .int ik, .int ofr, .int rd])), (aP, .inr (2, [.ref aPc, .int (nI pl)])), (aPc, .inl (cI, 20, .inl co)), (aL, .inr (1, [.ref aLk, .ref aLh, .ref aLs, .int (nI nl)])), (aLk, .inl (cI, 6, .inl kd)), (aLh, .inl (cI, 6, .inl ho)), (aLs, .inl (cI, 6, .inl sn)), (aE, .inr (0, [.int li, .int mi, .int (nI pe), .ref aEs, .ref aEw, .ref aEd, .int to, .ref aEl, .ref aEt])), (aEs, .inl (cI, 4, .inl sc)), (aEw, .inl (cI, 4, .inl wv)), (aEd, .inl (cI, 4, .inl dk)), (aEl, .inl (cI, 7, .inl tl)), (aEt, .inl (cI, 7, .inl td)), (aY, .inr (3, [.ref aYe, .int ((f_X4_digest_55_Y_1 pe zq i3))])), (aYe, .inl (cI, 64, .inl ((f_X4_digest_55_Ye nl ho sn li pe sc tl td en i3)))), (aN, .inl (cI, 3, .inl pn))] H → va_D A [(aO, .inr (4, [.ref aP, .ref aL, .ref aE, .ref aK, .ref aY, .ref aN, .ref aS, .int ik, .int ofr, .int rd])), (aP, .inr (2, [.ref aPc, .int (nI pl)])), (aPc, .inl (cI, 20, .inl co)), (aL, .inr (1, [.ref aLk, .ref aLh, .ref aLs, .int (nI nl)])), (aLk, .inl (cI, 6, .inl kd)), (aLh, .inl (cI, 6, .inl ho)), (aLs, .inl (cI, 6, .inl sn)), (aE, .inr (0, [.int li, .int mi, .int (nI pe), .ref aEs, .ref aEw, .ref aEd, .int to, .ref aEl, .ref aEt])), (aEs, .inl (cI, 4, .inl sc)), (aEw, .inl (cI, 4, .inl wv)), (aEd, .inl (cI, 4, .inl dk)), (aEl, .inl (cI, 7, .inl tl)), (aEt, .inl (cI, 7, .inl td)), (aY, .inr (3, [.ref aYe, .int ((f_X4_digest_55_Y_1 pe zq i3))])), (aYe, .inl (cI, 64, .inl ((f_X4_digest_55_Ye nl ho sn li pe sc tl td en i3)))), (aN, .inl (cI, 3, .inl pn))] → va_S A s.heap H locs → ∀ ls : Array Slot, lv_has ls 5 [(0, .ref aO), (1, .long ((f_X4_digest_55_v1 nl kd ho sn li pe sc wv dk tl td en i3))), (3, .int (nI i3))] → W p l e rm_X4_digest s m args below meth c H locs 0 0 Q (F0 m 55 ls []) := by
        intro k55
        induction k55 with
        | zero =>
          intro i3 hk55 H locs hP hD hS ls hl
          have hN55 : pe = i3 := by omega
          subst hN55
          refine lv_iload_n hx hb dX4_digest_55 rfl (lv_at hl 2 rfl) ?_
          refine lv_aload_n hx hb dX4_digest_56 rfl (lv_at hl 0 rfl) ?_
          refine va_get (D := D) (ci := 4) (v := .ref aE) (C := RX4) (T := TX4) (N := 10) hx hb hts uX4 hown hK hP 0 rfl rfl 2 (by decide) w5 (fun _ h9 => h9) rfl dX4_digest_57 ?_
          refine va_get (D := D) (ci := 0) (v := .int (nI pe)) (C := RX0) (T := TX0) (N := 9) hx hb hts uX0 hown hK hP 7 rfl rfl 2 (by decide) w6 (fun _ h9 => h9) rfl dX4_digest_60 ?_
          refine lv_icmp_ge (tgt := 79) hx hb dX4_digest_63 (by decide) (fun _ => ?_) (fun c => absurd (nle_t (a := pe) (b := pe) rfl rfl (by omega) (by omega) (by omega)) c)
          refine lv_aload_n hx hb dX4_digest_79 rfl (lv_at hl 0 rfl) ?_
          refine rV ⟨hx, hb, hml, hown, hts⟩ (c_X4_hasOffice l D cI aO aP aL aLk aLh aLs aE aK aY aN aS ik ofr rd nl hn) (cwV 0 hts gX4_digest_X4_hasOffice rfl rfl rfl hd_X4_hasOffice ⟨Nat.le_of_ble_eq_true rfl, Nat.le_of_ble_eq_true rfl⟩) hK (hP.sub [0, 3] rfl) 0 rfl rfl rfl rfl hl.1 (rest := []) (st' := [.int (f_X4_hasOffice nl)]) rfl rfl (Nat.le_of_ble_eq_true rfl) dX4_digest_80 ⟨Nat.zero_le _, Nat.zero_le _⟩ ?_
          refine lv_if_eq (tgt := 153) hx hb dX4_digest_83 (by decide) (fun c1 => ?_) (fun c1 => ?_)
          · refine lv_iconst (v := 0) hx hb dX4_digest_153 (by decide) ?_
            refine lv_istore_n (lv' := [(3, .int 0), (0, .ref aO), (1, .long ((f_X4_digest_55_v1 nl kd ho sn li pe sc wv dk tl td en pe)))]) hx hb dX4_digest_154 rfl hl (by decide) rfl (fun ls hl => ?_)
            have lp155 : ∀ (k155 i4 : Nat), i4 + k155 = pl → ∀ (H : Heap) (locs : List Loc), va_P D vwCl [(aO, .inr (4, [.ref aP, .ref aL, .ref aE, .ref aK, .ref aY, .ref aN, .ref aS, .int ik, .int ofr, .int rd])), (aP, .inr (2, [.ref aPc, .int (nI pl)])), (aPc, .inl (cI, 20, .inl co)), (aL, .inr (1, [.ref aLk, .ref aLh, .ref aLs, .int (nI nl)])), (aLk, .inl (cI, 6, .inl kd)), (aLh, .inl (cI, 6, .inl ho)), (aLs, .inl (cI, 6, .inl sn)), (aE, .inr (0, [.int li, .int mi, .int (nI pe), .ref aEs, .ref aEw, .ref aEd, .int to, .ref aEl, .ref aEt])), (aEs, .inl (cI, 4, .inl sc)), (aEw, .inl (cI, 4, .inl wv)), (aEd, .inl (cI, 4, .inl dk)), (aEl, .inl (cI, 7, .inl tl)), (aEt, .inl (cI, 7, .inl td)), (aY, .inr (3, [.ref aYe, .int ((f_X4_digest_55_Y_1 pe zq pe))])), (aYe, .inl (cI, 64, .inl ((f_X4_digest_55_Ye nl ho sn li pe sc tl td en pe)))), (aN, .inl (cI, 3, .inl pn))] H → va_D A [(aO, .inr (4, [.ref aP, .ref aL, .ref aE, .ref aK, .ref aY, .ref aN, .ref aS, .int ik, .int ofr, .int rd])), (aP, .inr (2, [.ref aPc, .int (nI pl)])), (aPc, .inl (cI, 20, .inl co)), (aL, .inr (1, [.ref aLk, .ref aLh, .ref aLs, .int (nI nl)])), (aLk, .inl (cI, 6, .inl kd)), (aLh, .inl (cI, 6, .inl ho)), (aLs, .inl (cI, 6, .inl sn)), (aE, .inr (0, [.int li, .int mi, .int (nI pe), .ref aEs, .ref aEw, .ref aEd, .int to, .ref aEl, .ref aEt])), (aEs, .inl (cI, 4, .inl sc)), (aEw, .inl (cI, 4, .inl wv)), (aEd, .inl (cI, 4, .inl dk)), (aEl, .inl (cI, 7, .inl tl)), (aEt, .inl (cI, 7, .inl td)), (aY, .inr (3, [.ref aYe, .int ((f_X4_digest_55_Y_1 pe zq pe))])), (aYe, .inl (cI, 64, .inl ((f_X4_digest_55_Ye nl ho sn li pe sc tl td en pe)))), (aN, .inl (cI, 3, .inl pn))] → va_S A s.heap H locs → ∀ ls : Array Slot, lv_has ls 5 [(0, .ref aO), (1, .long ((f_X4_digest_155_v1 co ((f_X4_digest_55_v1 nl kd ho sn li pe sc wv dk tl td en pe)) i4))), (3, .int (nI i4))] → W p l e rm_X4_digest s m args below meth c H locs 0 0 Q (F0 m 155 ls []) := by
              intro k155
              induction k155 with
              | zero =>
                intro i4 hk155 H locs hP hD hS ls hl
                have hN155 : pl = i4 := by omega
                subst hN155
                refine lv_iload_n hx hb dX4_digest_155 rfl (lv_at hl 2 rfl) ?_
                refine lv_aload_n hx hb dX4_digest_156 rfl (lv_at hl 0 rfl) ?_
                refine va_get (D := D) (ci := 4) (v := .ref aP) (C := RX4) (T := TX4) (N := 10) hx hb hts uX4 hown hK hP 0 rfl rfl 0 (by decide) w8 (fun _ h9 => h9) rfl dX4_digest_157 ?_
                refine va_get (D := D) (ci := 2) (v := .int (nI pl)) (C := RX2) (T := TX2) (N := 2) hx hb hts uX2 hown hK hP 1 rfl rfl 1 (by decide) w9 (fun _ h9 => h9) rfl dX4_digest_160 ?_
                refine lv_icmp_ge (tgt := 189) hx hb dX4_digest_163 (by decide) (fun _ => ?_) (fun c => absurd (nle_t (a := pl) (b := pl) rfl rfl (by omega) (by omega) (by omega)) c)
                refine lv_iconst (v := 0) hx hb dX4_digest_189 (by decide) ?_
                refine lv_istore_n (lv' := [(3, .int 0), (0, .ref aO), (1, .long ((f_X4_digest_155_v1 co ((f_X4_digest_55_v1 nl kd ho sn li pe sc wv dk tl td en pe)) pl)))]) hx hb dX4_digest_190 rfl hl (by decide) rfl (fun ls hl => ?_)
                have lp191 : ∀ (k191 i5 : Nat), i5 + k191 = 11 → ∀ (H : Heap) (locs : List Loc), va_P D vwCl [(aO, .inr (4, [.ref aP, .ref aL, .ref aE, .ref aK, .ref aY, .ref aN, .ref aS, .int ik, .int ofr, .int rd])), (aP, .inr (2, [.ref aPc, .int (nI pl)])), (aPc, .inl (cI, 20, .inl co)), (aL, .inr (1, [.ref aLk, .ref aLh, .ref aLs, .int (nI nl)])), (aLk, .inl (cI, 6, .inl kd)), (aLh, .inl (cI, 6, .inl ho)), (aLs, .inl (cI, 6, .inl sn)), (aE, .inr (0, [.int li, .int mi, .int (nI pe), .ref aEs, .ref aEw, .ref aEd, .int to, .ref aEl, .ref aEt])), (aEs, .inl (cI, 4, .inl sc)), (aEw, .inl (cI, 4, .inl wv)), (aEd, .inl (cI, 4, .inl dk)), (aEl, .inl (cI, 7, .inl tl)), (aEt, .inl (cI, 7, .inl td)), (aY, .inr (3, [.ref aYe, .int ((f_X4_digest_55_Y_1 pe zq pe))])), (aYe, .inl (cI, 64, .inl ((f_X4_digest_55_Ye nl ho sn li pe sc tl td en pe)))), (aN, .inl (cI, 3, .inl pn))] H → va_D A [(aO, .inr (4, [.ref aP, .ref aL, .ref aE, .ref aK, .ref aY, .ref aN, .ref aS, .int ik, .int ofr, .int rd])), (aP, .inr (2, [.ref aPc, .int (nI pl)])), (aPc, .inl (cI, 20, .inl co)), (aL, .inr (1, [.ref aLk, .ref aLh, .ref aLs, .int (nI nl)])), (aLk, .inl (cI, 6, .inl kd)), (aLh, .inl (cI, 6, .inl ho)), (aLs, .inl (cI, 6, .inl sn)), (aE, .inr (0, [.int li, .int mi, .int (nI pe), .ref aEs, .ref aEw, .ref aEd, .int to, .ref aEl, .ref aEt])), (aEs, .inl (cI, 4, .inl sc)), (aEw, .inl (cI, 4, .inl wv)), (aEd, .inl (cI, 4, .inl dk)), (aEl, .inl (cI, 7, .inl tl)), (aEt, .inl (cI, 7, .inl td)), (aY, .inr (3, [.ref aYe, .int ((f_X4_digest_55_Y_1 pe zq pe))])), (aYe, .inl (cI, 64, .inl ((f_X4_digest_55_Ye nl ho sn li pe sc tl td en pe)))), (aN, .inl (cI, 3, .inl pn))] → va_S A s.heap H locs → ∀ ls : Array Slot, lv_has ls 5 [(0, .ref aO), (1, .long ((f_X4_digest_191_v1 ofr rd pl nl li mi pe to sc wv dk ((f_X4_digest_155_v1 co ((f_X4_digest_55_v1 nl kd ho sn li pe sc wv dk tl td en pe)) pl)) i5))), (3, .int (nI i5))] → W p l e rm_X4_digest s m args below meth c H locs 0 0 Q (F0 m 191 ls []) := by
                  intro k191
                  induction k191 with
                  | zero =>
                    intro i5 hk191 H locs hP hD hS ls hl
                    have hN191 : 11 = i5 := by omega
                    subst hN191
                    refine lv_iload_n hx hb dX4_digest_191 rfl (lv_at hl 2 rfl) ?_
                    refine lv_bipush (v := 10) hx hb dX4_digest_192 (by decide) ?_
                    refine lv_icmp_gt (tgt := 216) hx hb dX4_digest_194 (by decide) (fun _ => ?_) (fun c => absurd (nlt_t (a := 10) (b := 11) rfl rfl (by omega) (by omega) (by omega)) c)
                    refine lv_lload_n hx hb dX4_digest_216 rfl (lv_at hl 1 rfl) ?_
                    have e_Y_1 : (f_X4_digest_Y_1 pe zq) = (f_X4_digest_55_Y_1 pe zq pe) := (by simp only [f_X4_digest_Y_1, if_pos c1])
                    have e_Ye : (f_X4_digest_Ye nl ho sn li pe sc tl td en) = (f_X4_digest_55_Ye nl ho sn li pe sc tl td en pe) := (by simp only [f_X4_digest_Ye, if_pos c1])
                    have e_N : (f_X4_digest_N nl ho sn li pe sc pn) = pn := (by simp only [f_X4_digest_N, if_pos c1])
                    exact eXl hx hb hr hlk hQ (by rw [e_Y_1, e_Ye, e_N]; exact hP) (by rw [e_Y_1, e_Ye, e_N]; exact hD) hS dX4_digest_217 (Eq.symm (by simp only [f_X4_digest, if_pos c1]))
                  | succ k191 ih191 =>
                    intro i5 hk191 H locs hP hD hS ls hl
                    refine lv_iload_n hx hb dX4_digest_191 rfl (lv_at hl 2 rfl) ?_
                    refine lv_bipush (v := 10) hx hb dX4_digest_192 (by decide) ?_
                    refine lv_icmp_gt (tgt := 216) hx hb dX4_digest_194 (by decide) (fun c => absurd c (nlt_f (a := 10) (b := i5) rfl rfl (by omega) (by omega) (by omega))) (fun _ => ?_)
                    refine lv_ldc2 (v := 31) hx hb hown w4 dX4_digest_197 ?_
                    refine lv_lload_n hx hb dX4_digest_200 rfl (lv_at hl 1 rfl) ?_
                    refine lv_lmul hx hb dX4_digest_201 ?_
                    refine lv_aload_n hx hb dX4_digest_202 rfl (lv_at hl 0 rfl) ?_
                    refine lv_iload_n hx hb dX4_digest_203 rfl (lv_at hl 2 rfl) ?_
                    refine rV ⟨hx, hb, hml, hown, hts⟩ (c_X4_count l D cI aO aP aPc aL aLk aLh aLs aE aEs aEw aEd aEl aEt aK aY aN aS ik ofr rd pl nl li mi pe to sc wv dk (nI i5) hn hpe) (cwV 1 hts gX4_digest_X4_count rfl rfl rfl hd_X4_count ⟨Nat.le_of_ble_eq_true rfl, Nat.le_of_ble_eq_true rfl⟩) hK (hP.sub [0, 1, 3, 7, 8, 9, 10] rfl) 0 rfl rfl rfl rfl hl.1 (rest := [.long (31 * (f_X4_digest_191_v1 ofr rd pl nl li mi pe to sc wv dk ((f_X4_digest_155_v1 co ((f_X4_digest_55_v1 nl kd ho sn li pe sc wv dk tl td en pe)) pl)) i5))]) (st' := [.int (f_X4_count ofr rd pl nl li mi pe to sc wv dk (nI i5)), .long (31 * (f_X4_digest_191_v1 ofr rd pl nl li mi pe to sc wv dk ((f_X4_digest_155_v1 co ((f_X4_digest_55_v1 nl kd ho sn li pe sc wv dk tl td en pe)) pl)) i5))]) rfl rfl (Nat.le_of_ble_eq_true rfl) dX4_digest_204 ⟨Nat.zero_le _, Nat.zero_le _⟩ ?_
                    refine lv_i2l (v := (f_X4_count ofr rd pl nl li mi pe to sc wv dk (nI i5)).toInt64) hx hb dX4_digest_207 rfl ?_
                    refine lv_ladd hx hb dX4_digest_208 ?_
                    refine lv_lstore_n (lv' := [(1, .long ((31 * (f_X4_digest_191_v1 ofr rd pl nl li mi pe to sc wv dk ((f_X4_digest_155_v1 co ((f_X4_digest_55_v1 nl kd ho sn li pe sc wv dk tl td en pe)) pl)) i5)) + (f_X4_count ofr rd pl nl li mi pe to sc wv dk (nI i5)).toInt64)), (0, .ref aO), (3, .int (nI i5))]) hx hb dX4_digest_209 rfl hl (by decide) rfl (fun ls hl => ?_)
                    refine lv_iinc (v := nI (i5 + 1)) (lv' := [(3, .int (nI (i5 + 1))), (1, .long ((31 * (f_X4_digest_191_v1 ofr rd pl nl li mi pe to sc wv dk ((f_X4_digest_155_v1 co ((f_X4_digest_55_v1 nl kd ho sn li pe sc wv dk tl td en pe)) pl)) i5)) + (f_X4_count ofr rd pl nl li mi pe to sc wv dk (nI i5)).toInt64)), (0, .ref aO)]) hx hb dX4_digest_210 hl (k := 2) rfl (nI_add i5 1) (by decide) rfl (fun ls hl => ?_)
                    refine lv_goto (tgt := 191) hx hb dX4_digest_213 (by decide) ?_
                    have e_v1 : (f_X4_digest_191_v1 ofr rd pl nl li mi pe to sc wv dk ((f_X4_digest_155_v1 co ((f_X4_digest_55_v1 nl kd ho sn li pe sc wv dk tl td en pe)) pl)) (i5 + 1)) = ((31 * (f_X4_digest_191_v1 ofr rd pl nl li mi pe to sc wv dk ((f_X4_digest_155_v1 co ((f_X4_digest_55_v1 nl kd ho sn li pe sc wv dk tl td en pe)) pl)) i5)) + (f_X4_count ofr rd pl nl li mi pe to sc wv dk (nI i5)).toInt64) := (by simp only [f_X4_digest_191_v1])
                    exact ih191 (i5 + 1) (by omega) _ _ (hP) (hD) hS ls (by rw [e_v1]; exact lv_sub hl [2, 1, 0] rfl)
                exact lp191 11 0 (by omega) _ _ hP hD hS ls (lv_sub hl [1, 2, 0] rfl)
              | succ k155 ih155 =>
                intro i4 hk155 H locs hP hD hS ls hl
                refine lv_iload_n hx hb dX4_digest_155 rfl (lv_at hl 2 rfl) ?_
                refine lv_aload_n hx hb dX4_digest_156 rfl (lv_at hl 0 rfl) ?_
                refine va_get (D := D) (ci := 4) (v := .ref aP) (C := RX4) (T := TX4) (N := 10) hx hb hts uX4 hown hK hP 0 rfl rfl 0 (by decide) w8 (fun _ h9 => h9) rfl dX4_digest_157 ?_
                refine va_get (D := D) (ci := 2) (v := .int (nI pl)) (C := RX2) (T := TX2) (N := 2) hx hb hts uX2 hown hK hP 1 rfl rfl 1 (by decide) w9 (fun _ h9 => h9) rfl dX4_digest_160 ?_
                refine lv_icmp_ge (tgt := 189) hx hb dX4_digest_163 (by decide) (fun c => absurd c (nle_f (a := pl) (b := i4) rfl rfl (by omega) (by omega) (by omega))) (fun _ => ?_)
                refine lv_ldc2 (v := 31) hx hb hown w4 dX4_digest_166 ?_
                refine lv_lload_n hx hb dX4_digest_169 rfl (lv_at hl 1 rfl) ?_
                refine lv_lmul hx hb dX4_digest_170 ?_
                refine lv_aload_n hx hb dX4_digest_171 rfl (lv_at hl 0 rfl) ?_
                refine va_get (D := D) (ci := 4) (v := .ref aP) (C := RX4) (T := TX4) (N := 10) hx hb hts uX4 hown hK hP 0 rfl rfl 0 (by decide) w8 (fun _ h9 => h9) rfl dX4_digest_172 ?_
                refine va_get (D := D) (ci := 2) (v := .ref aPc) (C := RX2) (T := TX2) (N := 2) hx hb hts uX2 hown hK hP 1 rfl rfl 0 (by decide) w10 (fun _ h9 => h9) rfl dX4_digest_175 ?_
                refine lv_iload_n hx hb dX4_digest_178 rfl (lv_at hl 2 rfl) ?_
                refine xald hx hb hK hP 2 rfl i4 rfl (by omega) (by decide) dX4_digest_179 ?_
                refine lv_i2l (v := (co i4).toInt64) hx hb dX4_digest_180 rfl ?_
                refine lv_ladd hx hb dX4_digest_181 ?_
                refine lv_lstore_n (lv' := [(1, .long ((31 * (f_X4_digest_155_v1 co ((f_X4_digest_55_v1 nl kd ho sn li pe sc wv dk tl td en pe)) i4)) + (co i4).toInt64)), (0, .ref aO), (3, .int (nI i4))]) hx hb dX4_digest_182 rfl hl (by decide) rfl (fun ls hl => ?_)
                refine lv_iinc (v := nI (i4 + 1)) (lv' := [(3, .int (nI (i4 + 1))), (1, .long ((31 * (f_X4_digest_155_v1 co ((f_X4_digest_55_v1 nl kd ho sn li pe sc wv dk tl td en pe)) i4)) + (co i4).toInt64)), (0, .ref aO)]) hx hb dX4_digest_183 hl (k := 2) rfl (nI_add i4 1) (by decide) rfl (fun ls hl => ?_)
                refine lv_goto (tgt := 155) hx hb dX4_digest_186 (by decide) ?_
                have e_v1 : (f_X4_digest_155_v1 co ((f_X4_digest_55_v1 nl kd ho sn li pe sc wv dk tl td en pe)) (i4 + 1)) = ((31 * (f_X4_digest_155_v1 co ((f_X4_digest_55_v1 nl kd ho sn li pe sc wv dk tl td en pe)) i4)) + (co i4).toInt64) := (by simp only [f_X4_digest_155_v1])
                exact ih155 (i4 + 1) (by omega) _ _ (hP) (hD) hS ls (by rw [e_v1]; exact lv_sub hl [2, 1, 0] rfl)
            exact lp155 pl 0 (by omega) _ _ hP hD hS ls (lv_sub hl [1, 2, 0] rfl)
          · refine lv_ldc2 (v := 31) hx hb hown w4 dX4_digest_86 ?_
            refine lv_lload_n hx hb dX4_digest_89 rfl (lv_at hl 1 rfl) ?_
            refine lv_lmul hx hb dX4_digest_90 ?_
            refine lv_aload_n hx hb dX4_digest_91 rfl (lv_at hl 0 rfl) ?_
            refine lv_iconst (v := 2) hx hb dX4_digest_92 (by decide) ?_
            refine xV (w2 := [(aO, .inr (4, [.ref aP, .ref aL, .ref aE, .ref aK, .ref aY, .ref aN, .ref aS, .int ik, .int ofr, .int rd])), (aP, .inr (2, [.ref aPc, .int (nI pl)])), (aPc, .inl (cI, 20, .inl co)), (aL, .inr (1, [.ref aLk, .ref aLh, .ref aLs, .int (nI nl)])), (aLk, .inl (cI, 6, .inl kd)), (aLh, .inl (cI, 6, .inl ho)), (aLs, .inl (cI, 6, .inl sn)), (aE, .inr (0, [.int li, .int mi, .int (nI pe), .ref aEs, .ref aEw, .ref aEd, .int to, .ref aEl, .ref aEt])), (aEs, .inl (cI, 4, .inl sc)), (aEw, .inl (cI, 4, .inl wv)), (aEd, .inl (cI, 4, .inl dk)), (aEl, .inl (cI, 7, .inl tl)), (aEt, .inl (cI, 7, .inl td)), (aY, .inr (3, [.ref aYe, .int ((f_X4_digest_55_Y_1 pe zq pe))])), (aYe, .inl (cI, 64, .inl ((f_X4_digest_55_Ye nl ho sn li pe sc tl td en pe)))), (aN, .inl (cI, 3, .inl (f_X4_planWaving_N nl ho sn li pe sc pn 2)))]) ⟨hx, hb, hml, hown, hts⟩ (c_X4_planWaving l D cI aO aP aL aLk aLh aLs aE aEs aEw aEd aEl aEt aK aY aN aS ik ofr rd nl ho sn li mi pe to sc pn 2 hn hpe (by decide)) (cwV 1 hts gX4_digest_X4_planWaving rfl rfl rfl hd_X4_planWaving ⟨Nat.le_of_ble_eq_true rfl, Nat.le_of_ble_eq_true rfl⟩) hK hP hD hS hA [0, 3, 5, 6, 7, 8, 15] [1, 2, 4, 9, 10, 11, 12, 13, 14] [9, 0, 1, 10, 2, 11, 12, 13, 14, 3, 4, 5, 6, 7, 8, 15] rfl rfl rfl rfl rfl (by decide) rfl rfl rfl 0 rfl rfl rfl rfl hl.1 (rest := [.long (31 * (f_X4_digest_55_v1 nl kd ho sn li pe sc wv dk tl td en pe))]) (st' := [.int (f_X4_planWaving nl ho sn li pe sc pn 2), .long (31 * (f_X4_digest_55_v1 nl kd ho sn li pe sc wv dk tl td en pe))]) rfl rfl (Nat.le_of_ble_eq_true rfl) dX4_digest_93 ⟨Nat.zero_le _, Nat.zero_le _⟩ (fun H locs hP hD hS => ?_)
            refine lv_i2l (v := (f_X4_planWaving nl ho sn li pe sc pn 2).toInt64) hx hb dX4_digest_96 rfl ?_
            refine lv_ladd hx hb dX4_digest_97 ?_
            refine lv_lstore_n (lv' := [(1, .long ((31 * (f_X4_digest_55_v1 nl kd ho sn li pe sc wv dk tl td en pe)) + (f_X4_planWaving nl ho sn li pe sc pn 2).toInt64)), (0, .ref aO), (3, .int (nI pe))]) hx hb dX4_digest_98 rfl hl (by decide) rfl (fun ls hl => ?_)
            refine lv_ldc2 (v := 31) hx hb hown w4 dX4_digest_99 ?_
            refine lv_lload_n hx hb dX4_digest_102 rfl (lv_at hl 0 rfl) ?_
            refine lv_lmul hx hb dX4_digest_103 ?_
            refine lv_aload_n hx hb dX4_digest_104 rfl (lv_at hl 1 rfl) ?_
            refine va_get (D := D) (ci := 4) (v := .ref aN) (C := RX4) (T := TX4) (N := 10) hx hb hts uX4 hown hK hP 0 rfl rfl 5 (by decide) w7 (fun _ h9 => h9) rfl dX4_digest_105 ?_
            refine lv_iconst (v := 0) hx hb dX4_digest_108 (by decide) ?_
            refine xald hx hb hK hP 15 rfl 0 rfl (by omega) (by decide) dX4_digest_109 ?_
            refine lv_i2l (v := ((f_X4_planWaving_N nl ho sn li pe sc pn 2) 0).toInt64) hx hb dX4_digest_110 rfl ?_
            refine lv_ladd hx hb dX4_digest_111 ?_
            refine lv_lstore_n (lv' := [(1, .long ((31 * ((31 * (f_X4_digest_55_v1 nl kd ho sn li pe sc wv dk tl td en pe)) + (f_X4_planWaving nl ho sn li pe sc pn 2).toInt64)) + ((f_X4_planWaving_N nl ho sn li pe sc pn 2) 0).toInt64)), (0, .ref aO), (3, .int (nI pe))]) hx hb dX4_digest_112 rfl hl (by decide) rfl (fun ls hl => ?_)
            refine lv_ldc2 (v := 31) hx hb hown w4 dX4_digest_113 ?_
            refine lv_lload_n hx hb dX4_digest_116 rfl (lv_at hl 0 rfl) ?_
            refine lv_lmul hx hb dX4_digest_117 ?_
            refine lv_aload_n hx hb dX4_digest_118 rfl (lv_at hl 1 rfl) ?_
            refine va_get (D := D) (ci := 4) (v := .ref aN) (C := RX4) (T := TX4) (N := 10) hx hb hts uX4 hown hK hP 0 rfl rfl 5 (by decide) w7 (fun _ h9 => h9) rfl dX4_digest_119 ?_
            refine lv_iconst (v := 1) hx hb dX4_digest_122 (by decide) ?_
            refine xald hx hb hK hP 15 rfl 1 rfl (by omega) (by decide) dX4_digest_123 ?_
            refine lv_i2l (v := ((f_X4_planWaving_N nl ho sn li pe sc pn 2) 1).toInt64) hx hb dX4_digest_124 rfl ?_
            refine lv_ladd hx hb dX4_digest_125 ?_
            refine lv_lstore_n (lv' := [(1, .long ((31 * ((31 * ((31 * (f_X4_digest_55_v1 nl kd ho sn li pe sc wv dk tl td en pe)) + (f_X4_planWaving nl ho sn li pe sc pn 2).toInt64)) + ((f_X4_planWaving_N nl ho sn li pe sc pn 2) 0).toInt64)) + ((f_X4_planWaving_N nl ho sn li pe sc pn 2) 1).toInt64)), (0, .ref aO), (3, .int (nI pe))]) hx hb dX4_digest_126 rfl hl (by decide) rfl (fun ls hl => ?_)
            refine lv_ldc2 (v := 31) hx hb hown w4 dX4_digest_127 ?_
            refine lv_lload_n hx hb dX4_digest_130 rfl (lv_at hl 0 rfl) ?_
            refine lv_lmul hx hb dX4_digest_131 ?_
            refine lv_aload_n hx hb dX4_digest_132 rfl (lv_at hl 1 rfl) ?_
            refine lv_iconst (v := 0) hx hb dX4_digest_133 (by decide) ?_
            refine rV ⟨hx, hb, hml, hown, hts⟩ (c_X4_together l D cI aO aP aL aLk aLh aLs aE aK aY aN aS ik ofr rd nl sn 0 hn) (cwV 1 hts gX4_digest_X4_together rfl rfl rfl hd_X4_together ⟨Nat.le_of_ble_eq_true rfl, Nat.le_of_ble_eq_true rfl⟩) hK (hP.sub [0, 3, 6] rfl) 0 rfl rfl rfl rfl hl.1 (rest := [.long (31 * ((31 * ((31 * ((31 * (f_X4_digest_55_v1 nl kd ho sn li pe sc wv dk tl td en pe)) + (f_X4_planWaving nl ho sn li pe sc pn 2).toInt64)) + ((f_X4_planWaving_N nl ho sn li pe sc pn 2) 0).toInt64)) + ((f_X4_planWaving_N nl ho sn li pe sc pn 2) 1).toInt64))]) (st' := [.int (f_X4_together nl sn 0), .long (31 * ((31 * ((31 * ((31 * (f_X4_digest_55_v1 nl kd ho sn li pe sc wv dk tl td en pe)) + (f_X4_planWaving nl ho sn li pe sc pn 2).toInt64)) + ((f_X4_planWaving_N nl ho sn li pe sc pn 2) 0).toInt64)) + ((f_X4_planWaving_N nl ho sn li pe sc pn 2) 1).toInt64))]) rfl rfl (Nat.le_of_ble_eq_true rfl) dX4_digest_134 ⟨Nat.zero_le _, Nat.zero_le _⟩ ?_
            refine lv_i2l (v := (f_X4_together nl sn 0).toInt64) hx hb dX4_digest_137 rfl ?_
            refine lv_ladd hx hb dX4_digest_138 ?_
            refine lv_lstore_n (lv' := [(1, .long ((31 * ((31 * ((31 * ((31 * (f_X4_digest_55_v1 nl kd ho sn li pe sc wv dk tl td en pe)) + (f_X4_planWaving nl ho sn li pe sc pn 2).toInt64)) + ((f_X4_planWaving_N nl ho sn li pe sc pn 2) 0).toInt64)) + ((f_X4_planWaving_N nl ho sn li pe sc pn 2) 1).toInt64)) + (f_X4_together nl sn 0).toInt64)), (0, .ref aO), (3, .int (nI pe))]) hx hb dX4_digest_139 rfl hl (by decide) rfl (fun ls hl => ?_)
            refine lv_ldc2 (v := 31) hx hb hown w4 dX4_digest_140 ?_
            refine lv_lload_n hx hb dX4_digest_143 rfl (lv_at hl 0 rfl) ?_
            refine lv_lmul hx hb dX4_digest_144 ?_
            refine lv_aload_n hx hb dX4_digest_145 rfl (lv_at hl 1 rfl) ?_
            refine lv_iconst (v := 1) hx hb dX4_digest_146 (by decide) ?_
            refine rV ⟨hx, hb, hml, hown, hts⟩ (c_X4_together l D cI aO aP aL aLk aLh aLs aE aK aY aN aS ik ofr rd nl sn 1 hn) (cwV 1 hts gX4_digest_X4_together rfl rfl rfl hd_X4_together ⟨Nat.le_of_ble_eq_true rfl, Nat.le_of_ble_eq_true rfl⟩) hK (hP.sub [0, 3, 6] rfl) 0 rfl rfl rfl rfl hl.1 (rest := [.long (31 * ((31 * ((31 * ((31 * ((31 * (f_X4_digest_55_v1 nl kd ho sn li pe sc wv dk tl td en pe)) + (f_X4_planWaving nl ho sn li pe sc pn 2).toInt64)) + ((f_X4_planWaving_N nl ho sn li pe sc pn 2) 0).toInt64)) + ((f_X4_planWaving_N nl ho sn li pe sc pn 2) 1).toInt64)) + (f_X4_together nl sn 0).toInt64))]) (st' := [.int (f_X4_together nl sn 1), .long (31 * ((31 * ((31 * ((31 * ((31 * (f_X4_digest_55_v1 nl kd ho sn li pe sc wv dk tl td en pe)) + (f_X4_planWaving nl ho sn li pe sc pn 2).toInt64)) + ((f_X4_planWaving_N nl ho sn li pe sc pn 2) 0).toInt64)) + ((f_X4_planWaving_N nl ho sn li pe sc pn 2) 1).toInt64)) + (f_X4_together nl sn 0).toInt64))]) rfl rfl (Nat.le_of_ble_eq_true rfl) dX4_digest_147 ⟨Nat.zero_le _, Nat.zero_le _⟩ ?_
            refine lv_i2l (v := (f_X4_together nl sn 1).toInt64) hx hb dX4_digest_150 rfl ?_
            refine lv_ladd hx hb dX4_digest_151 ?_
            refine lv_lstore_n (lv' := [(1, .long ((31 * ((31 * ((31 * ((31 * ((31 * (f_X4_digest_55_v1 nl kd ho sn li pe sc wv dk tl td en pe)) + (f_X4_planWaving nl ho sn li pe sc pn 2).toInt64)) + ((f_X4_planWaving_N nl ho sn li pe sc pn 2) 0).toInt64)) + ((f_X4_planWaving_N nl ho sn li pe sc pn 2) 1).toInt64)) + (f_X4_together nl sn 0).toInt64)) + (f_X4_together nl sn 1).toInt64)), (0, .ref aO), (3, .int (nI pe))]) hx hb dX4_digest_152 rfl hl (by decide) rfl (fun ls hl => ?_)
            refine lv_iconst (v := 0) hx hb dX4_digest_153 (by decide) ?_
            refine lv_istore_n (lv' := [(3, .int 0), (1, .long ((31 * ((31 * ((31 * ((31 * ((31 * (f_X4_digest_55_v1 nl kd ho sn li pe sc wv dk tl td en pe)) + (f_X4_planWaving nl ho sn li pe sc pn 2).toInt64)) + ((f_X4_planWaving_N nl ho sn li pe sc pn 2) 0).toInt64)) + ((f_X4_planWaving_N nl ho sn li pe sc pn 2) 1).toInt64)) + (f_X4_together nl sn 0).toInt64)) + (f_X4_together nl sn 1).toInt64)), (0, .ref aO)]) hx hb dX4_digest_154 rfl hl (by decide) rfl (fun ls hl => ?_)
            have lp155 : ∀ (k155 i4 : Nat), i4 + k155 = pl → ∀ (H : Heap) (locs : List Loc), va_P D vwCl [(aO, .inr (4, [.ref aP, .ref aL, .ref aE, .ref aK, .ref aY, .ref aN, .ref aS, .int ik, .int ofr, .int rd])), (aP, .inr (2, [.ref aPc, .int (nI pl)])), (aPc, .inl (cI, 20, .inl co)), (aL, .inr (1, [.ref aLk, .ref aLh, .ref aLs, .int (nI nl)])), (aLk, .inl (cI, 6, .inl kd)), (aLh, .inl (cI, 6, .inl ho)), (aLs, .inl (cI, 6, .inl sn)), (aE, .inr (0, [.int li, .int mi, .int (nI pe), .ref aEs, .ref aEw, .ref aEd, .int to, .ref aEl, .ref aEt])), (aEs, .inl (cI, 4, .inl sc)), (aEw, .inl (cI, 4, .inl wv)), (aEd, .inl (cI, 4, .inl dk)), (aEl, .inl (cI, 7, .inl tl)), (aEt, .inl (cI, 7, .inl td)), (aY, .inr (3, [.ref aYe, .int ((f_X4_digest_55_Y_1 pe zq pe))])), (aYe, .inl (cI, 64, .inl ((f_X4_digest_55_Ye nl ho sn li pe sc tl td en pe)))), (aN, .inl (cI, 3, .inl (f_X4_planWaving_N nl ho sn li pe sc pn 2)))] H → va_D A [(aO, .inr (4, [.ref aP, .ref aL, .ref aE, .ref aK, .ref aY, .ref aN, .ref aS, .int ik, .int ofr, .int rd])), (aP, .inr (2, [.ref aPc, .int (nI pl)])), (aPc, .inl (cI, 20, .inl co)), (aL, .inr (1, [.ref aLk, .ref aLh, .ref aLs, .int (nI nl)])), (aLk, .inl (cI, 6, .inl kd)), (aLh, .inl (cI, 6, .inl ho)), (aLs, .inl (cI, 6, .inl sn)), (aE, .inr (0, [.int li, .int mi, .int (nI pe), .ref aEs, .ref aEw, .ref aEd, .int to, .ref aEl, .ref aEt])), (aEs, .inl (cI, 4, .inl sc)), (aEw, .inl (cI, 4, .inl wv)), (aEd, .inl (cI, 4, .inl dk)), (aEl, .inl (cI, 7, .inl tl)), (aEt, .inl (cI, 7, .inl td)), (aY, .inr (3, [.ref aYe, .int ((f_X4_digest_55_Y_1 pe zq pe))])), (aYe, .inl (cI, 64, .inl ((f_X4_digest_55_Ye nl ho sn li pe sc tl td en pe)))), (aN, .inl (cI, 3, .inl (f_X4_planWaving_N nl ho sn li pe sc pn 2)))] → va_S A s.heap H locs → ∀ ls : Array Slot, lv_has ls 5 [(0, .ref aO), (1, .long ((f_X4_digest_155_v1 co ((31 * ((31 * ((31 * ((31 * ((31 * (f_X4_digest_55_v1 nl kd ho sn li pe sc wv dk tl td en pe)) + (f_X4_planWaving nl ho sn li pe sc pn 2).toInt64)) + ((f_X4_planWaving_N nl ho sn li pe sc pn 2) 0).toInt64)) + ((f_X4_planWaving_N nl ho sn li pe sc pn 2) 1).toInt64)) + (f_X4_together nl sn 0).toInt64)) + (f_X4_together nl sn 1).toInt64) i4))), (3, .int (nI i4))] → W p l e rm_X4_digest s m args below meth c H locs 0 0 Q (F0 m 155 ls []) := by
              intro k155
              induction k155 with
              | zero =>
                intro i4 hk155 H locs hP hD hS ls hl
                have hN155 : pl = i4 := by omega
                subst hN155
                refine lv_iload_n hx hb dX4_digest_155 rfl (lv_at hl 2 rfl) ?_
                refine lv_aload_n hx hb dX4_digest_156 rfl (lv_at hl 0 rfl) ?_
                refine va_get (D := D) (ci := 4) (v := .ref aP) (C := RX4) (T := TX4) (N := 10) hx hb hts uX4 hown hK hP 0 rfl rfl 0 (by decide) w8 (fun _ h9 => h9) rfl dX4_digest_157 ?_
                refine va_get (D := D) (ci := 2) (v := .int (nI pl)) (C := RX2) (T := TX2) (N := 2) hx hb hts uX2 hown hK hP 1 rfl rfl 1 (by decide) w9 (fun _ h9 => h9) rfl dX4_digest_160 ?_
                refine lv_icmp_ge (tgt := 189) hx hb dX4_digest_163 (by decide) (fun _ => ?_) (fun c => absurd (nle_t (a := pl) (b := pl) rfl rfl (by omega) (by omega) (by omega)) c)
                refine lv_iconst (v := 0) hx hb dX4_digest_189 (by decide) ?_
                refine lv_istore_n (lv' := [(3, .int 0), (0, .ref aO), (1, .long ((f_X4_digest_155_v1 co ((31 * ((31 * ((31 * ((31 * ((31 * (f_X4_digest_55_v1 nl kd ho sn li pe sc wv dk tl td en pe)) + (f_X4_planWaving nl ho sn li pe sc pn 2).toInt64)) + ((f_X4_planWaving_N nl ho sn li pe sc pn 2) 0).toInt64)) + ((f_X4_planWaving_N nl ho sn li pe sc pn 2) 1).toInt64)) + (f_X4_together nl sn 0).toInt64)) + (f_X4_together nl sn 1).toInt64) pl)))]) hx hb dX4_digest_190 rfl hl (by decide) rfl (fun ls hl => ?_)
                have lp191 : ∀ (k191 i5 : Nat), i5 + k191 = 11 → ∀ (H : Heap) (locs : List Loc), va_P D vwCl [(aO, .inr (4, [.ref aP, .ref aL, .ref aE, .ref aK, .ref aY, .ref aN, .ref aS, .int ik, .int ofr, .int rd])), (aP, .inr (2, [.ref aPc, .int (nI pl)])), (aPc, .inl (cI, 20, .inl co)), (aL, .inr (1, [.ref aLk, .ref aLh, .ref aLs, .int (nI nl)])), (aLk, .inl (cI, 6, .inl kd)), (aLh, .inl (cI, 6, .inl ho)), (aLs, .inl (cI, 6, .inl sn)), (aE, .inr (0, [.int li, .int mi, .int (nI pe), .ref aEs, .ref aEw, .ref aEd, .int to, .ref aEl, .ref aEt])), (aEs, .inl (cI, 4, .inl sc)), (aEw, .inl (cI, 4, .inl wv)), (aEd, .inl (cI, 4, .inl dk)), (aEl, .inl (cI, 7, .inl tl)), (aEt, .inl (cI, 7, .inl td)), (aY, .inr (3, [.ref aYe, .int ((f_X4_digest_55_Y_1 pe zq pe))])), (aYe, .inl (cI, 64, .inl ((f_X4_digest_55_Ye nl ho sn li pe sc tl td en pe)))), (aN, .inl (cI, 3, .inl (f_X4_planWaving_N nl ho sn li pe sc pn 2)))] H → va_D A [(aO, .inr (4, [.ref aP, .ref aL, .ref aE, .ref aK, .ref aY, .ref aN, .ref aS, .int ik, .int ofr, .int rd])), (aP, .inr (2, [.ref aPc, .int (nI pl)])), (aPc, .inl (cI, 20, .inl co)), (aL, .inr (1, [.ref aLk, .ref aLh, .ref aLs, .int (nI nl)])), (aLk, .inl (cI, 6, .inl kd)), (aLh, .inl (cI, 6, .inl ho)), (aLs, .inl (cI, 6, .inl sn)), (aE, .inr (0, [.int li, .int mi, .int (nI pe), .ref aEs, .ref aEw, .ref aEd, .int to, .ref aEl, .ref aEt])), (aEs, .inl (cI, 4, .inl sc)), (aEw, .inl (cI, 4, .inl wv)), (aEd, .inl (cI, 4, .inl dk)), (aEl, .inl (cI, 7, .inl tl)), (aEt, .inl (cI, 7, .inl td)), (aY, .inr (3, [.ref aYe, .int ((f_X4_digest_55_Y_1 pe zq pe))])), (aYe, .inl (cI, 64, .inl ((f_X4_digest_55_Ye nl ho sn li pe sc tl td en pe)))), (aN, .inl (cI, 3, .inl (f_X4_planWaving_N nl ho sn li pe sc pn 2)))] → va_S A s.heap H locs → ∀ ls : Array Slot, lv_has ls 5 [(0, .ref aO), (1, .long ((f_X4_digest_191_v1 ofr rd pl nl li mi pe to sc wv dk ((f_X4_digest_155_v1 co ((31 * ((31 * ((31 * ((31 * ((31 * (f_X4_digest_55_v1 nl kd ho sn li pe sc wv dk tl td en pe)) + (f_X4_planWaving nl ho sn li pe sc pn 2).toInt64)) + ((f_X4_planWaving_N nl ho sn li pe sc pn 2) 0).toInt64)) + ((f_X4_planWaving_N nl ho sn li pe sc pn 2) 1).toInt64)) + (f_X4_together nl sn 0).toInt64)) + (f_X4_together nl sn 1).toInt64) pl)) i5))), (3, .int (nI i5))] → W p l e rm_X4_digest s m args below meth c H locs 0 0 Q (F0 m 191 ls []) := by
                  intro k191
                  induction k191 with
                  | zero =>
                    intro i5 hk191 H locs hP hD hS ls hl
                    have hN191 : 11 = i5 := by omega
                    subst hN191
                    refine lv_iload_n hx hb dX4_digest_191 rfl (lv_at hl 2 rfl) ?_
                    refine lv_bipush (v := 10) hx hb dX4_digest_192 (by decide) ?_
                    refine lv_icmp_gt (tgt := 216) hx hb dX4_digest_194 (by decide) (fun _ => ?_) (fun c => absurd (nlt_t (a := 10) (b := 11) rfl rfl (by omega) (by omega) (by omega)) c)
                    refine lv_lload_n hx hb dX4_digest_216 rfl (lv_at hl 1 rfl) ?_
                    have e_Y_1 : (f_X4_digest_Y_1 pe zq) = (f_X4_digest_55_Y_1 pe zq pe) := (by simp only [f_X4_digest_Y_1, if_neg c1])
                    have e_Ye : (f_X4_digest_Ye nl ho sn li pe sc tl td en) = (f_X4_digest_55_Ye nl ho sn li pe sc tl td en pe) := (by simp only [f_X4_digest_Ye, if_neg c1])
                    have e_N : (f_X4_digest_N nl ho sn li pe sc pn) = (f_X4_planWaving_N nl ho sn li pe sc pn 2) := (by simp only [f_X4_digest_N, if_neg c1])
                    exact eXl hx hb hr hlk hQ (by rw [e_Y_1, e_Ye, e_N]; exact hP) (by rw [e_Y_1, e_Ye, e_N]; exact hD) hS dX4_digest_217 (Eq.symm (by simp only [f_X4_digest, if_neg c1]))
                  | succ k191 ih191 =>
                    intro i5 hk191 H locs hP hD hS ls hl
                    refine lv_iload_n hx hb dX4_digest_191 rfl (lv_at hl 2 rfl) ?_
                    refine lv_bipush (v := 10) hx hb dX4_digest_192 (by decide) ?_
                    refine lv_icmp_gt (tgt := 216) hx hb dX4_digest_194 (by decide) (fun c => absurd c (nlt_f (a := 10) (b := i5) rfl rfl (by omega) (by omega) (by omega))) (fun _ => ?_)
                    refine lv_ldc2 (v := 31) hx hb hown w4 dX4_digest_197 ?_
                    refine lv_lload_n hx hb dX4_digest_200 rfl (lv_at hl 1 rfl) ?_
                    refine lv_lmul hx hb dX4_digest_201 ?_
                    refine lv_aload_n hx hb dX4_digest_202 rfl (lv_at hl 0 rfl) ?_
                    refine lv_iload_n hx hb dX4_digest_203 rfl (lv_at hl 2 rfl) ?_
                    refine rV ⟨hx, hb, hml, hown, hts⟩ (c_X4_count l D cI aO aP aPc aL aLk aLh aLs aE aEs aEw aEd aEl aEt aK aY aN aS ik ofr rd pl nl li mi pe to sc wv dk (nI i5) hn hpe) (cwV 1 hts gX4_digest_X4_count rfl rfl rfl hd_X4_count ⟨Nat.le_of_ble_eq_true rfl, Nat.le_of_ble_eq_true rfl⟩) hK (hP.sub [0, 1, 3, 7, 8, 9, 10] rfl) 0 rfl rfl rfl rfl hl.1 (rest := [.long (31 * (f_X4_digest_191_v1 ofr rd pl nl li mi pe to sc wv dk ((f_X4_digest_155_v1 co ((31 * ((31 * ((31 * ((31 * ((31 * (f_X4_digest_55_v1 nl kd ho sn li pe sc wv dk tl td en pe)) + (f_X4_planWaving nl ho sn li pe sc pn 2).toInt64)) + ((f_X4_planWaving_N nl ho sn li pe sc pn 2) 0).toInt64)) + ((f_X4_planWaving_N nl ho sn li pe sc pn 2) 1).toInt64)) + (f_X4_together nl sn 0).toInt64)) + (f_X4_together nl sn 1).toInt64) pl)) i5))]) (st' := [.int (f_X4_count ofr rd pl nl li mi pe to sc wv dk (nI i5)), .long (31 * (f_X4_digest_191_v1 ofr rd pl nl li mi pe to sc wv dk ((f_X4_digest_155_v1 co ((31 * ((31 * ((31 * ((31 * ((31 * (f_X4_digest_55_v1 nl kd ho sn li pe sc wv dk tl td en pe)) + (f_X4_planWaving nl ho sn li pe sc pn 2).toInt64)) + ((f_X4_planWaving_N nl ho sn li pe sc pn 2) 0).toInt64)) + ((f_X4_planWaving_N nl ho sn li pe sc pn 2) 1).toInt64)) + (f_X4_together nl sn 0).toInt64)) + (f_X4_together nl sn 1).toInt64) pl)) i5))]) rfl rfl (Nat.le_of_ble_eq_true rfl) dX4_digest_204 ⟨Nat.zero_le _, Nat.zero_le _⟩ ?_
                    refine lv_i2l (v := (f_X4_count ofr rd pl nl li mi pe to sc wv dk (nI i5)).toInt64) hx hb dX4_digest_207 rfl ?_
                    refine lv_ladd hx hb dX4_digest_208 ?_
                    refine lv_lstore_n (lv' := [(1, .long ((31 * (f_X4_digest_191_v1 ofr rd pl nl li mi pe to sc wv dk ((f_X4_digest_155_v1 co ((31 * ((31 * ((31 * ((31 * ((31 * (f_X4_digest_55_v1 nl kd ho sn li pe sc wv dk tl td en pe)) + (f_X4_planWaving nl ho sn li pe sc pn 2).toInt64)) + ((f_X4_planWaving_N nl ho sn li pe sc pn 2) 0).toInt64)) + ((f_X4_planWaving_N nl ho sn li pe sc pn 2) 1).toInt64)) + (f_X4_together nl sn 0).toInt64)) + (f_X4_together nl sn 1).toInt64) pl)) i5)) + (f_X4_count ofr rd pl nl li mi pe to sc wv dk (nI i5)).toInt64)), (0, .ref aO), (3, .int (nI i5))]) hx hb dX4_digest_209 rfl hl (by decide) rfl (fun ls hl => ?_)
                    refine lv_iinc (v := nI (i5 + 1)) (lv' := [(3, .int (nI (i5 + 1))), (1, .long ((31 * (f_X4_digest_191_v1 ofr rd pl nl li mi pe to sc wv dk ((f_X4_digest_155_v1 co ((31 * ((31 * ((31 * ((31 * ((31 * (f_X4_digest_55_v1 nl kd ho sn li pe sc wv dk tl td en pe)) + (f_X4_planWaving nl ho sn li pe sc pn 2).toInt64)) + ((f_X4_planWaving_N nl ho sn li pe sc pn 2) 0).toInt64)) + ((f_X4_planWaving_N nl ho sn li pe sc pn 2) 1).toInt64)) + (f_X4_together nl sn 0).toInt64)) + (f_X4_together nl sn 1).toInt64) pl)) i5)) + (f_X4_count ofr rd pl nl li mi pe to sc wv dk (nI i5)).toInt64)), (0, .ref aO)]) hx hb dX4_digest_210 hl (k := 2) rfl (nI_add i5 1) (by decide) rfl (fun ls hl => ?_)
                    refine lv_goto (tgt := 191) hx hb dX4_digest_213 (by decide) ?_
                    have e_v1 : (f_X4_digest_191_v1 ofr rd pl nl li mi pe to sc wv dk ((f_X4_digest_155_v1 co ((31 * ((31 * ((31 * ((31 * ((31 * (f_X4_digest_55_v1 nl kd ho sn li pe sc wv dk tl td en pe)) + (f_X4_planWaving nl ho sn li pe sc pn 2).toInt64)) + ((f_X4_planWaving_N nl ho sn li pe sc pn 2) 0).toInt64)) + ((f_X4_planWaving_N nl ho sn li pe sc pn 2) 1).toInt64)) + (f_X4_together nl sn 0).toInt64)) + (f_X4_together nl sn 1).toInt64) pl)) (i5 + 1)) = ((31 * (f_X4_digest_191_v1 ofr rd pl nl li mi pe to sc wv dk ((f_X4_digest_155_v1 co ((31 * ((31 * ((31 * ((31 * ((31 * (f_X4_digest_55_v1 nl kd ho sn li pe sc wv dk tl td en pe)) + (f_X4_planWaving nl ho sn li pe sc pn 2).toInt64)) + ((f_X4_planWaving_N nl ho sn li pe sc pn 2) 0).toInt64)) + ((f_X4_planWaving_N nl ho sn li pe sc pn 2) 1).toInt64)) + (f_X4_together nl sn 0).toInt64)) + (f_X4_together nl sn 1).toInt64) pl)) i5)) + (f_X4_count ofr rd pl nl li mi pe to sc wv dk (nI i5)).toInt64) := (by simp only [f_X4_digest_191_v1])
                    exact ih191 (i5 + 1) (by omega) _ _ (hP) (hD) hS ls (by rw [e_v1]; exact lv_sub hl [2, 1, 0] rfl)
                exact lp191 11 0 (by omega) _ _ hP hD hS ls (lv_sub hl [1, 2, 0] rfl)
              | succ k155 ih155 =>
                intro i4 hk155 H locs hP hD hS ls hl
                refine lv_iload_n hx hb dX4_digest_155 rfl (lv_at hl 2 rfl) ?_
                refine lv_aload_n hx hb dX4_digest_156 rfl (lv_at hl 0 rfl) ?_
                refine va_get (D := D) (ci := 4) (v := .ref aP) (C := RX4) (T := TX4) (N := 10) hx hb hts uX4 hown hK hP 0 rfl rfl 0 (by decide) w8 (fun _ h9 => h9) rfl dX4_digest_157 ?_
                refine va_get (D := D) (ci := 2) (v := .int (nI pl)) (C := RX2) (T := TX2) (N := 2) hx hb hts uX2 hown hK hP 1 rfl rfl 1 (by decide) w9 (fun _ h9 => h9) rfl dX4_digest_160 ?_
                refine lv_icmp_ge (tgt := 189) hx hb dX4_digest_163 (by decide) (fun c => absurd c (nle_f (a := pl) (b := i4) rfl rfl (by omega) (by omega) (by omega))) (fun _ => ?_)
                refine lv_ldc2 (v := 31) hx hb hown w4 dX4_digest_166 ?_
                refine lv_lload_n hx hb dX4_digest_169 rfl (lv_at hl 1 rfl) ?_
                refine lv_lmul hx hb dX4_digest_170 ?_
                refine lv_aload_n hx hb dX4_digest_171 rfl (lv_at hl 0 rfl) ?_
                refine va_get (D := D) (ci := 4) (v := .ref aP) (C := RX4) (T := TX4) (N := 10) hx hb hts uX4 hown hK hP 0 rfl rfl 0 (by decide) w8 (fun _ h9 => h9) rfl dX4_digest_172 ?_
                refine va_get (D := D) (ci := 2) (v := .ref aPc) (C := RX2) (T := TX2) (N := 2) hx hb hts uX2 hown hK hP 1 rfl rfl 0 (by decide) w10 (fun _ h9 => h9) rfl dX4_digest_175 ?_
                refine lv_iload_n hx hb dX4_digest_178 rfl (lv_at hl 2 rfl) ?_
                refine xald hx hb hK hP 2 rfl i4 rfl (by omega) (by decide) dX4_digest_179 ?_
                refine lv_i2l (v := (co i4).toInt64) hx hb dX4_digest_180 rfl ?_
                refine lv_ladd hx hb dX4_digest_181 ?_
                refine lv_lstore_n (lv' := [(1, .long ((31 * (f_X4_digest_155_v1 co ((31 * ((31 * ((31 * ((31 * ((31 * (f_X4_digest_55_v1 nl kd ho sn li pe sc wv dk tl td en pe)) + (f_X4_planWaving nl ho sn li pe sc pn 2).toInt64)) + ((f_X4_planWaving_N nl ho sn li pe sc pn 2) 0).toInt64)) + ((f_X4_planWaving_N nl ho sn li pe sc pn 2) 1).toInt64)) + (f_X4_together nl sn 0).toInt64)) + (f_X4_together nl sn 1).toInt64) i4)) + (co i4).toInt64)), (0, .ref aO), (3, .int (nI i4))]) hx hb dX4_digest_182 rfl hl (by decide) rfl (fun ls hl => ?_)
                refine lv_iinc (v := nI (i4 + 1)) (lv' := [(3, .int (nI (i4 + 1))), (1, .long ((31 * (f_X4_digest_155_v1 co ((31 * ((31 * ((31 * ((31 * ((31 * (f_X4_digest_55_v1 nl kd ho sn li pe sc wv dk tl td en pe)) + (f_X4_planWaving nl ho sn li pe sc pn 2).toInt64)) + ((f_X4_planWaving_N nl ho sn li pe sc pn 2) 0).toInt64)) + ((f_X4_planWaving_N nl ho sn li pe sc pn 2) 1).toInt64)) + (f_X4_together nl sn 0).toInt64)) + (f_X4_together nl sn 1).toInt64) i4)) + (co i4).toInt64)), (0, .ref aO)]) hx hb dX4_digest_183 hl (k := 2) rfl (nI_add i4 1) (by decide) rfl (fun ls hl => ?_)
                refine lv_goto (tgt := 155) hx hb dX4_digest_186 (by decide) ?_
                have e_v1 : (f_X4_digest_155_v1 co ((31 * ((31 * ((31 * ((31 * ((31 * (f_X4_digest_55_v1 nl kd ho sn li pe sc wv dk tl td en pe)) + (f_X4_planWaving nl ho sn li pe sc pn 2).toInt64)) + ((f_X4_planWaving_N nl ho sn li pe sc pn 2) 0).toInt64)) + ((f_X4_planWaving_N nl ho sn li pe sc pn 2) 1).toInt64)) + (f_X4_together nl sn 0).toInt64)) + (f_X4_together nl sn 1).toInt64) (i4 + 1)) = ((31 * (f_X4_digest_155_v1 co ((31 * ((31 * ((31 * ((31 * ((31 * (f_X4_digest_55_v1 nl kd ho sn li pe sc wv dk tl td en pe)) + (f_X4_planWaving nl ho sn li pe sc pn 2).toInt64)) + ((f_X4_planWaving_N nl ho sn li pe sc pn 2) 0).toInt64)) + ((f_X4_planWaving_N nl ho sn li pe sc pn 2) 1).toInt64)) + (f_X4_together nl sn 0).toInt64)) + (f_X4_together nl sn 1).toInt64) i4)) + (co i4).toInt64) := (by simp only [f_X4_digest_155_v1])
                exact ih155 (i4 + 1) (by omega) _ _ (hP) (hD) hS ls (by rw [e_v1]; exact lv_sub hl [2, 1, 0] rfl)
            exact lp155 pl 0 (by omega) _ _ hP hD hS ls (lv_sub hl [2, 1, 0] rfl)
        | succ k55 ih55 =>
          intro i3 hk55 H locs hP hD hS ls hl
          refine lv_iload_n hx hb dX4_digest_55 rfl (lv_at hl 2 rfl) ?_
          refine lv_aload_n hx hb dX4_digest_56 rfl (lv_at hl 0 rfl) ?_
          refine va_get (D := D) (ci := 4) (v := .ref aE) (C := RX4) (T := TX4) (N := 10) hx hb hts uX4 hown hK hP 0 rfl rfl 2 (by decide) w5 (fun _ h9 => h9) rfl dX4_digest_57 ?_
          refine va_get (D := D) (ci := 0) (v := .int (nI pe)) (C := RX0) (T := TX0) (N := 9) hx hb hts uX0 hown hK hP 7 rfl rfl 2 (by decide) w6 (fun _ h9 => h9) rfl dX4_digest_60 ?_
          refine lv_icmp_ge (tgt := 79) hx hb dX4_digest_63 (by decide) (fun c => absurd c (nle_f (a := pe) (b := i3) rfl rfl (by omega) (by omega) (by omega))) (fun _ => ?_)
          refine lv_aload_n hx hb dX4_digest_66 rfl (lv_at hl 0 rfl) ?_
          refine lv_lload_n hx hb dX4_digest_67 rfl (lv_at hl 1 rfl) ?_
          refine lv_iload_n hx hb dX4_digest_68 rfl (lv_at hl 2 rfl) ?_
          refine xV (w2 := [(aO, .inr (4, [.ref aP, .ref aL, .ref aE, .ref aK, .ref aY, .ref aN, .ref aS, .int ik, .int ofr, .int rd])), (aP, .inr (2, [.ref aPc, .int (nI pl)])), (aPc, .inl (cI, 20, .inl co)), (aL, .inr (1, [.ref aLk, .ref aLh, .ref aLs, .int (nI nl)])), (aLk, .inl (cI, 6, .inl kd)), (aLh, .inl (cI, 6, .inl ho)), (aLs, .inl (cI, 6, .inl sn)), (aE, .inr (0, [.int li, .int mi, .int (nI pe), .ref aEs, .ref aEw, .ref aEd, .int to, .ref aEl, .ref aEt])), (aEs, .inl (cI, 4, .inl sc)), (aEw, .inl (cI, 4, .inl wv)), (aEd, .inl (cI, 4, .inl dk)), (aEl, .inl (cI, 7, .inl tl)), (aEt, .inl (cI, 7, .inl td)), (aY, .inr (3, [.ref aYe, .int (f_X4_digestPerson_Y_1 pe i3)])), (aYe, .inl (cI, 64, .inl (f_X4_digestPerson_Ye nl ho sn li pe sc tl td ((f_X4_digest_55_Ye nl ho sn li pe sc tl td en i3)) i3))), (aN, .inl (cI, 3, .inl pn))]) ⟨hx, hb, hml, hown, hts⟩ (c_X4_digestPerson l D cI aO aP aL aLk aLh aLs aE aEs aEw aEd aEl aEt aK aY aYe aN aS ik ofr rd nl ho sn li mi pe to sc wv dk tl td ((f_X4_digest_55_Y_1 pe zq i3)) ((f_X4_digest_55_Ye nl ho sn li pe sc tl td en i3)) ((f_X4_digest_55_v1 nl kd ho sn li pe sc wv dk tl td en i3)) i3 hn hpe (by omega)) (cwV 2 hts gX4_digest_X4_digestPerson rfl rfl rfl hd_X4_digestPerson ⟨Nat.le_of_ble_eq_true rfl, Nat.le_of_ble_eq_true rfl⟩) hK hP hD hS hA [0, 3, 5, 6, 7, 8, 9, 10, 11, 12, 13, 14] [1, 2, 4, 15] [4, 0, 1, 5, 2, 6, 7, 8, 9, 10, 11, 12, 13, 14, 15, 3] rfl rfl rfl rfl rfl (by decide) rfl rfl rfl 0 rfl rfl rfl rfl hl.1 (rest := []) (st' := [.long (f_X4_digestPerson nl ho sn li pe sc wv dk tl td ((f_X4_digest_55_Ye nl ho sn li pe sc tl td en i3)) ((f_X4_digest_55_v1 nl kd ho sn li pe sc wv dk tl td en i3)) i3)]) rfl rfl (Nat.le_of_ble_eq_true rfl) dX4_digest_69 ⟨Nat.zero_le _, Nat.zero_le _⟩ (fun H locs hP hD hS => ?_)
          refine lv_lstore_n (lv' := [(1, .long (f_X4_digestPerson nl ho sn li pe sc wv dk tl td ((f_X4_digest_55_Ye nl ho sn li pe sc tl td en i3)) ((f_X4_digest_55_v1 nl kd ho sn li pe sc wv dk tl td en i3)) i3)), (0, .ref aO), (3, .int (nI i3))]) hx hb dX4_digest_72 rfl hl (by decide) rfl (fun ls hl => ?_)
          refine lv_iinc (v := nI (i3 + 1)) (lv' := [(3, .int (nI (i3 + 1))), (1, .long (f_X4_digestPerson nl ho sn li pe sc wv dk tl td ((f_X4_digest_55_Ye nl ho sn li pe sc tl td en i3)) ((f_X4_digest_55_v1 nl kd ho sn li pe sc wv dk tl td en i3)) i3)), (0, .ref aO)]) hx hb dX4_digest_73 hl (k := 2) rfl (nI_add i3 1) (by decide) rfl (fun ls hl => ?_)
          refine lv_goto (tgt := 55) hx hb dX4_digest_76 (by decide) ?_
          have e_v1 : (f_X4_digest_55_v1 nl kd ho sn li pe sc wv dk tl td en (i3 + 1)) = (f_X4_digestPerson nl ho sn li pe sc wv dk tl td ((f_X4_digest_55_Ye nl ho sn li pe sc tl td en i3)) ((f_X4_digest_55_v1 nl kd ho sn li pe sc wv dk tl td en i3)) i3) := (by simp only [f_X4_digest_55_v1])
          have e_Y_1 : (f_X4_digest_55_Y_1 pe zq (i3 + 1)) = (f_X4_digestPerson_Y_1 pe i3) := (by simp only [f_X4_digest_55_Y_1])
          have e_Ye : (f_X4_digest_55_Ye nl ho sn li pe sc tl td en (i3 + 1)) = (f_X4_digestPerson_Ye nl ho sn li pe sc tl td ((f_X4_digest_55_Ye nl ho sn li pe sc tl td en i3)) i3) := (by simp only [f_X4_digest_55_Ye])
          exact ih55 (i3 + 1) (by omega) _ _ (by rw [e_Y_1, e_Ye]; exact hP) (by rw [e_Y_1, e_Ye]; exact hD) hS ls (by rw [e_v1]; exact lv_sub hl [2, 1, 0] rfl)
      exact lp55 pe 0 (by omega) _ _ hP hD hS ls (lv_sub hl [1, 2, 0] rfl)
    | succ k6 ih6 =>
      intro i1 hk6 H locs hP hD hS ls hl
      refine lv_iload_n hx hb dX4_digest_6 rfl (lv_at hl 2 rfl) ?_
      refine lv_aload_n hx hb dX4_digest_7 rfl (lv_at hl 0 rfl) ?_
      refine va_get (D := D) (ci := 4) (v := .ref aL) (C := RX4) (T := TX4) (N := 10) hx hb hts uX4 hown hK hP 0 rfl rfl 1 (by decide) w2 (fun _ h9 => h9) rfl dX4_digest_8 ?_
      refine va_get (D := D) (ci := 1) (v := .int (nI nl)) (C := RX1) (T := TX1) (N := 4) hx hb hts uX1 hown hK hP 3 rfl rfl 3 (by decide) w3 (fun _ h9 => h9) rfl dX4_digest_11 ?_
      refine lv_icmp_ge (tgt := 53) hx hb dX4_digest_14 (by decide) (fun c => absurd c (nle_f (a := nl) (b := i1) rfl rfl (by omega) (by omega) (by omega))) (fun _ => ?_)
      refine lv_iconst (v := 0) hx hb dX4_digest_17 (by decide) ?_
      refine lv_istore (lv' := [(4, .int 0), (0, .ref aO), (1, .long ((f_X4_digest_6_v1 nl kd ho sn li pe sc i1))), (3, .int (nI i1))]) hx hb dX4_digest_18 hl (by decide) rfl (fun ls hl => ?_)
      have lp20 : ∀ (k20 i2 : Nat), i2 + k20 = 6 → ∀ (H : Heap) (locs : List Loc), va_P D vwCl [(aO, .inr (4, [.ref aP, .ref aL, .ref aE, .ref aK, .ref aY, .ref aN, .ref aS, .int ik, .int ofr, .int rd])), (aP, .inr (2, [.ref aPc, .int (nI pl)])), (aPc, .inl (cI, 20, .inl co)), (aL, .inr (1, [.ref aLk, .ref aLh, .ref aLs, .int (nI nl)])), (aLk, .inl (cI, 6, .inl kd)), (aLh, .inl (cI, 6, .inl ho)), (aLs, .inl (cI, 6, .inl sn)), (aE, .inr (0, [.int li, .int mi, .int (nI pe), .ref aEs, .ref aEw, .ref aEd, .int to, .ref aEl, .ref aEt])), (aEs, .inl (cI, 4, .inl sc)), (aEw, .inl (cI, 4, .inl wv)), (aEd, .inl (cI, 4, .inl dk)), (aEl, .inl (cI, 7, .inl tl)), (aEt, .inl (cI, 7, .inl td)), (aY, .inr (3, [.ref aYe, .int zq])), (aYe, .inl (cI, 64, .inl en)), (aN, .inl (cI, 3, .inl pn))] H → va_D A [(aO, .inr (4, [.ref aP, .ref aL, .ref aE, .ref aK, .ref aY, .ref aN, .ref aS, .int ik, .int ofr, .int rd])), (aP, .inr (2, [.ref aPc, .int (nI pl)])), (aPc, .inl (cI, 20, .inl co)), (aL, .inr (1, [.ref aLk, .ref aLh, .ref aLs, .int (nI nl)])), (aLk, .inl (cI, 6, .inl kd)), (aLh, .inl (cI, 6, .inl ho)), (aLs, .inl (cI, 6, .inl sn)), (aE, .inr (0, [.int li, .int mi, .int (nI pe), .ref aEs, .ref aEw, .ref aEd, .int to, .ref aEl, .ref aEt])), (aEs, .inl (cI, 4, .inl sc)), (aEw, .inl (cI, 4, .inl wv)), (aEd, .inl (cI, 4, .inl dk)), (aEl, .inl (cI, 7, .inl tl)), (aEt, .inl (cI, 7, .inl td)), (aY, .inr (3, [.ref aYe, .int zq])), (aYe, .inl (cI, 64, .inl en)), (aN, .inl (cI, 3, .inl pn))] → va_S A s.heap H locs → ∀ ls : Array Slot, lv_has ls 5 [(0, .ref aO), (1, .long ((f_X4_digest_20_v1 nl kd ho sn li pe sc i1 (f_X4_digest_6_v1 nl kd ho sn li pe sc i1) i2))), (3, .int (nI i1)), (4, .int (nI i2))] → W p l e rm_X4_digest s m args below meth c H locs 0 0 Q (F0 m 20 ls []) := by
        intro k20
        induction k20 with
        | zero =>
          intro i2 hk20 H locs hP hD hS ls hl
          have hN20 : 6 = i2 := by omega
          subst hN20
          refine lv_iload hx hb dX4_digest_20 (lv_at hl 3 rfl) ?_
          refine lv_iconst (v := 5) hx hb dX4_digest_22 (by decide) ?_
          refine lv_icmp_gt (tgt := 47) hx hb dX4_digest_23 (by decide) (fun _ => ?_) (fun c => absurd (nlt_t (a := 5) (b := 6) rfl rfl (by omega) (by omega) (by omega)) c)
          refine lv_iinc (v := nI (i1 + 1)) (lv' := [(3, .int (nI (i1 + 1))), (0, .ref aO), (1, .long ((f_X4_digest_20_v1 nl kd ho sn li pe sc i1 (f_X4_digest_6_v1 nl kd ho sn li pe sc i1) 6))), (4, .int (nI 6))]) hx hb dX4_digest_47 hl (k := 2) rfl (nI_add i1 1) (by decide) rfl (fun ls hl => ?_)
          refine lv_goto (tgt := 6) hx hb dX4_digest_50 (by decide) ?_
          have e_v1 : (f_X4_digest_6_v1 nl kd ho sn li pe sc (i1 + 1)) = (f_X4_digest_20_v1 nl kd ho sn li pe sc i1 (f_X4_digest_6_v1 nl kd ho sn li pe sc i1) 6) := (by simp only [f_X4_digest_6_v1])
          exact ih6 (i1 + 1) (by omega) _ _ (hP) (hD) hS ls (by rw [e_v1]; exact lv_sub hl [1, 2, 0] rfl)
        | succ k20 ih20 =>
          intro i2 hk20 H locs hP hD hS ls hl
          refine lv_iload hx hb dX4_digest_20 (lv_at hl 3 rfl) ?_
          refine lv_iconst (v := 5) hx hb dX4_digest_22 (by decide) ?_
          refine lv_icmp_gt (tgt := 47) hx hb dX4_digest_23 (by decide) (fun c => absurd c (nlt_f (a := 5) (b := i2) rfl rfl (by omega) (by omega) (by omega))) (fun _ => ?_)
          refine lv_ldc2 (v := 31) hx hb hown w4 dX4_digest_26 ?_
          refine lv_lload_n hx hb dX4_digest_29 rfl (lv_at hl 1 rfl) ?_
          refine lv_lmul hx hb dX4_digest_30 ?_
          refine lv_aload_n hx hb dX4_digest_31 rfl (lv_at hl 0 rfl) ?_
          refine lv_iload_n hx hb dX4_digest_32 rfl (lv_at hl 2 rfl) ?_
          refine lv_iload hx hb dX4_digest_33 (lv_at hl 3 rfl) ?_
          refine rV ⟨hx, hb, hml, hown, hts⟩ (c_X4_lamp l D cI aO aP aL aLk aLh aLs aE aEs aEw aEd aEl aEt aK aY aN aS ik ofr rd nl kd ho sn li mi pe to sc (nI i1) (nI i2) hn hpe) (cwV 2 hts gX4_digest_X4_lamp rfl rfl rfl hd_X4_lamp ⟨Nat.le_of_ble_eq_true rfl, Nat.le_of_ble_eq_true rfl⟩) hK (hP.sub [0, 3, 4, 5, 6, 7, 8] rfl) 0 rfl rfl rfl rfl hl.1 (rest := [.long (31 * (f_X4_digest_20_v1 nl kd ho sn li pe sc i1 (f_X4_digest_6_v1 nl kd ho sn li pe sc i1) i2))]) (st' := [.int (f_X4_lamp nl kd ho sn li pe sc (nI i1) (nI i2)), .long (31 * (f_X4_digest_20_v1 nl kd ho sn li pe sc i1 (f_X4_digest_6_v1 nl kd ho sn li pe sc i1) i2))]) rfl rfl (Nat.le_of_ble_eq_true rfl) dX4_digest_35 ⟨Nat.zero_le _, Nat.zero_le _⟩ ?_
          refine lv_i2l (v := (f_X4_lamp nl kd ho sn li pe sc (nI i1) (nI i2)).toInt64) hx hb dX4_digest_38 rfl ?_
          refine lv_ladd hx hb dX4_digest_39 ?_
          refine lv_lstore_n (lv' := [(1, .long ((31 * (f_X4_digest_20_v1 nl kd ho sn li pe sc i1 (f_X4_digest_6_v1 nl kd ho sn li pe sc i1) i2)) + (f_X4_lamp nl kd ho sn li pe sc (nI i1) (nI i2)).toInt64)), (0, .ref aO), (3, .int (nI i1)), (4, .int (nI i2))]) hx hb dX4_digest_40 rfl hl (by decide) rfl (fun ls hl => ?_)
          refine lv_iinc (v := nI (i2 + 1)) (lv' := [(4, .int (nI (i2 + 1))), (1, .long ((31 * (f_X4_digest_20_v1 nl kd ho sn li pe sc i1 (f_X4_digest_6_v1 nl kd ho sn li pe sc i1) i2)) + (f_X4_lamp nl kd ho sn li pe sc (nI i1) (nI i2)).toInt64)), (0, .ref aO), (3, .int (nI i1))]) hx hb dX4_digest_41 hl (k := 3) rfl (nI_add i2 1) (by decide) rfl (fun ls hl => ?_)
          refine lv_goto (tgt := 20) hx hb dX4_digest_44 (by decide) ?_
          have e_v1 : (f_X4_digest_20_v1 nl kd ho sn li pe sc i1 (f_X4_digest_6_v1 nl kd ho sn li pe sc i1) (i2 + 1)) = ((31 * (f_X4_digest_20_v1 nl kd ho sn li pe sc i1 (f_X4_digest_6_v1 nl kd ho sn li pe sc i1) i2)) + (f_X4_lamp nl kd ho sn li pe sc (nI i1) (nI i2)).toInt64) := (by simp only [f_X4_digest_20_v1])
          exact ih20 (i2 + 1) (by omega) _ _ (hP) (hD) hS ls (by rw [e_v1]; exact lv_sub hl [2, 1, 3, 0] rfl)
      exact lp20 6 0 (by omega) _ _ hP hD hS ls (lv_sub hl [1, 2, 3, 0] rfl)
  exact lp6 nl 0 (by omega) _ _ hP hD hS ls (lv_sub hl [2, 1, 0] rfl)
