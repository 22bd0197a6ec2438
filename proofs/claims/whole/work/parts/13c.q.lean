/-! pure rows C: person, about, move, together, forget, image, restore, book -/
theorem s_person (qb : Nat) (pl : Nat) (co : Nat → Int32) (nl : Nat) (kd : Nat → Int32) (ho : Nat → Int32) (sn : Nat → Int32) (li : Int32) (pe : Nat) (sc : Nat → Int32) (wv : Nat → Int32) (dk : Nat → Int32) (to : Int32) (tl : Nat → Int32) (td : Nat → Int32) (kli : Int32) (kmi : Int32) (kpe : Int32) (ksc : Nat → Int32) (kwv : Nat → Int32) (kdk : Nat → Int32) (kto : Int32) (ktl : Nat → Int32) (ktd : Nat → Int32) (ik : Int32) (ofr : Int32) (rd : Int32) (mco : Nat → Int32) (ro : Nat → Int32) (ss : Nat → Int32) (bk : Nat) (bo : Nat → Int32) (ko : Int32) (mkpe : Int32) (mkmi : Int32) (kbk : Int32) (kro : Nat → Int32) (kss : Nat → Int32) (kbo : Nat → Int32) (x1 : Int32) (h : RR qb pl co nl kd ho sn li pe sc wv dk to tl td kli kmi kpe ksc kwv kdk kto ktl ktd ik ofr rd mco ro ss bk bo ko mkpe mkmi kbk kro kss kbo) : (f_X4_person nl pe x1) = (f_X5_person nl pe x1) ∧ ∃ pe2 : Nat, (f_X4_person_E_2 nl pe x1) = nI pe2 ∧ (f_X5_person_M_6 nl pe x1) = nI pe2 ∧ RR (qb + 4) pl co nl kd ho sn li pe2 (f_X4_person_Es nl pe sc x1) (f_X4_person_Ew nl pe wv x1) (f_X4_person_Ed nl pe dk x1) to tl td kli kmi kpe ksc kwv kdk kto ktl ktd ik ofr rd mco ro (f_X5_person_Ms nl pe ss x1) bk bo ko mkpe mkmi kbk kro kss kbo := by
  obtain ⟨h1, h2, h3, h4, h5⟩ := h
  have hn := h2.2.1
  have hpe := h3.2.2.1
  unfold f_X4_person f_X5_person f_X4_person_E_2 f_X5_person_M_6 f_X4_person_Es f_X4_person_Ew f_X4_person_Ed f_X5_person_Ms
  rcases isL hn x1 with ⟨e4, e5⟩ | ⟨l, hl, rfl, e4, e5⟩
  · simp only [e4, e5, ↓reduceIte]
    exact ⟨trivial, pe, rfl, rfl, h1, h2, h3, h4.mono, h5⟩
  · simp only [e4, e5, n10, ↓reduceIte]
    unfold f_X0_seat f_X0_seat_E_2 f_X0_seat_Es f_X0_seat_Ew f_X0_seat_Ed
    by_cases c4 : pe = 4
    · have c5 : ¬ nI pe < 4 := nlt_f (b := 4) rfl rfl (by omega) (by decide) (by omega)
      have c6 : nI pe = 4 := by rw [c4]; rfl
      simp only [c5, if_pos c6, ↓reduceIte]
      exact ⟨trivial, pe, rfl, rfl, h1, h2, h3, h4.mono, h5⟩
    · have c5 : nI pe < 4 := nlt_t (b := 4) rfl rfl (by omega) (by decide) (by omega)
      have c6 : ¬ nI pe = 4 := neq_f (b := 4) rfl rfl (by omega) (by decide) c4
      simp only [c5, if_neg c6, ↓reduceIte]
      obtain ⟨g1, g2, g3, g4, g5⟩ := h3
      refine ⟨?_, pe + 1, nI_1 pe, nI_1 pe, h1, h2, ⟨g1, g2, by omega, fun j hj => ?_, g5⟩, h4.mono, h5⟩
      · rw [nI_1 pe, show nI (pe + 1) - 1 = nI (pe + 1 - 1) from ix_sub (by omega) rfl rfl, Nat.add_sub_cancel]
      · by_cases cj : j = pe
        · subst cj
          rw [pk_un (show 3 * j ≠ 3 * j + 2 by omega), pk_un (show 3 * j ≠ 3 * j + 1 by omega), pk_us, pk_us, pk_un (show 3 * j + 1 ≠ 3 * j + 2 by omega), pk_us, pk_us, pk_us, pk_us]
          exact ⟨rfl, ⟨l, hl, rfl⟩, rfl, rfl⟩
        · rw [pk_un (show 3 * j ≠ 3 * pe + 2 by omega), pk_un (show 3 * j ≠ 3 * pe + 1 by omega), pk_un (show 3 * j ≠ 3 * pe by omega), pk_un cj, pk_un (show 3 * j + 1 ≠ 3 * pe + 2 by omega), pk_un (show 3 * j + 1 ≠ 3 * pe + 1 by omega), pk_un (show 3 * j + 1 ≠ 3 * pe by omega), pk_un cj, pk_un (show 3 * j + 2 ≠ 3 * pe + 2 by omega), pk_un (show 3 * j + 2 ≠ 3 * pe + 1 by omega), pk_un (show 3 * j + 2 ≠ 3 * pe by omega), pk_un cj]
          exact g4 j (by omega)
theorem s_about (qb : Nat) (pl : Nat) (co : Nat → Int32) (nl : Nat) (kd : Nat → Int32) (ho : Nat → Int32) (sn : Nat → Int32) (li : Int32) (pe : Nat) (sc : Nat → Int32) (wv : Nat → Int32) (dk : Nat → Int32) (to : Int32) (tl : Nat → Int32) (td : Nat → Int32) (kli : Int32) (kmi : Int32) (kpe : Int32) (ksc : Nat → Int32) (kwv : Nat → Int32) (kdk : Nat → Int32) (kto : Int32) (ktl : Nat → Int32) (ktd : Nat → Int32) (ik : Int32) (ofr : Int32) (rd : Int32) (mco : Nat → Int32) (ro : Nat → Int32) (ss : Nat → Int32) (bk : Nat) (bo : Nat → Int32) (ko : Int32) (mkpe : Int32) (mkmi : Int32) (kbk : Int32) (kro : Nat → Int32) (kss : Nat → Int32) (kbo : Nat → Int32) (x1 : Int32) (x2 : Int32) (h : RR qb pl co nl kd ho sn li pe sc wv dk to tl td kli kmi kpe ksc kwv kdk kto ktl ktd ik ofr rd mco ro ss bk bo ko mkpe mkmi kbk kro kss kbo) : (f_X4_about li pe sc wv dk x1 x2) = (f_X5_about pe ro ss x1 x2) := by
  obtain ⟨v, hh, hn, hpe, hv, hli, hhh, hse, hsc⟩ := ev_cx h.2.1 h.2.2.1
  have hp4 := h.2.2.1.2.2.2.1
  unfold f_X4_about f_X5_about
  rcases isP (show pe ≤ 6 by omega) x1 with ⟨e4, e5⟩ | ⟨j, hj, rfl, e4, e5⟩
  · rw [e4, e5, if_pos rfl, if_pos rfl]
  · rw [e4, e5, if_neg n10, if_neg n10, nI_clamp (by omega)]
    obtain ⟨z1, ⟨q, hq, z2⟩, z3, z4⟩ := hp4 j hj
    unfold f_X5_tell
    rw [z1, z2, hli, left_pk hn (fun l q => (hv l q).1) hq, show (3 * nI q + 2 : Int32) = nI (3 * q + 2) from ix_add (ix_mul rfl rfl) rfl, nI_clamp (by omega), (hv q hq).2, show 3 * j + 2 - 1 = 3 * j + 1 by omega, z3, show 3 * j + 3 - 1 = 3 * j + 2 by omega, z4]
theorem s_move (qb : Nat) (pl : Nat) (co : Nat → Int32) (nl : Nat) (kd : Nat → Int32) (ho : Nat → Int32) (sn : Nat → Int32) (li : Int32) (pe : Nat) (sc : Nat → Int32) (wv : Nat → Int32) (dk : Nat → Int32) (to : Int32) (tl : Nat → Int32) (td : Nat → Int32) (kli : Int32) (kmi : Int32) (kpe : Int32) (ksc : Nat → Int32) (kwv : Nat → Int32) (kdk : Nat → Int32) (kto : Int32) (ktl : Nat → Int32) (ktd : Nat → Int32) (ik : Int32) (ofr : Int32) (rd : Int32) (mco : Nat → Int32) (ro : Nat → Int32) (ss : Nat → Int32) (bk : Nat) (bo : Nat → Int32) (ko : Int32) (mkpe : Int32) (mkmi : Int32) (kbk : Int32) (kro : Nat → Int32) (kss : Nat → Int32) (kbo : Nat → Int32) (x1 : Int32) (x2 : Int32) (h : RR qb pl co nl kd ho sn li pe sc wv dk to tl td kli kmi kpe ksc kwv kdk kto ktl ktd ik ofr rd mco ro ss bk bo ko mkpe mkmi kbk kro kss kbo) : (f_X4_move nl pe sc x1 x2) = (f_X5_move nl pe ss x1 x2) ∧ RR (qb + 4) pl co nl kd ho sn li pe (f_X4_move_Es nl pe sc x1 x2) wv dk to tl td kli kmi kpe ksc kwv kdk kto ktl ktd ik ofr rd mco ro (f_X5_move_Ms nl pe ss x1 x2) bk bo ko mkpe mkmi kbk kro kss kbo := by
  obtain ⟨h1, h2, h3, h4, h5⟩ := h
  have hn := h2.2.1
  have hpe := h3.2.2.1
  unfold f_X4_move f_X5_move f_X4_move_Es f_X5_move_Ms
  rcases isP (show pe ≤ 6 by omega) x1 with ⟨e4, e5⟩ | ⟨j, hj, rfl, e4, e5⟩
  · simp only [e4, e5, ↓reduceIte]
    exact ⟨trivial, h1, h2, h3, h4.mono, h5⟩
  · rcases isL hn x2 with ⟨d4, d5⟩ | ⟨l, hl, rfl, d4, d5⟩
    · simp only [e4, e5, d4, d5, n10, ↓reduceIte]
      exact ⟨trivial, h1, h2, h3, h4.mono, h5⟩
    · simp only [e4, e5, d4, d5, n10, ↓reduceIte, nI_clamp (show j < 2 ^ 31 by omega)]
      obtain ⟨g1, g2, g3, g4, g5⟩ := h3
      refine ⟨(g4 j hj).1.symm, h1, h2, ⟨g1, g2, g3, fun i hi => ?_, g5⟩, h4.mono, h5⟩
      by_cases c : i = j
      · subst c
        rw [pk_us, pk_us, pk_un (show 3 * i + 1 ≠ 3 * i by omega), pk_un (show 3 * i + 2 ≠ 3 * i by omega)]
        exact ⟨rfl, ⟨l, hl, rfl⟩, (g4 i hj).2.2⟩
      · rw [pk_un c, pk_un (show 3 * i ≠ 3 * j by omega), pk_un (show 3 * i + 1 ≠ 3 * j by omega), pk_un (show 3 * i + 2 ≠ 3 * j by omega)]
        exact g4 i hi
theorem most_i {sn ro : Nat → Int32} {nl : Nat} (h : ∀ l, l < nl → f_X5_seesOf nl ro l = sn l) : ∀ i, f_X1_mostSeen_4_v1 nl sn i = f_X5_togetherOf_4_v2 nl ro i
  | 0 => rfl
  | i + 1 => by rw [f_X1_mostSeen_4_v1, f_X5_togetherOf_4_v2, most_i h i, seeing_eq _ h, seeing_eq _ h]
theorem s_together (qb : Nat) (pl : Nat) (co : Nat → Int32) (nl : Nat) (kd : Nat → Int32) (ho : Nat → Int32) (sn : Nat → Int32) (li : Int32) (pe : Nat) (sc : Nat → Int32) (wv : Nat → Int32) (dk : Nat → Int32) (to : Int32) (tl : Nat → Int32) (td : Nat → Int32) (kli : Int32) (kmi : Int32) (kpe : Int32) (ksc : Nat → Int32) (kwv : Nat → Int32) (kdk : Nat → Int32) (kto : Int32) (ktl : Nat → Int32) (ktd : Nat → Int32) (ik : Int32) (ofr : Int32) (rd : Int32) (mco : Nat → Int32) (ro : Nat → Int32) (ss : Nat → Int32) (bk : Nat) (bo : Nat → Int32) (ko : Int32) (mkpe : Int32) (mkmi : Int32) (kbk : Int32) (kro : Nat → Int32) (kss : Nat → Int32) (kbo : Nat → Int32) (x1 : Int32) (h : RR qb pl co nl kd ho sn li pe sc wv dk to tl td kli kmi kpe ksc kwv kdk kto ktl ktd ik ofr rd mco ro ss bk bo ko mkpe mkmi kbk kro kss kbo) : (f_X4_together nl sn x1) = (f_X5_together nl ro x1) := by
  obtain ⟨v, hh, hn, hpe, hv, hli, hhh, hse, hsc⟩ := ev_cx h.2.1 h.2.2.1
  have e : f_X5_in x1.toInt64 0 1 = if x1 < 0 then 0 else if 1 < x1 then 0 else 1 := in_k x1 0 1 (by decide) (by decide)
  unfold f_X4_together f_X5_together
  rw [e]
  by_cases c1 : x1 < 0
  · simp only [c1, ↓reduceIte]
  · by_cases c2 : 1 < x1
    · have c3 : ¬ x1 ≤ 1 := Int32.not_le.mpr c2
      simp only [c1, c2, c3, ↓reduceIte]
    · have c3 : x1 ≤ 1 := Int32.not_lt.mp c2
      simp only [c1, c2, c3, n10, ↓reduceIte]
      rcases office_eq hn with ⟨-, e4, e5⟩ | ⟨-, e4, e5⟩
      · simp only [e4, e5, n10, ↓reduceIte]
      · simp only [e4, e5, n10, ↓reduceIte]
        unfold f_X5_togetherOf f_X1_mostSeen
        rw [most_i hse, seeing_eq _ hse]
theorem eb_l (tl : Nat → Int32) : ∀ n j, j < n → f_X0_emptyBook_7_El tl n j = 0
  | 0, j, h => absurd h (Nat.not_lt_zero j)
  | n + 1, j, h => by
    rw [f_X0_emptyBook_7_El]
    by_cases q : j = n
    · subst q
      rw [pk_us]
    · rw [pk_un q, eb_l tl n j (by omega)]
theorem eb_t (tl : Nat → Int32) : ∀ n j, j < n → f_X0_emptyBook_7_Et tl n j = 0
  | 0, j, h => absurd h (Nat.not_lt_zero j)
  | n + 1, j, h => by
    rw [f_X0_emptyBook_7_Et]
    by_cases q : j = n
    · subst q
      rw [pk_us]
    · rw [pk_un q, eb_t tl n j (by omega)]
theorem s_forget (qb : Nat) (pl : Nat) (co : Nat → Int32) (nl : Nat) (kd : Nat → Int32) (ho : Nat → Int32) (sn : Nat → Int32) (li : Int32) (pe : Nat) (sc : Nat → Int32) (wv : Nat → Int32) (dk : Nat → Int32) (to : Int32) (tl : Nat → Int32) (td : Nat → Int32) (kli : Int32) (kmi : Int32) (kpe : Int32) (ksc : Nat → Int32) (kwv : Nat → Int32) (kdk : Nat → Int32) (kto : Int32) (ktl : Nat → Int32) (ktd : Nat → Int32) (ik : Int32) (ofr : Int32) (rd : Int32) (mco : Nat → Int32) (ro : Nat → Int32) (ss : Nat → Int32) (bk : Nat) (bo : Nat → Int32) (ko : Int32) (mkpe : Int32) (mkmi : Int32) (kbk : Int32) (kro : Nat → Int32) (kss : Nat → Int32) (kbo : Nat → Int32) (h : RR qb pl co nl kd ho sn li pe sc wv dk to tl td kli kmi kpe ksc kwv kdk kto ktl ktd ik ofr rd mco ro ss bk bo ko mkpe mkmi kbk kro kss kbo) : (f_X4_forget to) = (f_X5_forget bk) ∧ RR (qb + 4) pl co nl kd ho sn li pe sc wv dk 0 (f_X4_forget_El tl) (f_X4_forget_Et td) kli kmi kpe ksc kwv kdk kto ktl ktd ik ofr rd mco ro ss 0 bo ko mkpe mkmi kbk kro kss kbo := by
  obtain ⟨h1, h2, ⟨g1, g2, g3, g4, g5, g6, g7, g8⟩, h4, h5⟩ := h
  exact ⟨g6, h1, h2, ⟨g1, g2, g3, g4, by omega, rfl, fun j q => absurd q (Nat.not_lt_zero j), fun m hm => ⟨eb_l tl 7 m (by omega), eb_t td 7 m (by omega)⟩⟩, h4.mono, h5⟩
theorem cp_i (fr gr : Nat → Int32) : ∀ n j, j < n → f_X5_copy_2_G fr gr n j = fr j
  | 0, j, h => absurd h (Nat.not_lt_zero j)
  | n + 1, j, h => by
    rw [f_X5_copy_2_G]
    by_cases q : j = n
    · subst q
      rw [pk_us]
    · rw [pk_un q, cp_i fr gr n j (by omega)]
theorem cp_d (fr gr : Nat → Int32) : ∀ n, f_X0_copy_34_Ed gr fr n = f_X5_copy_2_G fr gr n
  | 0 => rfl
  | n + 1 => by rw [f_X0_copy_34_Ed, f_X5_copy_2_G, cp_d]
theorem cp_s (fr gr : Nat → Int32) : ∀ n, f_X0_copy_34_Es gr fr n = f_X5_copy_2_G fr gr n
  | 0 => rfl
  | n + 1 => by rw [f_X0_copy_34_Es, f_X5_copy_2_G, cp_s]
theorem cp_w (fr gr : Nat → Int32) : ∀ n, f_X0_copy_34_Ew gr fr n = f_X5_copy_2_G fr gr n
  | 0 => rfl
  | n + 1 => by rw [f_X0_copy_34_Ew, f_X5_copy_2_G, cp_w]
theorem cp_l (fr gr : Nat → Int32) : ∀ n, f_X0_copy_83_El gr fr n = f_X5_copy_2_G fr gr n
  | 0 => rfl
  | n + 1 => by rw [f_X0_copy_83_El, f_X5_copy_2_G, cp_l]
theorem cp_t (fr gr : Nat → Int32) : ∀ n, f_X0_copy_83_Et gr fr n = f_X5_copy_2_G fr gr n
  | 0 => rfl
  | n + 1 => by rw [f_X0_copy_83_Et, f_X5_copy_2_G, cp_t]
theorem bm_cong {b : Int32} {m : Nat} {bo bo' : Nat → Int32} : ∀ n, (∀ j, j < 3 * n → bo' j = bo j) → bmask b m bo' n = bmask b m bo n
  | 0, _ => rfl
  | n + 1, h => by rw [bmask, bmask, h (3 * n) (by omega), h (3 * n + 1) (by omega), h (3 * n + 2) (by omega), bm_cong n (fun j q => h j (by omega))]
theorem REv.cong {nl : Nat} {kd ho : Nat → Int32} {li : Int32} {pe : Nat} {sc wv dk : Nat → Int32} {to : Int32} {tl td ro ss : Nat → Int32} {bk : Nat} {bo : Nat → Int32} {sc' wv' dk' tl' td' ro' ss' bo' : Nat → Int32} (hn : nl ≤ 6) (h : REv nl kd ho li pe sc wv dk to tl td ro ss bk bo)
    (h1 : ∀ j, j < 4 → sc' j = sc j) (h2 : ∀ j, j < 4 → wv' j = wv j) (h3 : ∀ j, j < 4 → dk' j = dk j) (h4 : ∀ j, j < 7 → tl' j = tl j) (h5 : ∀ j, j < 7 → td' j = td j) (h6 : ∀ j, j < 18 → ro' j = ro j) (h7 : ∀ j, j < 12 → ss' j = ss j) (h8 : ∀ j, j < 24 → bo' j = bo j) : REv nl kd ho li pe sc' wv' dk' to tl' td' ro' ss' bk bo' := by
  obtain ⟨⟨v, hv, e⟩, hk, hp, hs, hb, hto, hbo, hm⟩ := h
  refine ⟨⟨v, fun l q => ⟨(hv l q).1, by rw [h6 _ (by omega)]; exact (hv l q).2⟩, e⟩, fun l q => by rw [h6 (3 * l) (by omega), h6 (3 * l + 1) (by omega)]; exact hk l q, hp, fun j q => by rw [h7 (3 * j) (by omega), h7 (3 * j + 1) (by omega), h7 (3 * j + 2) (by omega), h1 j (by omega), h2 j (by omega), h3 j (by omega)]; exact hs j q, hb, hto, fun j q => by rw [h8 (3 * j) (by omega), h8 (3 * j + 1) (by omega), h8 (3 * j + 2) (by omega)]; exact hbo j q, fun m q => ?_⟩
  rw [h4 m (by omega), h5 m (by omega), bm_cong bk (fun j q => h8 j (by omega)), bm_cong bk (fun j q => h8 j (by omega))]
  exact hm m q
theorem s_image (qb : Nat) (pl : Nat) (co : Nat → Int32) (nl : Nat) (kd : Nat → Int32) (ho : Nat → Int32) (sn : Nat → Int32) (li : Int32) (pe : Nat) (sc : Nat → Int32) (wv : Nat → Int32) (dk : Nat → Int32) (to : Int32) (tl : Nat → Int32) (td : Nat → Int32) (kli : Int32) (kmi : Int32) (kpe : Int32) (ksc : Nat → Int32) (kwv : Nat → Int32) (kdk : Nat → Int32) (kto : Int32) (ktl : Nat → Int32) (ktd : Nat → Int32) (ik : Int32) (ofr : Int32) (rd : Int32) (mco : Nat → Int32) (ro : Nat → Int32) (ss : Nat → Int32) (bk : Nat) (bo : Nat → Int32) (ko : Int32) (mkpe : Int32) (mkmi : Int32) (kbk : Int32) (kro : Nat → Int32) (kss : Nat → Int32) (kbo : Nat → Int32) (mi : Int32) (h : RR qb pl co nl kd ho sn li pe sc wv dk to tl td kli kmi kpe ksc kwv kdk kto ktl ktd ik ofr rd mco ro ss bk bo ko mkpe mkmi kbk kro kss kbo) : (f_X4_image nl mi) = (f_X5_image nl mi) ∧ RR (qb + 4) pl co nl kd ho sn li pe sc wv dk to tl td (f_X4_image_K_0 nl li kli) (f_X4_image_K_1 nl mi kmi) (f_X4_image_K_2 nl pe kpe) (f_X4_image_Ks nl sc ksc) (f_X4_image_Kw nl wv kwv) (f_X4_image_Kd nl dk kdk) (f_X4_image_K_6 nl to kto) (f_X4_image_Kl nl tl ktl) (f_X4_image_Kt nl td ktd) (f_X4_image_O_7 ik nl) ofr rd mco ro ss bk bo (f_X5_image_M_16 ofr nl ko) (f_X5_image_M_17 nl pe mkpe) (f_X5_image_M_18 nl mi mkmi) (f_X5_image_M_19 nl bk kbk) (f_X5_image_Mkr nl ro kro) (f_X5_image_Mks nl ss kss) (f_X5_image_Mkb nl bo kbo) := by
  obtain ⟨h1, h2, h3, h4, h5⟩ := h
  have hn := h2.2.1
  unfold f_X4_image f_X5_image f_X4_image_K_0 f_X4_image_K_1 f_X4_image_K_2 f_X4_image_Ks f_X4_image_Kw f_X4_image_Kd f_X4_image_K_6 f_X4_image_Kl f_X4_image_Kt f_X4_image_O_7 f_X5_image_M_16 f_X5_image_M_17 f_X5_image_M_18 f_X5_image_M_19 f_X5_image_Mkr f_X5_image_Mks f_X5_image_Mkb
  rcases office_eq hn with ⟨n0, e4, e5⟩ | ⟨n0, e4, e5⟩
  · simp only [e4, e5, n10, ↓reduceIte]
    exact ⟨trivial, h1, h2, h3, h4.mono, h5⟩
  · simp only [e4, e5, n10, ↓reduceIte]
    obtain ⟨q, hq, eo, -⟩ := h4
    refine ⟨trivial, h1, h2, h3, ⟨q, by omega, eo, Or.inr ⟨q, Nat.le_refl q, eo⟩, Or.inr ⟨rfl, rfl, n0, rfl, pe, bk, rfl, rfl, rfl, ?_⟩⟩, h5⟩
    refine REv.cong hn h3 ?_ ?_ ?_ ?_ ?_ ?_ ?_ ?_
    · intro j hj
      show f_X0_copy_34_Es ksc sc 4 j = _
      rw [cp_s, cp_i _ _ _ _ hj]
    · intro j hj
      show f_X0_copy_34_Ew kwv wv 4 j = _
      rw [cp_w, cp_i _ _ _ _ hj]
    · intro j hj
      show f_X0_copy_34_Ed kdk dk 4 j = _
      rw [cp_d, cp_i _ _ _ _ hj]
    · intro j hj
      show f_X0_copy_83_El ktl tl 7 j = _
      rw [cp_l, cp_i _ _ _ _ hj]
    · intro j hj
      show f_X0_copy_83_Et ktd td 7 j = _
      rw [cp_t, cp_i _ _ _ _ hj]
    · exact fun j hj => cp_i _ _ _ _ hj
    · exact fun j hj => cp_i _ _ _ _ hj
    · exact fun j hj => cp_i _ _ _ _ hj
theorem s_restore (qb : Nat) (pl : Nat) (co : Nat → Int32) (nl : Nat) (kd : Nat → Int32) (ho : Nat → Int32) (sn : Nat → Int32) (li : Int32) (pe : Nat) (sc : Nat → Int32) (wv : Nat → Int32) (dk : Nat → Int32) (to : Int32) (tl : Nat → Int32) (td : Nat → Int32) (kli : Int32) (kmi : Int32) (kpe : Int32) (ksc : Nat → Int32) (kwv : Nat → Int32) (kdk : Nat → Int32) (kto : Int32) (ktl : Nat → Int32) (ktd : Nat → Int32) (ik : Int32) (ofr : Int32) (rd : Int32) (mco : Nat → Int32) (ro : Nat → Int32) (ss : Nat → Int32) (bk : Nat) (bo : Nat → Int32) (ko : Int32) (mkpe : Int32) (mkmi : Int32) (kbk : Int32) (kro : Nat → Int32) (kss : Nat → Int32) (kbo : Nat → Int32) (mi : Int32) (h : RR qb pl co nl kd ho sn li pe sc wv dk to tl td kli kmi kpe ksc kwv kdk kto ktl ktd ik ofr rd mco ro ss bk bo ko mkpe mkmi kbk kro kss kbo) : (f_X4_restore ik kmi) = (f_X5_restore ofr mkmi ko) ∧ ∃ pe2 bk2 : Nat, (f_X4_restore_E_2 ik pe kpe) = nI pe2 ∧ (f_X5_restore_M_6 ofr pe mkpe ko) = nI pe2 ∧ (f_X5_restore_M_13 ofr bk ko kbk) = nI bk2 ∧ (f_X5_restore_M_3 ofr mi mkmi ko) = (f_X4_restore_E_1 ik mi kmi) ∧ RR (qb + 4) pl co nl kd ho sn (f_X4_restore_E_0 ik li kli) pe2 (f_X4_restore_Es ik sc ksc) (f_X4_restore_Ew ik wv kwv) (f_X4_restore_Ed ik dk kdk) (f_X4_restore_E_6 ik to kto) (f_X4_restore_El ik tl ktl) (f_X4_restore_Et ik td ktd) kli kmi kpe ksc kwv kdk kto ktl ktd ik ofr rd mco (f_X5_restore_Mr ofr ko ro kro) (f_X5_restore_Ms ofr ko ss kss) bk2 (f_X5_restore_Mo ofr ko bo kbo) ko mkpe mkmi kbk kro kss kbo := by
  obtain ⟨h1, h2, h3, h4, h5⟩ := h
  have hn := h2.2.1
  have h4' := h4.mono
  obtain ⟨q, hq, eo, ek, hc⟩ := h4
  unfold f_X4_restore f_X5_restore f_X4_restore_E_0 f_X4_restore_E_1 f_X4_restore_E_2 f_X4_restore_E_6 f_X4_restore_Es f_X4_restore_Ew f_X4_restore_Ed f_X4_restore_El f_X4_restore_Et f_X5_restore_M_13 f_X5_restore_M_3 f_X5_restore_M_6 f_X5_restore_Mo f_X5_restore_Mr f_X5_restore_Ms
  rcases hc with ⟨c1, c2⟩ | ⟨c1, c2, n0, em, kp, kb, e1, e2, e3, hE⟩
  · simp only [if_pos c1, if_neg c2]
    exact ⟨trivial, pe, bk, rfl, rfl, rfl, trivial, h1, h2, h3, h4', h5⟩
  · have c1' : ¬ ik = 0 := by rw [c1]; exact n10
    simp only [if_neg c1', if_pos c2]
    refine ⟨em.symm, kp, kb, e1, e2, e3, em, h1, h2, ?_, h4', h5⟩
    refine REv.cong hn hE ?_ ?_ ?_ ?_ ?_ ?_ ?_ ?_
    · intro j hj
      show f_X0_copy_34_Es sc ksc 4 j = _
      rw [cp_s, cp_i _ _ _ _ hj]
    · intro j hj
      show f_X0_copy_34_Ew wv kwv 4 j = _
      rw [cp_w, cp_i _ _ _ _ hj]
    · intro j hj
      show f_X0_copy_34_Ed dk kdk 4 j = _
      rw [cp_d, cp_i _ _ _ _ hj]
    · intro j hj
      show f_X0_copy_83_El tl ktl 7 j = _
      rw [cp_l, cp_i _ _ _ _ hj]
    · intro j hj
      show f_X0_copy_83_Et td ktd 7 j = _
      rw [cp_t, cp_i _ _ _ _ hj]
    · exact fun j hj => cp_i _ _ _ _ hj
    · exact fun j hj => cp_i _ _ _ _ hj
    · exact fun j hj => cp_i _ _ _ _ hj
