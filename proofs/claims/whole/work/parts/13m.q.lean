/-! pure rows M: the digest -/
theorem isL1 {nl l : Nat} (hn : nl ≤ 6) (hl : l < nl) : f_X4_isLamp nl (nI l) = 1 ∧ f_X5_isLamp nl (nI l) = 1 := by
  rcases isL hn (nI l) with ⟨e4, -⟩ | ⟨-, -, -, e4, e5⟩
  · unfold f_X4_isLamp at e4
    rw [if_neg (show ¬ nI l < 0 from nlt_f (b := 0) rfl rfl (by omega) (by decide) (by omega)), if_neg (nle_f rfl rfl (by omega) (by omega) hl)] at e4
    exact absurd e4 n10
  · exact ⟨e4, e5⟩
theorem isP1 {pe l : Nat} (hn : pe ≤ 6) (hl : l < pe) : f_X4_isPerson pe (nI l) = 1 ∧ f_X5_isPerson pe (nI l) = 1 := isL1 hn hl
theorem d20 {nl pe : Nat} {kd ho sn sc ro ss : Nat → Int32} {li : Int32} {l : Nat} (h : ∀ w, f_X4_lamp nl kd ho sn li pe sc (nI l) w = f_X5_tellLamp nl pe ro ss l w) (o : Int64) : ∀ i, f_X4_digest_20_v1 nl kd ho sn li pe sc l o i = f_X5_digest_19_M_23 nl pe ro ss l o i
  | 0 => rfl
  | i + 1 => by rw [f_X4_digest_20_v1, f_X5_digest_19_M_23, d20 h o i, h]; rfl
theorem d6 {nl pe : Nat} {kd ho sn sc ro ss : Nat → Int32} {li : Int32} (h : ∀ l, l < nl → ∀ w, f_X4_lamp nl kd ho sn li pe sc (nI l) w = f_X5_tellLamp nl pe ro ss l w) : ∀ i, i ≤ nl → f_X4_digest_6_v1 nl kd ho sn li pe sc i = f_X5_digest_9_M_23 nl pe ro ss i
  | 0, _ => rfl
  | i + 1, hi => by rw [f_X4_digest_6_v1, f_X5_digest_9_M_23, d6 h i (by omega), d20 (h i (by omega))]
theorem d60 {pe : Nat} {sc wv dk ro ss : Nat → Int32} {li : Int32} {j : Nat} (h : ∀ w, f_X4_about li pe sc wv dk (nI j) w = f_X5_tell ro ss j w) (o : Int64) : ∀ i, f_X4_digestPerson_6_v4 li pe sc wv dk o j i = f_X5_digest_60_M_23 ro ss j o i
  | 0 => rfl
  | i + 1 => by rw [f_X4_digestPerson_6_v4, f_X5_digest_60_M_23, d60 h o i, h]; rfl
theorem d55 {nl pe bk : Nat} {kd ho sn sc wv dk tl td ro ss bo lt en : Nat → Int32} {li : Int32} (h1 : ∀ l, l < nl → ∀ w, f_X4_lamp nl kd ho sn li pe sc (nI l) w = f_X5_tellLamp nl pe ro ss l w) (h2 : ∀ j, j < pe → ∀ w, f_X4_about li pe sc wv dk (nI j) w = f_X5_tell ro ss j w)
    (h3 : ∀ j, j < pe → ∀ E L, f_X3_left (f_X3_follow_Ye nl ho sn li tl td E 4 (sc j)) (2 ^ 4) = f_X5_wavedOf nl bk ro ss L bo 4 j 0 ∧ f_X3_first (f_X3_follow_Ye nl ho sn li tl td E 4 (sc j)) (2 ^ 4) = f_X5_wavedOf nl bk ro ss L bo 4 j 1) (h4 : ∀ j, j < pe → ∀ E L, f_X4_look nl ho sn li pe sc tl td E 3 (nI j) = f_X5_lookOf nl bk ro ss L bo 3 j) :
    ∀ i, i ≤ pe → f_X4_digest_55_v1 nl kd ho sn li pe sc wv dk tl td en i = f_X5_digest_50_M_23 nl pe bk ro ss lt bo i
  | 0, _ => d6 h1 nl (Nat.le_refl nl)
  | i + 1, hi => by
    have ih := d55 (lt := lt) (en := en) h1 h2 h3 h4 i (by omega)
    rw [f_X4_digest_55_v1, f_X5_digest_50_M_23, ih]
    unfold f_X4_digestPerson
    rw [d60 (h2 i (by omega)), (h3 i (by omega) _ (f_X5_digest_50_Ml nl bk ro ss lt bo i)).1, (h3 i (by omega) _ (f_X5_wavedOf_Ml nl bk ro ss (f_X5_digest_50_Ml nl bk ro ss lt bo i) bo 4 i)).2, h4 i (by omega) _ (f_X5_wavedOf_Ml nl bk ro ss (f_X5_wavedOf_Ml nl bk ro ss (f_X5_digest_50_Ml nl bk ro ss lt bo i) bo 4 i) bo 4 i)]
    rfl
theorem d155 {pl : Nat} {co mco : Nat → Int32} (h : RPg pl co mco) (o : Int64) : ∀ i, i ≤ pl → f_X4_digest_155_v1 co o i = f_X5_digest_187_M_23 mco o i
  | 0, _ => rfl
  | i + 1, hi => by rw [f_X4_digest_155_v1, f_X5_digest_187_M_23, d155 h o i (by omega), (h.2 i (by omega)).1]; rfl
theorem d191 {ofr rd li mi to : Int32} {pl nl pe bk : Nat} {sc wv dk ro ss : Nat → Int32} (h : ∀ w, f_X4_count ofr rd pl nl li mi pe to sc wv dk w = f_X5_countOf ofr rd pl nl mi pe bk ro ss w) (o : Int64) : ∀ i, f_X4_digest_191_v1 ofr rd pl nl li mi pe to sc wv dk o i = f_X5_digest_214_M_23 ofr rd pl nl mi pe bk ro ss o i
  | 0 => rfl
  | i + 1 => by rw [f_X4_digest_191_v1, f_X5_digest_214_M_23, d191 h o i, h]; rfl
theorem s_digest (qb : Nat) (pl : Nat) (co : Nat → Int32) (nl : Nat) (kd : Nat → Int32) (ho : Nat → Int32) (sn : Nat → Int32) (li : Int32) (pe : Nat) (sc : Nat → Int32) (wv : Nat → Int32) (dk : Nat → Int32) (to : Int32) (tl : Nat → Int32) (td : Nat → Int32) (kli : Int32) (kmi : Int32) (kpe : Int32) (ksc : Nat → Int32) (kwv : Nat → Int32) (kdk : Nat → Int32) (kto : Int32) (ktl : Nat → Int32) (ktd : Nat → Int32) (ik : Int32) (ofr : Int32) (rd : Int32) (mco : Nat → Int32) (ro : Nat → Int32) (ss : Nat → Int32) (bk : Nat) (bo : Nat → Int32) (ko : Int32) (mkpe : Int32) (mkmi : Int32) (kbk : Int32) (kro : Nat → Int32) (kss : Nat → Int32) (kbo : Nat → Int32) (mi : Int32) (en : Nat → Int32) (pn : Nat → Int32) (lt : Nat → Int32) (bc : Int32) (h : RR qb pl co nl kd ho sn li pe sc wv dk to tl td kli kmi kpe ksc kwv kdk kto ktl ktd ik ofr rd mco ro ss bk bo ko mkpe mkmi kbk kro kss kbo) : (f_X4_digest ofr rd pl co nl kd ho sn li mi pe to sc wv dk tl td en pn) = (f_X5_digest ofr rd pl mco nl mi pe bc bk ro ss lt bo) := by
  have hn := h.2.1.2.1
  have hpe := h.2.2.1.2.2.1
  have a1 : ∀ l, l < nl → ∀ w, f_X4_lamp nl kd ho sn li pe sc (nI l) w = f_X5_tellLamp nl pe ro ss l w := fun l hl w => by
    have q := s_lamp (x1 := nI l) (x2 := w) (h := h)
    rw [q]
    unfold f_X5_lamp
    rw [(isL1 hn hl).2, if_neg n10, nI_clamp (by omega)]
  have a2 : ∀ j, j < pe → ∀ w, f_X4_about li pe sc wv dk (nI j) w = f_X5_tell ro ss j w := fun j hj w => by
    have q := s_about (x1 := nI j) (x2 := w) (h := h)
    rw [q]
    unfold f_X5_about
    rw [(isP1 (show pe ≤ 6 by omega) hj).2, if_neg n10, nI_clamp (by omega)]
  have a3 : ∀ j, j < pe → ∀ E L, f_X3_left (f_X3_follow_Ye nl ho sn li tl td E 4 (sc j)) (2 ^ 4) = f_X5_wavedOf nl bk ro ss L bo 4 j 0 ∧ f_X3_first (f_X3_follow_Ye nl ho sn li tl td E 4 (sc j)) (2 ^ 4) = f_X5_wavedOf nl bk ro ss L bo 4 j 1 := fun j hj E L => by
    have hs := sm_of (en := E) (mm := 4) h.2.1 h.2.2.1 (by decide) hj
    unfold f_X5_wavedOf
    rw [wv_r hs 0 (2 ^ 4) (Nat.le_refl _) (by decide), wv_r hs 1 (2 ^ 4) (Nat.le_refl _) (by decide), if_pos rfl, if_neg n10, first_lo (by decide), Int32.zero_add]
    exact ⟨rfl, rfl⟩
  have a4 : ∀ j, j < pe → ∀ E L, f_X4_look nl ho sn li pe sc tl td E 3 (nI j) = f_X5_lookOf nl bk ro ss L bo 3 j := fun j hj E L => by
    have q := s_look (en := E) (lt := L) (x1 := nI j) (x2 := 3) (h := h)
    rw [q]
    unfold f_X5_look
    rw [(isP1 (show pe ≤ 6 by omega) hj).2, if_neg n10, show f_X5_in (Int32.toInt64 3) 1 6 = 1 by decide, if_neg n10, nI_clamp (by omega)]
    rfl
  have a5 : ∀ w, f_X4_count ofr rd pl nl li mi pe to sc wv dk w = f_X5_countOf ofr rd pl nl mi pe bk ro ss w := fun w => s_count (mi := mi) (x1 := w) (h := h)
  unfold f_X4_digest f_X5_digest
  rcases office_eq hn with ⟨n0, e4, e5⟩ | ⟨n0, e4, e5⟩
  · rw [e4, e5, if_pos rfl, if_neg n10, d191 a5, d155 h.1 _ pl (Nat.le_refl pl), d55 (lt := lt) (en := en) a1 a2 a3 a4 pe (Nat.le_refl pe)]
  · have t1 : ∀ C L, f_X4_planWaving nl ho sn li pe sc pn 2 = f_X5_leastOf nl pe C ro ss L 2 0 := fun C L => by
      have q := s_least (pn := pn) (lt := L) (bc := C) (x1 := 2) (x2 := 0) (h := h)
      unfold f_X4_least f_X5_least at q
      rw [if_neg (show ¬ (2 : Int32) < 1 by decide), if_pos (show (2 : Int32) ≤ 3 by decide), if_pos rfl, e4, if_neg n10, show f_X5_in (Int32.toInt64 2) 1 3 = 1 by decide, if_neg n10, if_pos rfl, e5, if_pos rfl] at q
      exact q
    have t2 : ∀ C L, f_X4_planWaving_N nl ho sn li pe sc pn 2 0 = f_X5_leastOf nl pe C ro ss L 2 10 := fun C L => by
      have q := s_least (pn := pn) (lt := L) (bc := C) (x1 := 2) (x2 := 10) (h := h)
      unfold f_X4_least f_X5_least at q
      rw [if_neg (show ¬ (2 : Int32) < 1 by decide), if_pos (show (2 : Int32) ≤ 3 by decide), if_neg (show ¬ (10 : Int32) = 0 by decide), show f_X4_asksMinute 3 10 = 1 by decide, if_neg n10, e4, if_neg n10, show f_X5_in (Int32.toInt64 2) 1 3 = 1 by decide, if_neg n10, if_neg (show ¬ (10 : Int32) = 0 by decide), show f_X5_in (Int32.toInt64 10) 10 12 = 1 by decide, if_neg n10, e5, if_pos rfl] at q
      exact q
    have t3 : ∀ C L, f_X4_planWaving_N nl ho sn li pe sc pn 2 1 = f_X5_leastOf nl pe C ro ss L 2 11 := fun C L => by
      have q := s_least (pn := pn) (lt := L) (bc := C) (x1 := 2) (x2 := 11) (h := h)
      unfold f_X4_least f_X5_least at q
      rw [if_neg (show ¬ (2 : Int32) < 1 by decide), if_pos (show (2 : Int32) ≤ 3 by decide), if_neg (show ¬ (11 : Int32) = 0 by decide), show f_X4_asksMinute 3 11 = 1 by decide, if_neg n10, e4, if_neg n10, show f_X5_in (Int32.toInt64 2) 1 3 = 1 by decide, if_neg n10, if_neg (show ¬ (11 : Int32) = 0 by decide), show f_X5_in (Int32.toInt64 11) 10 12 = 1 by decide, if_neg n10, e5, if_pos rfl] at q
      exact q
    have t4 : f_X4_together nl sn 0 = f_X5_togetherOf nl ro 0 := by
      have q := s_together (x1 := 0) (h := h)
      rw [q]
      unfold f_X5_together
      rw [show f_X5_in (Int32.toInt64 0) 0 1 = 1 by decide, if_neg n10, e5, if_pos rfl]
    have t5 : f_X4_together nl sn 1 = f_X5_togetherOf nl ro 1 := by
      have q := s_together (x1 := 1) (h := h)
      rw [q]
      unfold f_X5_together
      rw [show f_X5_in (Int32.toInt64 1) 0 1 = 1 by decide, if_neg n10, e5, if_pos rfl]
    rw [e4, e5, if_neg n10, if_pos rfl, d191 a5, d155 h.1 _ pl (Nat.le_refl pl), d55 (lt := lt) (en := en) a1 a2 a3 a4 pe (Nat.le_refl pe), t4, t5]
    rw [t1 bc (f_X5_digest_50_Ml nl bk ro ss lt bo pe), t2 (f_X5_leastOf_M_9 nl pe bc ro ss (f_X5_digest_50_Ml nl bk ro ss lt bo pe) 2) (f_X5_leastOf_Ml nl pe ro ss (f_X5_digest_50_Ml nl bk ro ss lt bo pe) 2), t3 (f_X5_leastOf_M_9 nl pe (f_X5_leastOf_M_9 nl pe bc ro ss (f_X5_digest_50_Ml nl bk ro ss lt bo pe) 2) ro ss (f_X5_leastOf_Ml nl pe ro ss (f_X5_digest_50_Ml nl bk ro ss lt bo pe) 2) 2) (f_X5_leastOf_Ml nl pe ro ss (f_X5_leastOf_Ml nl pe ro ss (f_X5_digest_50_Ml nl bk ro ss lt bo pe) 2) 2)]
    rfl
