/-! pure rows B: the simple methods -/
theorem RKp.mono {qb nl : Nat} {kd ho : Nat → Int32} {ik ofr ko kli kmi kpe : Int32} {ksc kwv kdk : Nat → Int32} {kto : Int32} {ktl ktd kro kss : Nat → Int32} {mkpe mkmi kbk : Int32} {kbo : Nat → Int32} (h : RKp qb nl kd ho ik ofr ko kli kmi kpe ksc kwv kdk kto ktl ktd kro kss mkpe mkmi kbk kbo) : RKp (qb + 4) nl kd ho ik ofr ko kli kmi kpe ksc kwv kdk kto ktl ktd kro kss mkpe mkmi kbk kbo := by
  obtain ⟨q, h1, h2⟩ := h
  exact ⟨q, by omega, h2⟩
theorem RR.mono {qb : Nat} {pl : Nat} {co : Nat → Int32} {nl : Nat} {kd ho sn : Nat → Int32} {li : Int32} {pe : Nat} {sc wv dk : Nat → Int32} {to : Int32} {tl td : Nat → Int32} {kli kmi kpe : Int32} {ksc kwv kdk : Nat → Int32} {kto : Int32} {ktl ktd : Nat → Int32} {ik ofr rd : Int32} {mco ro ss : Nat → Int32} {bk : Nat} {bo : Nat → Int32} {ko mkpe mkmi kbk : Int32} {kro kss kbo : Nat → Int32} (h : RR qb pl co nl kd ho sn li pe sc wv dk to tl td kli kmi kpe ksc kwv kdk kto ktl ktd ik ofr rd mco ro ss bk bo ko mkpe mkmi kbk kro kss kbo) : RR (qb + 4) pl co nl kd ho sn li pe sc wv dk to tl td kli kmi kpe ksc kwv kdk kto ktl ktd ik ofr rd mco ro ss bk bo ko mkpe mkmi kbk kro kss kbo := ⟨h.1, h.2.1, h.2.2.1, h.2.2.2.1.mono, h.2.2.2.2⟩
theorem n10 : ¬ (1 : Int32) = 0 := by decide
theorem i0 (n : Int32) (h : ¬ n < 0) : ∃ k, k < 2 ^ 31 ∧ n = nI k := by
  have h1 : (0 : Int32).toInt ≤ n.toInt := Int.not_lt.mp (fun q => h (Int32.lt_iff_toInt_lt.mpr q))
  have h1 : (0 : Int) ≤ n.toInt := h1
  have h2 : n.toInt < 2 ^ 31 := Int32.toInt_lt n
  refine ⟨n.toInt.toNat, by omega, Int32.toInt_inj.mp ?_⟩
  rw [nI_toInt (by omega)]
  omega
theorem cmp_gt (a b : Int64) : (0 < lg_cmp a b) ↔ b < a := by
  unfold lg_cmp
  by_cases h : a > b
  · rw [if_pos h]
    exact ⟨fun _ => h, fun _ => by decide⟩
  · rw [if_neg h]
    by_cases h2 : a = b
    · rw [if_pos h2]
      exact ⟨fun q => absurd q (by decide), fun q => absurd q h⟩
    · rw [if_neg h2]
      exact ⟨fun q => absurd q (by decide), fun q => absurd q h⟩
theorem cmp_lt (a b : Int64) : (lg_cmp a b < 0) ↔ a < b := by
  unfold lg_cmp
  by_cases h : a > b
  · rw [if_pos h]
    exact ⟨fun q => absurd q (by decide), fun q => absurd (Int64.lt_trans h q) (Int64.lt_irrefl)⟩
  · rw [if_neg h]
    by_cases h2 : a = b
    · rw [if_pos h2]
      exact ⟨fun q => absurd q (by decide), fun q => absurd (h2 ▸ q) (Int64.lt_irrefl)⟩
    · rw [if_neg h2]
      exact ⟨fun _ => by
        have h : ¬ b < a := h
        rw [Int64.lt_iff_toInt_lt] at h ⊢
        have : ¬ a.toInt = b.toInt := fun q => h2 (Int64.toInt_inj.mp q)
        omega, fun _ => by decide⟩
theorem in_k (a b c : Int32) {B C : Int64} (hB : B = b.toInt64) (hC : C = c.toInt64) : f_X5_in a.toInt64 B C = if a < b then 0 else if c < a then 0 else 1 := by
  subst hB hC
  simp only [f_X5_in, cmp_lt, cmp_gt]
  simp only [Int64.lt_iff_toInt_lt, Int32.toInt_toInt64, Int32.lt_iff_toInt_lt]
theorem isL {nl : Nat} (hn : nl ≤ 6) (n : Int32) : (f_X4_isLamp nl n = 0 ∧ f_X5_isLamp nl n = 0) ∨ ∃ l, l < nl ∧ n = nI l ∧ f_X4_isLamp nl n = 1 ∧ f_X5_isLamp nl n = 1 := by
  have e5 : f_X5_isLamp nl n = if n < 0 then 0 else if nI nl - 1 < n then 0 else 1 := in_k n 0 (nI nl - 1) (by decide) rfl
  rw [e5]
  unfold f_X4_isLamp
  by_cases h : n < 0
  · exact Or.inl ⟨if_pos h, if_pos h⟩
  · rw [if_neg h, if_neg h]
    obtain ⟨k, hk, rfl⟩ := i0 n h
    have q : (nI nl - 1 < nI k) ↔ nl ≤ k := by
      rw [Int32.lt_iff_toInt_lt, show (1 : Int32) = nI 1 from rfl, pk_sub_toInt (by omega) (by omega), nI_toInt hk]
      omega
    have q2 : (nI nl ≤ nI k) ↔ nl ≤ k := nI_leI (by omega) hk
    by_cases c : nl ≤ k
    · exact Or.inl ⟨if_pos (q2.mpr c), if_pos (q.mpr c)⟩
    · exact Or.inr ⟨k, by omega, rfl, if_neg (fun z => c (q2.mp z)), if_neg (fun z => c (q.mp z))⟩
theorem isP {pe : Nat} (hn : pe ≤ 6) (n : Int32) : (f_X4_isPerson pe n = 0 ∧ f_X5_isPerson pe n = 0) ∨ ∃ l, l < pe ∧ n = nI l ∧ f_X4_isPerson pe n = 1 ∧ f_X5_isPerson pe n = 1 := isL hn n
theorem ev_cx {nl : Nat} {kd ho sn : Nat → Int32} {li : Int32} {pe : Nat} {sc wv dk : Nat → Int32} {to : Int32} {tl td ro ss : Nat → Int32} {bk : Nat} {bo : Nat → Int32} (hl : RLm nl kd ho sn) (he : REv nl kd ho li pe sc wv dk to tl td ro ss bk bo) :
    ∃ v hh : Nat → Nat, nl ≤ 6 ∧ pe ≤ 4 ∧ (∀ l, l < nl → v l ≤ 9 ∧ ro (3 * l + 2) = nI (v l)) ∧ li = nI (pk v nl) ∧ (∀ l, l < nl → (1 ≤ hh l ∧ hh l ≤ 9) ∧ ho l = nI (hh l) ∧ ro (3 * l + 1) = nI (hh l)) ∧ (∀ l, l < nl → f_X5_seesOf nl ro l = sn l) ∧ ∀ j, j < pe → ss (3 * j) = sc j ∧ ∃ q, q < nl ∧ sc j = nI q := by
  obtain ⟨⟨v, hv, e⟩, h2, h3, h4, h5⟩ := he
  refine ⟨v, fun l => (ho l).toNatClampNeg, hl.2.1, h3, hv, e, fun l q => ?_, fun l q => ?_, fun j q => ⟨(h4 j q).1, (h4 j q).2.1⟩⟩
  · obtain ⟨-, ⟨h, z1, z2, z3⟩, -⟩ := hl.2.2 l q
    have z4 : (ho l).toNatClampNeg = h := by rw [z3, nI_clamp (by omega)]
    show (1 ≤ (ho l).toNatClampNeg ∧ (ho l).toNatClampNeg ≤ 9) ∧ ho l = nI (ho l).toNatClampNeg ∧ ro (3 * l + 1) = nI (ho l).toNatClampNeg
    rw [z4, (h2 l q).2]
    exact ⟨⟨z1, z2⟩, z3, z3⟩
  · rw [(hl.2.2 l q).2.2]
    exact seesOf_cong nl l (h2 l q).1
theorem peopleIn_i {sc ss : Nat → Int32} {pe : Nat} (sect : Int32) (h : ∀ j, j < pe → ss (3 * j) = sc j) : ∀ i, i ≤ pe → f_X0_peopleIn_4_v2 sc sect i = f_X5_whoSitsIn_4_v2 ss sect i
  | 0, _ => rfl
  | i + 1, hi => by rw [f_X0_peopleIn_4_v2, f_X5_whoSitsIn_4_v2, peopleIn_i sect h i (by omega), h i (by omega)]
theorem seeing_i {sn ro : Nat → Int32} {nl : Nat} (sect : Int32) (h : ∀ l, l < nl → f_X5_seesOf nl ro l = sn l) : ∀ i, i ≤ nl → f_X1_seeing_4_v2 sn sect i = f_X5_seenBy_4_v2 nl ro sect i
  | 0, _ => rfl
  | i + 1, hi => by rw [f_X1_seeing_4_v2, f_X5_seenBy_4_v2, seeing_i sect h i (by omega), h i (by omega)]
theorem seeing_eq {sn ro : Nat → Int32} {nl : Nat} (sect : Int32) (h : ∀ l, l < nl → f_X5_seesOf nl ro l = sn l) : f_X1_seeing nl sn sect = f_X5_seenBy nl ro sect := seeing_i sect h nl (Nat.le_refl nl)
theorem office_eq {nl : Nat} (hn : nl ≤ 6) : (nl = 0 ∧ f_X4_hasOffice nl = 0 ∧ f_X5_lacks nl = 1) ∨ (¬ nl = 0 ∧ f_X4_hasOffice nl = 1 ∧ f_X5_lacks nl = 0) := by
  unfold f_X4_hasOffice f_X5_lacks
  by_cases h : nl = 0
  · exact Or.inl ⟨h, if_pos ((nI_le0 (by omega)).mpr h), if_pos ((nI_eq0 (by omega)).mpr h)⟩
  · exact Or.inr ⟨h, if_neg (fun q => h ((nI_le0 (by omega)).mp q)), if_neg (fun q => h ((nI_eq0 (by omega)).mp q))⟩
theorem s_letter (qb : Nat) (pl : Nat) (co : Nat → Int32) (nl : Nat) (kd : Nat → Int32) (ho : Nat → Int32) (sn : Nat → Int32) (li : Int32) (pe : Nat) (sc : Nat → Int32) (wv : Nat → Int32) (dk : Nat → Int32) (to : Int32) (tl : Nat → Int32) (td : Nat → Int32) (kli : Int32) (kmi : Int32) (kpe : Int32) (ksc : Nat → Int32) (kwv : Nat → Int32) (kdk : Nat → Int32) (kto : Int32) (ktl : Nat → Int32) (ktd : Nat → Int32) (ik : Int32) (ofr : Int32) (rd : Int32) (mco : Nat → Int32) (ro : Nat → Int32) (ss : Nat → Int32) (bk : Nat) (bo : Nat → Int32) (ko : Int32) (mkpe : Int32) (mkmi : Int32) (kbk : Int32) (kro : Nat → Int32) (kss : Nat → Int32) (kbo : Nat → Int32) (x1 : Int32) (h : RR qb pl co nl kd ho sn li pe sc wv dk to tl td kli kmi kpe ksc kwv kdk kto ktl ktd ik ofr rd mco ro ss bk bo ko mkpe mkmi kbk kro kss kbo) : (f_X4_letter pl x1) = (f_X5_letter pl x1) ∧ ∃ pl2 : Nat, (f_X4_letter_P_1 pl x1) = nI pl2 ∧ (f_X5_letter_M_1 pl x1) = nI pl2 ∧ RR (qb + 4) pl2 (f_X4_letter_Pc pl co x1) nl kd ho sn li pe sc wv dk to tl td kli kmi kpe ksc kwv kdk kto ktl ktd ik ofr rd (f_X5_letter_Mp pl mco x1) ro ss bk bo ko mkpe mkmi kbk kro kss kbo := by
  obtain ⟨⟨h20, hp⟩, h2, h3, h4, h5⟩ := h
  have e : f_X5_in x1.toInt64 1 126 = if x1 < 1 then 0 else if 126 < x1 then 0 else 1 := in_k x1 1 126 (by decide) (by decide)
  unfold f_X4_letter f_X5_letter f_X4_letter_P_1 f_X5_letter_M_1 f_X4_letter_Pc f_X5_letter_Mp
  rw [e]
  by_cases c1 : x1 < 1
  · simp only [c1, ↓reduceIte]
    exact ⟨trivial, pl, rfl, rfl, ⟨h20, hp⟩, h2, h3, h4.mono, h5⟩
  · by_cases c2 : 126 < x1
    · have c3 : ¬ x1 ≤ 126 := Int32.not_le.mpr c2
      simp only [c1, c2, c3, ↓reduceIte]
      exact ⟨trivial, pl, rfl, rfl, ⟨h20, hp⟩, h2, h3, h4.mono, h5⟩
    · have c3 : x1 ≤ 126 := Int32.not_lt.mp c2
      simp only [c1, c2, c3, n10, ↓reduceIte]
      unfold f_X2_put f_X2_put_P_1 f_X2_put_Pc
      by_cases c4 : pl = 20
      · have c5 : ¬ nI pl < 20 := nlt_f (b := 20) rfl rfl (by omega) (by decide) (by omega)
        have c6 : nI pl = 20 := by rw [c4]; rfl
        simp only [c5, if_pos c6, ↓reduceIte]
        exact ⟨trivial, pl, rfl, rfl, ⟨h20, hp⟩, h2, h3, h4.mono, h5⟩
      · have c5 : nI pl < 20 := nlt_t (b := 20) rfl rfl (by omega) (by decide) (by omega)
        have c6 : ¬ nI pl = 20 := neq_f (b := 20) rfl rfl (by omega) (by decide) c4
        simp only [c5, if_neg c6, ↓reduceIte]
        refine ⟨trivial, pl + 1, nI_1 pl, nI_1 pl, ⟨by omega, fun j hj => ?_⟩, h2, h3, h4.mono, h5⟩
        by_cases cj : j = pl
        · subst cj
          rw [pk_us, pk_us]
          obtain ⟨k, hk, ek⟩ := i0 x1 (fun q => c1 (Int32.lt_trans q (by decide)))
          refine ⟨rfl, k, ?_, ?_, ek⟩
          · exact nlt_e (b := 1) ek rfl hk (by decide) c1
          · exact nle_d (b := 126) ek rfl hk (by decide) c3
        · rw [pk_un cj, pk_un cj]
          exact hp j (by omega)
theorem s_blank (qb : Nat) (pl : Nat) (co : Nat → Int32) (nl : Nat) (kd : Nat → Int32) (ho : Nat → Int32) (sn : Nat → Int32) (li : Int32) (pe : Nat) (sc : Nat → Int32) (wv : Nat → Int32) (dk : Nat → Int32) (to : Int32) (tl : Nat → Int32) (td : Nat → Int32) (kli : Int32) (kmi : Int32) (kpe : Int32) (ksc : Nat → Int32) (kwv : Nat → Int32) (kdk : Nat → Int32) (kto : Int32) (ktl : Nat → Int32) (ktd : Nat → Int32) (ik : Int32) (ofr : Int32) (rd : Int32) (mco : Nat → Int32) (ro : Nat → Int32) (ss : Nat → Int32) (bk : Nat) (bo : Nat → Int32) (ko : Int32) (mkpe : Int32) (mkmi : Int32) (kbk : Int32) (kro : Nat → Int32) (kss : Nat → Int32) (kbo : Nat → Int32) (h : RR qb pl co nl kd ho sn li pe sc wv dk to tl td kli kmi kpe ksc kwv kdk kto ktl ktd ik ofr rd mco ro ss bk bo ko mkpe mkmi kbk kro kss kbo) : (f_X4_blank pl) = (f_X5_blank pl) ∧ RR (qb + 4) 0 co nl kd ho sn li pe sc wv dk to tl td kli kmi kpe ksc kwv kdk kto ktl ktd ik ofr rd mco ro ss bk bo ko mkpe mkmi kbk kro kss kbo := by
  obtain ⟨⟨h20, hp⟩, h2, h3, h4, h5⟩ := h
  exact ⟨rfl, ⟨by omega, fun j hj => absurd hj (Nat.not_lt_zero j)⟩, h2, h3, h4.mono, h5⟩
theorem s_lamp (qb : Nat) (pl : Nat) (co : Nat → Int32) (nl : Nat) (kd : Nat → Int32) (ho : Nat → Int32) (sn : Nat → Int32) (li : Int32) (pe : Nat) (sc : Nat → Int32) (wv : Nat → Int32) (dk : Nat → Int32) (to : Int32) (tl : Nat → Int32) (td : Nat → Int32) (kli : Int32) (kmi : Int32) (kpe : Int32) (ksc : Nat → Int32) (kwv : Nat → Int32) (kdk : Nat → Int32) (kto : Int32) (ktl : Nat → Int32) (ktd : Nat → Int32) (ik : Int32) (ofr : Int32) (rd : Int32) (mco : Nat → Int32) (ro : Nat → Int32) (ss : Nat → Int32) (bk : Nat) (bo : Nat → Int32) (ko : Int32) (mkpe : Int32) (mkmi : Int32) (kbk : Int32) (kro : Nat → Int32) (kss : Nat → Int32) (kbo : Nat → Int32) (x1 : Int32) (x2 : Int32) (h : RR qb pl co nl kd ho sn li pe sc wv dk to tl td kli kmi kpe ksc kwv kdk kto ktl ktd ik ofr rd mco ro ss bk bo ko mkpe mkmi kbk kro kss kbo) : (f_X4_lamp nl kd ho sn li pe sc x1 x2) = (f_X5_lamp nl pe ro ss x1 x2) := by
  obtain ⟨v, hh, hn, hpe, hv, hli, hhh, hse, hsc⟩ := ev_cx h.2.1 h.2.2.1
  have hkd := h.2.2.1.2.1
  unfold f_X4_lamp f_X5_lamp
  rcases isL hn x1 with ⟨e4, e5⟩ | ⟨l, hl, rfl, e4, e5⟩
  · rw [e4, e5, if_pos rfl, if_pos rfl]
  · rw [e4, e5, if_neg n10, if_neg n10, nI_clamp (by omega)]
    unfold f_X5_tellLamp
    rw [← (hkd l hl).1, ← (hkd l hl).2, hli, left_pk hn (fun l q => (hv l q).1) hl, (hv l hl).2, hse l hl, show f_X0_peopleIn pe sc (nI l) = f_X5_whoSitsIn pe ss (nI l) from peopleIn_i _ (fun j q => (hsc j q).1) pe (Nat.le_refl pe), seeing_eq (nI l) hse]
    rfl
theorem s_as (qb : Nat) (pl : Nat) (co : Nat → Int32) (nl : Nat) (kd : Nat → Int32) (ho : Nat → Int32) (sn : Nat → Int32) (li : Int32) (pe : Nat) (sc : Nat → Int32) (wv : Nat → Int32) (dk : Nat → Int32) (to : Int32) (tl : Nat → Int32) (td : Nat → Int32) (kli : Int32) (kmi : Int32) (kpe : Int32) (ksc : Nat → Int32) (kwv : Nat → Int32) (kdk : Nat → Int32) (kto : Int32) (ktl : Nat → Int32) (ktd : Nat → Int32) (ik : Int32) (ofr : Int32) (rd : Int32) (mco : Nat → Int32) (ro : Nat → Int32) (ss : Nat → Int32) (bk : Nat) (bo : Nat → Int32) (ko : Int32) (mkpe : Int32) (mkmi : Int32) (kbk : Int32) (kro : Nat → Int32) (kss : Nat → Int32) (kbo : Nat → Int32) (x1 : Int32) (x2 : Int32) (h : RR qb pl co nl kd ho sn li pe sc wv dk to tl td kli kmi kpe ksc kwv kdk kto ktl ktd ik ofr rd mco ro ss bk bo ko mkpe mkmi kbk kro kss kbo) : (f_X4_as nl kd x2 x1) = (f_X5_as nl ro x2 x1) := by
  have hn := h.2.1.2.1
  have hkd := h.2.2.1.2.1
  unfold f_X4_as f_X5_as
  rcases isL hn x1 with ⟨e4, e5⟩ | ⟨l, hl, rfl, e4, e5⟩
  · rw [e4, e5, if_pos rfl, if_pos rfl]
  · have e : f_X5_in x2.toInt64 0 4 = if x2 < 0 then 0 else if 4 < x2 then 0 else 1 := in_k x2 0 4 (by decide) (by decide)
    rw [e4, e5, if_neg n10, if_neg n10, e, nI_clamp (by omega), (hkd l hl).1]
    unfold f_X1_isOf
    rw [nI_clamp (by omega)]
    by_cases c1 : x2 < 0
    · simp only [c1, ↓reduceIte]
    · obtain ⟨k, hk, rfl⟩ := i0 x2 c1
      by_cases c2 : (4 : Int32) < nI k
      · have c3 : ¬ nI k < 5 := nlt_f (b := 5) rfl rfl hk (by decide) (nlt_d (a := 4) (B := nI k) rfl rfl (by decide) hk c2)
        simp only [c1, c2, c3, ↓reduceIte]
      · have c3 : nI k < 5 := nlt_t (b := 5) rfl rfl hk (by decide) (Nat.lt_succ_of_le (nlt_e (a := 4) (B := nI k) rfl rfl (by decide) hk c2))
        simp only [c1, c2, c3, n10, ↓reduceIte]
        by_cases d1 : nI k = 0
        · simp only [d1, n10, ↓reduceIte]
        · by_cases d2 : nI k = kd l
          · simp only [d1, if_pos d2, n10, ↓reduceIte]
          · simp only [d1, if_neg d2, ↓reduceIte]
            by_cases d3 : nI k = 1
            · simp only [d3, ↓reduceIte]
              by_cases d4 : kd l = 4
              · simp only [d4, n10, ↓reduceIte]
              · simp only [d4, ↓reduceIte]
            · simp only [d3, ↓reduceIte]
