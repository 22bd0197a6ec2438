/-! pure rows D: book, count, fault, office -/
theorem bm_upd {bo : Nat → Int32} {bk : Nat} {x y z : Int32} (b : Int32) (m : Nat) : bmask b m (upd (upd (upd bo (3 * bk) x) (3 * bk + 1) y) (3 * bk + 2) z) (bk + 1) = if x = nI m ∧ z = b then bmask b m bo bk ||| 2 ^ y.toNatClampNeg else bmask b m bo bk := by
  rw [bmask, bm_cong (bo := bo) bk (fun j q => by rw [pk_un (by omega), pk_un (by omega), pk_un (by omega)]), pk_un (show 3 * bk ≠ 3 * bk + 2 by omega), pk_un (show 3 * bk ≠ 3 * bk + 1 by omega), pk_us, pk_un (show 3 * bk + 1 ≠ 3 * bk + 2 by omega), pk_us, pk_us]
theorem bk_push {nl bk m l : Nat} {to : Int32} {tl td bo tl' td' : Nat → Int32} {z : Int32} (h : RBk nl to tl td bk bo) (h8 : ¬ bk = 8) (hm : m ≤ 6) (hl : l < nl) (hn : nl ≤ 6) (hz : z = 0 ∨ z = 1)
    (ht : ∀ i, tl' i = if i = m ∧ z = 1 then tl i ||| ((1 : Int32) <<< (nI l &&& 31)) else tl i) (hd : ∀ i, td' i = if i = m ∧ z = 0 then td i ||| ((1 : Int32) <<< (nI l &&& 31)) else td i) : RBk nl (nI (bk + 1)) tl' td' (bk + 1) (upd (upd (upd bo (3 * bk) (nI m)) (3 * bk + 1) (nI l)) (3 * bk + 2) z) := by
  obtain ⟨g1, g2, g3, g4⟩ := h
  refine ⟨by omega, rfl, fun j hj => ?_, fun i hi => ?_⟩
  · by_cases c : j = bk
    · subst c
      rw [pk_un (show 3 * j ≠ 3 * j + 2 by omega), pk_un (show 3 * j ≠ 3 * j + 1 by omega), pk_us, pk_un (show 3 * j + 1 ≠ 3 * j + 2 by omega), pk_us, pk_us]
      exact ⟨m, l, hm, hl, rfl, rfl, hz⟩
    · rw [pk_un (show 3 * j ≠ 3 * bk + 2 by omega), pk_un (show 3 * j ≠ 3 * bk + 1 by omega), pk_un (show 3 * j ≠ 3 * bk by omega), pk_un (show 3 * j + 1 ≠ 3 * bk + 2 by omega), pk_un (show 3 * j + 1 ≠ 3 * bk + 1 by omega), pk_un (show 3 * j + 1 ≠ 3 * bk by omega), pk_un (show 3 * j + 2 ≠ 3 * bk + 2 by omega), pk_un (show 3 * j + 2 ≠ 3 * bk + 1 by omega), pk_un (show 3 * j + 2 ≠ 3 * bk by omega)]
      exact g3 j (by omega)
  · have hsh : ((1 : Int32) <<< (nI l &&& 31)) = nI (2 ^ l) := by
      have := shl_n (n := 1) (k := l) (by omega) (by
        rw [Nat.one_mul]
        exact Nat.pow_lt_pow_right (by decide) (by omega))
      rw [Nat.one_mul] at this
      exact this
    rw [bm_upd, bm_upd, ht, hd, (g4 i hi).1, (g4 i hi).2, nI_clamp (show l < 2 ^ 31 by omega), hsh, fa_or, fa_or]
    have q : (nI m = nI i) ↔ i = m := (nI_eqk (by omega) (by omega)).trans ⟨Eq.symm, Eq.symm⟩
    simp only [q]
    constructor
    · split <;> rfl
    · split <;> rfl
theorem s_bookF (qb : Nat) (pl : Nat) (co : Nat → Int32) (nl : Nat) (kd : Nat → Int32) (ho : Nat → Int32) (sn : Nat → Int32) (li : Int32) (pe : Nat) (sc : Nat → Int32) (wv : Nat → Int32) (dk : Nat → Int32) (to : Int32) (tl : Nat → Int32) (td : Nat → Int32) (kli : Int32) (kmi : Int32) (kpe : Int32) (ksc : Nat → Int32) (kwv : Nat → Int32) (kdk : Nat → Int32) (kto : Int32) (ktl : Nat → Int32) (ktd : Nat → Int32) (ik : Int32) (ofr : Int32) (rd : Int32) (mco : Nat → Int32) (ro : Nat → Int32) (ss : Nat → Int32) (bk : Nat) (bo : Nat → Int32) (ko : Int32) (mkpe : Int32) (mkmi : Int32) (kbk : Int32) (kro : Nat → Int32) (kss : Nat → Int32) (kbo : Nat → Int32) (x1 : Int32) (x2 : Int32) (h : RR qb pl co nl kd ho sn li pe sc wv dk to tl td kli kmi kpe ksc kwv kdk kto ktl ktd ik ofr rd mco ro ss bk bo ko mkpe mkmi kbk kro kss kbo) : (f_X4_book nl to x2 x1) = (f_X5_book nl bk x2 x1) ∧ ∃ bk2 : Nat, (f_X5_book_M_13 nl bk x2 x1) = nI bk2 ∧ RR (qb + 4) pl co nl kd ho sn li pe sc wv dk (f_X4_book_E_6 nl to x2 x1) (f_X4_book_El nl to tl x2 0 x1) (f_X4_book_Et nl to td x2 0 x1) kli kmi kpe ksc kwv kdk kto ktl ktd ik ofr rd mco ro ss bk2 (f_X5_book_Mo nl bk bo 0 x2 x1) ko mkpe mkmi kbk kro kss kbo := by
  obtain ⟨h1, h2, h3, h4, h5⟩ := h
  have hn := h2.2.1
  have e : f_X5_in x1.toInt64 0 6 = if x1 < 0 then 0 else if 6 < x1 then 0 else 1 := in_k x1 0 6 (by decide) (by decide)
  unfold f_X4_book f_X5_book f_X5_book_M_13 f_X4_book_E_6 f_X4_book_El f_X4_book_Et f_X5_book_Mo
  rw [e]
  by_cases c1 : x1 < 0
  · simp only [c1, ↓reduceIte]
    exact ⟨trivial, bk, rfl, h1, h2, h3, h4.mono, h5⟩
  · by_cases c2 : 6 < x1
    · have c3 : ¬ x1 ≤ 6 := Int32.not_le.mpr c2
      simp only [c1, c2, c3, ↓reduceIte]
      exact ⟨trivial, bk, rfl, h1, h2, h3, h4.mono, h5⟩
    · have c3 : x1 ≤ 6 := Int32.not_lt.mp c2
      simp only [c1, c2, c3, n10, ↓reduceIte]
      rcases isL hn x2 with ⟨e4, e5⟩ | ⟨l, hl, rfl, e4, e5⟩
      · simp only [e4, e5, ↓reduceIte]
        exact ⟨trivial, bk, rfl, h1, h2, h3, h4.mono, h5⟩
      · simp only [e4, e5, n10, ↓reduceIte]
        obtain ⟨m, hm, rfl⟩ := i0 x1 c1
        have hm6 : m ≤ 6 := nle_d (b := 6) rfl rfl hm (by decide) c3
        obtain ⟨g1, g2, g3, g4, g5⟩ := h3
        have g5' := g5
        obtain ⟨g6, rfl, g8⟩ := g5'
        unfold f_X0_tell f_X0_tell_E_6 f_X0_tell_El f_X0_tell_Et
        by_cases c8 : bk = 8
        · have c5 : ¬ nI bk < 8 := nlt_f (b := 8) rfl rfl (by omega) (by decide) (by omega)
          have c6 : nI bk = 8 := by rw [c8]; rfl
          simp only [c5, if_pos c6, ↓reduceIte]
          exact ⟨trivial, bk, rfl, h1, h2, ⟨g1, g2, g3, g4, g5⟩, h4.mono, h5⟩
        · have c5 : nI bk < 8 := nlt_t (b := 8) rfl rfl (by omega) (by decide) (by omega)
          have c6 : ¬ nI bk = 8 := neq_f (b := 8) rfl rfl (by omega) (by decide) c8
          simp only [c5, if_neg c6, ↓reduceIte, nI_clamp hm, nI_1 bk]
          exact ⟨trivial, bk + 1, rfl, h1, h2, ⟨g1, g2, g3, g4, bk_push g5 c8 hm6 hl hn (Or.inl rfl) (fun i => by rw [if_neg (fun q => absurd q.2 (by decide))]) (fun i => by
            by_cases q : i = m
            · subst q
              rw [pk_us, if_pos ⟨rfl, rfl⟩]
            · rw [pk_un q, if_neg (fun z => q z.1)])⟩, h4.mono, h5⟩
theorem s_bookT (qb : Nat) (pl : Nat) (co : Nat → Int32) (nl : Nat) (kd : Nat → Int32) (ho : Nat → Int32) (sn : Nat → Int32) (li : Int32) (pe : Nat) (sc : Nat → Int32) (wv : Nat → Int32) (dk : Nat → Int32) (to : Int32) (tl : Nat → Int32) (td : Nat → Int32) (kli : Int32) (kmi : Int32) (kpe : Int32) (ksc : Nat → Int32) (kwv : Nat → Int32) (kdk : Nat → Int32) (kto : Int32) (ktl : Nat → Int32) (ktd : Nat → Int32) (ik : Int32) (ofr : Int32) (rd : Int32) (mco : Nat → Int32) (ro : Nat → Int32) (ss : Nat → Int32) (bk : Nat) (bo : Nat → Int32) (ko : Int32) (mkpe : Int32) (mkmi : Int32) (kbk : Int32) (kro : Nat → Int32) (kss : Nat → Int32) (kbo : Nat → Int32) (x1 : Int32) (x2 : Int32) (h : RR qb pl co nl kd ho sn li pe sc wv dk to tl td kli kmi kpe ksc kwv kdk kto ktl ktd ik ofr rd mco ro ss bk bo ko mkpe mkmi kbk kro kss kbo) : (f_X4_book nl to x2 x1) = (f_X5_book nl bk x2 x1) ∧ ∃ bk2 : Nat, (f_X5_book_M_13 nl bk x2 x1) = nI bk2 ∧ RR (qb + 4) pl co nl kd ho sn li pe sc wv dk (f_X4_book_E_6 nl to x2 x1) (f_X4_book_El nl to tl x2 1 x1) (f_X4_book_Et nl to td x2 1 x1) kli kmi kpe ksc kwv kdk kto ktl ktd ik ofr rd mco ro ss bk2 (f_X5_book_Mo nl bk bo 1 x2 x1) ko mkpe mkmi kbk kro kss kbo := by
  obtain ⟨h1, h2, h3, h4, h5⟩ := h
  have hn := h2.2.1
  have e : f_X5_in x1.toInt64 0 6 = if x1 < 0 then 0 else if 6 < x1 then 0 else 1 := in_k x1 0 6 (by decide) (by decide)
  unfold f_X4_book f_X5_book f_X5_book_M_13 f_X4_book_E_6 f_X4_book_El f_X4_book_Et f_X5_book_Mo
  rw [e]
  by_cases c1 : x1 < 0
  · simp only [c1, ↓reduceIte]
    exact ⟨trivial, bk, rfl, h1, h2, h3, h4.mono, h5⟩
  · by_cases c2 : 6 < x1
    · have c3 : ¬ x1 ≤ 6 := Int32.not_le.mpr c2
      simp only [c1, c2, c3, ↓reduceIte]
      exact ⟨trivial, bk, rfl, h1, h2, h3, h4.mono, h5⟩
    · have c3 : x1 ≤ 6 := Int32.not_lt.mp c2
      simp only [c1, c2, c3, n10, ↓reduceIte]
      rcases isL hn x2 with ⟨e4, e5⟩ | ⟨l, hl, rfl, e4, e5⟩
      · simp only [e4, e5, ↓reduceIte]
        exact ⟨trivial, bk, rfl, h1, h2, h3, h4.mono, h5⟩
      · simp only [e4, e5, n10, ↓reduceIte]
        obtain ⟨m, hm, rfl⟩ := i0 x1 c1
        have hm6 : m ≤ 6 := nle_d (b := 6) rfl rfl hm (by decide) c3
        obtain ⟨g1, g2, g3, g4, g5⟩ := h3
        have g5' := g5
        obtain ⟨g6, rfl, g8⟩ := g5'
        unfold f_X0_tell f_X0_tell_E_6 f_X0_tell_El f_X0_tell_Et
        by_cases c8 : bk = 8
        · have c5 : ¬ nI bk < 8 := nlt_f (b := 8) rfl rfl (by omega) (by decide) (by omega)
          have c6 : nI bk = 8 := by rw [c8]; rfl
          simp only [c5, if_pos c6, ↓reduceIte]
          exact ⟨trivial, bk, rfl, h1, h2, ⟨g1, g2, g3, g4, g5⟩, h4.mono, h5⟩
        · have c5 : nI bk < 8 := nlt_t (b := 8) rfl rfl (by omega) (by decide) (by omega)
          have c6 : ¬ nI bk = 8 := neq_f (b := 8) rfl rfl (by omega) (by decide) c8
          simp only [c5, if_neg c6, n10, ↓reduceIte, nI_clamp hm, nI_1 bk]
          exact ⟨trivial, bk + 1, rfl, h1, h2, ⟨g1, g2, g3, g4, bk_push g5 c8 hm6 hl hn (Or.inr rfl) (fun i => by
            by_cases q : i = m
            · subst q
              rw [pk_us, if_pos ⟨rfl, rfl⟩]
            · rw [pk_un q, if_neg (fun z => q z.1)]) (fun i => by rw [if_neg (fun q => absurd q.2 (by decide))])⟩, h4.mono, h5⟩
-- count
def pc (m : Nat) : Nat → Nat
  | 0 => 0
  | n + 1 => pc m n + m / 2 ^ n % 2
theorem bitc : ∀ n, n < 7 → ∀ m, m < 2 ^ n → f_J6_bitCount_0f7a4 (nI m) = nI (pc m n) := by decide +kernel
theorem litMany_i {v : Nat → Nat} {ro : Nat → Int32} {n : Nat} (hv : ∀ l, l < n → v l ≤ 9 ∧ ro (3 * l + 2) = nI (v l)) : ∀ i, i ≤ n → f_X5_litMany_4_v1 ro i = nI (pc (lm v n) i)
  | 0, _ => rfl
  | i + 1, hi => by
    rw [f_X5_litMany_4_v1, pc, litMany_i hv i (by omega), (hv i (by omega)).2, lm_bit v (by omega)]
    have := (hv i (by omega)).1
    by_cases c : v i = 0
    · rw [if_pos ((nI_le0 (by omega)).mpr c), if_pos c]
      exact ix_add rfl rfl
    · rw [if_neg (fun q => c ((nI_le0 (by omega)).mp q)), if_neg c]
      exact ix_add rfl rfl
theorem lit_dark {v : Nat → Nat} {ro sc ss : Nat → Int32} {n pe : Nat} (hn : n ≤ 6) (hpe : pe ≤ 4) (hv : ∀ l, l < n → v l ≤ 9 ∧ ro (3 * l + 2) = nI (v l)) (h : ∀ j, j < pe → ss (3 * j) = sc j ∧ ∃ q, q < n ∧ sc j = nI q) : ∀ i, i ≤ pe → ∃ d s, d + s = i ∧ f_X0_inDark_4_v2 sc (nI (lm v n)) i = nI d ∧ f_X5_sumBy_4_v2 ro ss 1 i = nI s
  | 0, _ => ⟨0, 0, rfl, rfl, rfl⟩
  | i + 1, hi => by
    obtain ⟨d, s, e1, e2, e3⟩ := lit_dark hn hpe hv h i (by omega)
    obtain ⟨z1, q, hq, z2⟩ := h i (by omega)
    have := (hv q hq).1
    rw [f_X0_inDark_4_v2, f_X5_sumBy_4_v2, e2, e3, z2, bit_lm hn hq]
    have t : f_X5_tell ro ss i 1 = if v q = 0 then 0 else 1 := by
      show (if ro ((3 * ss (3 * i)) + 2).toNatClampNeg ≤ 0 then (0 : Int32) else 1) = _
      rw [z1, z2, show (3 * nI q + 2 : Int32) = nI (3 * q + 2) from ix_add (ix_mul rfl rfl) rfl, nI_clamp (by omega), (hv q hq).2]
      simp only [nI_le0 (show v q < 2 ^ 31 by omega)]
    rw [t]
    by_cases c : v q = 0
    · rw [if_pos c]
      exact ⟨d + 1, s, by omega, ix_add rfl rfl, ix_add (y := 0) rfl rfl⟩
    · rw [if_neg c]
      exact ⟨d, s + 1, by omega, ix_add (y := 0) rfl rfl, ix_add rfl rfl⟩
theorem ofAll_w {wv ro ss : Nat → Int32} {pe : Nat} (h : ∀ j, j < pe → ss (3 * j + 1) = wv j) : ∀ i, i ≤ pe → f_X0_ofAll_4_v2 wv i = f_X5_sumBy_4_v2 ro ss 2 i
  | 0, _ => rfl
  | i + 1, hi => by rw [f_X0_ofAll_4_v2, f_X5_sumBy_4_v2, ofAll_w h i (by omega), ← h i (by omega)]; rfl
theorem ofAll_d {dk ro ss : Nat → Int32} {pe : Nat} (h : ∀ j, j < pe → ss (3 * j + 2) = dk j) : ∀ i, i ≤ pe → f_X0_ofAll_4_v2 dk i = f_X5_sumBy_4_v2 ro ss 3 i
  | 0, _ => rfl
  | i + 1, hi => by rw [f_X0_ofAll_4_v2, f_X5_sumBy_4_v2, ofAll_d h i (by omega), ← h i (by omega)]; rfl
theorem s_count (qb : Nat) (pl : Nat) (co : Nat → Int32) (nl : Nat) (kd : Nat → Int32) (ho : Nat → Int32) (sn : Nat → Int32) (li : Int32) (pe : Nat) (sc : Nat → Int32) (wv : Nat → Int32) (dk : Nat → Int32) (to : Int32) (tl : Nat → Int32) (td : Nat → Int32) (kli : Int32) (kmi : Int32) (kpe : Int32) (ksc : Nat → Int32) (kwv : Nat → Int32) (kdk : Nat → Int32) (kto : Int32) (ktl : Nat → Int32) (ktd : Nat → Int32) (ik : Int32) (ofr : Int32) (rd : Int32) (mco : Nat → Int32) (ro : Nat → Int32) (ss : Nat → Int32) (bk : Nat) (bo : Nat → Int32) (ko : Int32) (mkpe : Int32) (mkmi : Int32) (kbk : Int32) (kro : Nat → Int32) (kss : Nat → Int32) (kbo : Nat → Int32) (mi : Int32) (x1 : Int32) (h : RR qb pl co nl kd ho sn li pe sc wv dk to tl td kli kmi kpe ksc kwv kdk kto ktl ktd ik ofr rd mco ro ss bk bo ko mkpe mkmi kbk kro kss kbo) : (f_X4_count ofr rd pl nl li mi pe to sc wv dk x1) = (f_X5_count ofr rd pl nl mi pe bk ro ss x1) := by
  obtain ⟨v, hh, hn, hpe, hv, hli, hhh, hse, hsc⟩ := ev_cx h.2.1 h.2.2.1
  have hp4 := h.2.2.1.2.2.2.1
  have hto := h.2.2.1.2.2.2.2.2.1
  have hlo := litOnes_eq hn (fun l q => (hv l q).1)
  unfold f_X4_count f_X5_count f_X5_countOf
  have a1 : f_J6_bitCount_0f7a4 (f_X1_litOnes nl li) = f_X5_litMany nl ro := by
    rw [hli, hlo, bitc nl (by omega) _ (lm_lt v nl)]
    exact (litMany_i hv nl (Nat.le_refl nl)).symm
  have a3 : nI pe - f_X0_inDark pe sc (f_X1_litOnes nl li) = f_X5_sumBy pe ro ss 1 := by
    obtain ⟨d, s, e1, e2, e3⟩ := lit_dark hn hpe hv hsc pe (Nat.le_refl pe)
    rw [hli, hlo]
    show nI pe - f_X0_inDark_4_v2 sc (nI (lm v nl)) pe = f_X5_sumBy_4_v2 ro ss 1 pe
    rw [e2, e3, ix_sub (by omega) rfl rfl]
    congr 1
    omega
  have a5 : f_X0_ofAll pe wv = f_X5_sumBy pe ro ss 2 := ofAll_w (fun j q => (hp4 j q).2.2.1) pe (Nat.le_refl pe)
  have a6 : f_X0_ofAll pe dk = f_X5_sumBy pe ro ss 3 := ofAll_d (fun j q => (hp4 j q).2.2.2) pe (Nat.le_refl pe)
  rw [a1, a3, a5, a6, hto]
  by_cases c5 : x1 = 5
  · rw [c5]
    rfl
  · by_cases c6 : x1 = 6
    · rw [c6]
      rfl
    · simp only [c5, c6, ↓reduceIte]
-- fault
theorem good_eq : ∀ i, i < 21 → ∀ k, k < 127 → f_X2_fits (nI k) (nI i) = f_X5_isGood (nI k) (nI i) := by decide +kernel
theorem fa_r {pl : Nat} {co mco : Nat → Int32} (h : RPg pl co mco) : ∀ k i, i ≤ pl → f_X2_firstFault_2_r pl co k i = f_X5_faultOf_2_r pl mco k i
  | 0, _, _ => rfl
  | k + 1, i, hi => by
    have h20 := h.1
    rw [f_X2_firstFault_2_r, f_X5_faultOf_2_r]
    by_cases c : i = pl
    · have c1 : nI pl ≤ nI i := nle_t rfl rfl (by omega) (by omega) (by omega)
      rw [if_pos c1, if_pos c1]
    · have c1 : ¬ nI pl ≤ nI i := nle_f rfl rfl (by omega) (by omega) (by omega)
      obtain ⟨e, q, q1, q2, e2⟩ := h.2 i (by omega)
      rw [if_neg c1, if_neg c1, e, e2, good_eq i (by omega) q (by omega), fa_r h k (i + 1) (by omega)]
theorem s_fault (qb : Nat) (pl : Nat) (co : Nat → Int32) (nl : Nat) (kd : Nat → Int32) (ho : Nat → Int32) (sn : Nat → Int32) (li : Int32) (pe : Nat) (sc : Nat → Int32) (wv : Nat → Int32) (dk : Nat → Int32) (to : Int32) (tl : Nat → Int32) (td : Nat → Int32) (kli : Int32) (kmi : Int32) (kpe : Int32) (ksc : Nat → Int32) (kwv : Nat → Int32) (kdk : Nat → Int32) (kto : Int32) (ktl : Nat → Int32) (ktd : Nat → Int32) (ik : Int32) (ofr : Int32) (rd : Int32) (mco : Nat → Int32) (ro : Nat → Int32) (ss : Nat → Int32) (bk : Nat) (bo : Nat → Int32) (ko : Int32) (mkpe : Int32) (mkmi : Int32) (kbk : Int32) (kro : Nat → Int32) (kss : Nat → Int32) (kbo : Nat → Int32) (h : RR qb pl co nl kd ho sn li pe sc wv dk to tl td kli kmi kpe ksc kwv kdk kto ktl ktd ik ofr rd mco ro ss bk bo ko mkpe mkmi kbk kro kss kbo) : (f_X4_fault pl co) = (f_X5_fault pl mco) := by
  exact fa_r h.1 (pl + 1) 0 (Nat.zero_le pl)
