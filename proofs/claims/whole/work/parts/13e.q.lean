/-! pure rows E: the minute -/
theorem shr_neg {x : Int32} (s : Int32) (h : x < 0) : ¬ x >>> s = 0 := by
  intro q
  have q2 : (x >>> s).toBitVec.msb = (0 : Int32).toBitVec.msb := by rw [q]
  rw [Int32.toBitVec_shiftRight, BitVec.sshiftRight_eq', BitVec.msb_sshiftRight, BitVec.msb_eq_toInt] at q2
  have h2 : x.toInt < 0 := Int32.lt_iff_toInt_lt.mp h
  have h3 : x.toBitVec.toInt < 0 := h2
  rw [decide_eq_true h3] at q2
  exact absurd q2 (by decide)
theorem who_in {pe : Nat} (hpe : pe ≤ 4) (x : Int32) : (x >>> (nI pe &&& 31) = 0 ∧ f_X5_in x.toInt64 0 ((((1 : Int32) <<< (nI pe &&& 31)) - 1).toInt64) = 1) ∨ (¬ x >>> (nI pe &&& 31) = 0 ∧ f_X5_in x.toInt64 0 ((((1 : Int32) <<< (nI pe &&& 31)) - 1).toInt64) = 0) := by
  have hp : 2 ^ pe ≤ 2 ^ 4 := Nat.pow_le_pow_right (by decide) hpe
  have hp1 : 1 ≤ 2 ^ pe := Nat.one_le_two_pow
  have hsh : ((1 : Int32) <<< (nI pe &&& 31)) - 1 = nI (2 ^ pe - 1) := by
    have := shl_n (n := 1) (k := pe) (by omega) (by omega)
    rw [Nat.one_mul] at this
    exact ix_sub hp1 this rfl
  rw [hsh, in_k x 0 (nI (2 ^ pe - 1)) (by decide) rfl]
  by_cases c : x < 0
  · exact Or.inr ⟨shr_neg _ c, if_pos c⟩
  · rw [if_neg c]
    obtain ⟨k, hk, rfl⟩ := i0 x c
    rw [shr_n hk (by omega)]
    have q : (nI (2 ^ pe - 1) < nI k) ↔ 2 ^ pe ≤ k := (nI_ltI (by omega) hk).trans (by omega)
    have q2 : (nI (k / 2 ^ pe) = 0) ↔ k < 2 ^ pe := (nI_eq0 (Nat.lt_of_le_of_lt (Nat.div_le_self _ _) hk)).trans (by rw [Nat.div_eq_zero_iff]; omega)
    by_cases d : k < 2 ^ pe
    · exact Or.inl ⟨q2.mpr d, if_neg (fun z => absurd (q.mp z) (by omega))⟩
    · exact Or.inr ⟨fun z => d (q2.mp z), if_pos (q.mpr (by omega))⟩
theorem Mr_i (nl pe : Nat) (ro ss lt : Nat → Int32) (who : Int32) {G : Nat → Int32} (hG : f_X5_goesBy_Ml nl ro (f_X5_asItIs_Ml nl ro lt) (f_X5_sectionsOf pe ss who) = G) : ∀ i l, f_X5_minute_46_Mr nl pe ro ss lt who i (3 * l) = ro (3 * l) ∧ f_X5_minute_46_Mr nl pe ro ss lt who i (3 * l + 1) = ro (3 * l + 1) ∧ f_X5_minute_46_Mr nl pe ro ss lt who i (3 * l + 2) = if l < i then G l else ro (3 * l + 2)
  | 0, l => ⟨rfl, rfl, (if_neg (Nat.not_lt_zero l)).symm⟩
  | i + 1, l => by
    obtain ⟨a, b, c⟩ := Mr_i nl pe ro ss lt who hG i l
    rw [f_X5_minute_46_Mr, hG, pk_un (show 3 * l ≠ 3 * i + 2 by omega), pk_un (show 3 * l + 1 ≠ 3 * i + 2 by omega)]
    refine ⟨a, b, ?_⟩
    by_cases q : l = i
    · subst q
      rw [pk_us, if_pos (by omega)]
    · rw [pk_un (show 3 * l + 2 ≠ 3 * i + 2 by omega), c]
      by_cases z : l < i
      · rw [if_pos z, if_pos (by omega)]
      · rw [if_neg z, if_neg (by omega)]
theorem Ms_i (nl pe : Nat) (ro ss lt : Nat → Int32) (who : Int32) {G : Nat → Int32} (hG : f_X5_goesBy_Ml nl ro (f_X5_asItIs_Ml nl ro lt) (f_X5_sectionsOf pe ss who) = G) : ∀ i j, f_X5_minute_78_Ms nl pe ro ss lt who i (3 * j) = ss (3 * j) ∧ f_X5_minute_78_Ms nl pe ro ss lt who i (3 * j + 1) = (if j < i then ss (3 * j + 1) + ((who >>> (nI j &&& 31)) &&& 1) else ss (3 * j + 1)) ∧ f_X5_minute_78_Ms nl pe ro ss lt who i (3 * j + 2) = if j < i then ss (3 * j + 2) + (if G (ss (3 * j)).toNatClampNeg = 0 then 1 else 0) else ss (3 * j + 2)
  | 0, j => ⟨rfl, (if_neg (Nat.not_lt_zero j)).symm, (if_neg (Nat.not_lt_zero j)).symm⟩
  | i + 1, j => by
    obtain ⟨a, b, c⟩ := Ms_i nl pe ro ss lt who hG i j
    obtain ⟨a', b', c'⟩ := Ms_i nl pe ro ss lt who hG i i
    rw [if_neg (Nat.lt_irrefl i)] at b' c'
    rw [f_X5_minute_78_Ms, hG]
    generalize f_X5_minute_78_Ms nl pe ro ss lt who i = F at *
    rw [pk_un (show 3 * i ≠ 3 * i + 1 by omega), pk_un (show 3 * i + 2 ≠ 3 * i + 1 by omega), a', b', c']
    by_cases q : j = i
    · subst q
      rw [if_pos (show j < j + 1 by omega), if_pos (show j < j + 1 by omega)]
      by_cases z : G (ss (3 * j)).toNatClampNeg = 0
      · rw [if_pos z, if_pos z, pk_un (show 3 * j ≠ 3 * j + 2 by omega), pk_un (show 3 * j ≠ 3 * j + 1 by omega), pk_un (show 3 * j + 1 ≠ 3 * j + 2 by omega), pk_us, pk_us]
        exact ⟨a', rfl, rfl⟩
      · rw [if_neg z, if_neg z, pk_un (show 3 * j ≠ 3 * j + 2 by omega), pk_un (show 3 * j ≠ 3 * j + 1 by omega), pk_un (show 3 * j + 1 ≠ 3 * j + 2 by omega), pk_us, pk_us]
        exact ⟨a', rfl, rfl⟩
    · have e : ∀ (x y : Int32), upd (upd F (3 * i + 1) x) (3 * i + 2) y (3 * j) = F (3 * j) ∧ upd (upd F (3 * i + 1) x) (3 * i + 2) y (3 * j + 1) = F (3 * j + 1) ∧ upd (upd F (3 * i + 1) x) (3 * i + 2) y (3 * j + 2) = F (3 * j + 2) := fun x y => ⟨by rw [pk_un (by omega), pk_un (by omega)], by rw [pk_un (by omega), pk_un (by omega)], by rw [pk_un (by omega), pk_un (by omega)]⟩
      have w : (j < i + 1) ↔ j < i := by omega
      simp only [w]
      by_cases z : G (ss (3 * i)).toNatClampNeg = 0
      · rw [if_pos z, (e _ _).1, (e _ _).2.1, (e _ _).2.2]
        exact ⟨a, b, c⟩
      · rw [if_neg z, (e _ _).1, (e _ _).2.1, (e _ _).2.2]
        exact ⟨a, b, c⟩
theorem Ew_i (wv : Nat → Int32) (who : Int32) : ∀ i j, f_X0_write_2_Ew wv who i j = if j < i then wv j + ((who >>> (nI j &&& 31)) &&& 1) else wv j
  | 0, j => (if_neg (Nat.not_lt_zero j)).symm
  | i + 1, j => by
    rw [f_X0_write_2_Ew, Ew_i wv who i i, if_neg (Nat.lt_irrefl i)]
    by_cases q : j = i
    · subst q
      rw [pk_us, if_pos (by omega)]
    · rw [pk_un q, Ew_i wv who i j]
      by_cases z : j < i
      · rw [if_pos z, if_pos (by omega)]
      · rw [if_neg z, if_neg (by omega)]
theorem Ed_i (sc dk : Nat → Int32) (lo : Int32) : ∀ i j, f_X0_write_2_Ed sc dk lo i j = if j < i then dk j + (1 - ((lo >>> (sc j &&& 31)) &&& 1)) else dk j
  | 0, j => (if_neg (Nat.not_lt_zero j)).symm
  | i + 1, j => by
    rw [f_X0_write_2_Ed, Ed_i sc dk lo i i, if_neg (Nat.lt_irrefl i)]
    by_cases q : j = i
    · subst q
      rw [pk_us, if_pos (by omega)]
    · rw [pk_un q, Ed_i sc dk lo i j]
      by_cases z : j < i
      · rw [if_pos z, if_pos (by omega)]
      · rw [if_neg z, if_neg (by omega)]
theorem darkNow_cong {ss ss' lt : Nat → Int32} (h : ∀ j, ss' (3 * j) = ss (3 * j)) : ∀ i, f_X5_darkNow_4_v1 ss' lt i = f_X5_darkNow_4_v1 ss lt i
  | 0 => rfl
  | i + 1 => by rw [f_X5_darkNow_4_v1, f_X5_darkNow_4_v1, h i, darkNow_cong h i]
theorem s_minute (qb : Nat) (pl : Nat) (co : Nat → Int32) (nl : Nat) (kd : Nat → Int32) (ho : Nat → Int32) (sn : Nat → Int32) (li : Int32) (pe : Nat) (sc : Nat → Int32) (wv : Nat → Int32) (dk : Nat → Int32) (to : Int32) (tl : Nat → Int32) (td : Nat → Int32) (kli : Int32) (kmi : Int32) (kpe : Int32) (ksc : Nat → Int32) (kwv : Nat → Int32) (kdk : Nat → Int32) (kto : Int32) (ktl : Nat → Int32) (ktd : Nat → Int32) (ik : Int32) (ofr : Int32) (rd : Int32) (mco : Nat → Int32) (ro : Nat → Int32) (ss : Nat → Int32) (bk : Nat) (bo : Nat → Int32) (ko : Int32) (mkpe : Int32) (mkmi : Int32) (kbk : Int32) (kro : Nat → Int32) (kss : Nat → Int32) (kbo : Nat → Int32) (mi : Int32) (lt : Nat → Int32) (x1 : Int32) (h : RR qb pl co nl kd ho sn li pe sc wv dk to tl td kli kmi kpe ksc kwv kdk kto ktl ktd ik ofr rd mco ro ss bk bo ko mkpe mkmi kbk kro kss kbo) : (f_X4_minute nl ho sn li pe sc x1) = (f_X5_minute nl pe ro ss lt x1) ∧ (f_X5_minute_M_3 nl mi pe x1) = (f_X4_minute_E_1 nl mi pe x1) ∧ RR (qb + 4) pl co nl kd ho sn (f_X4_minute_E_0 nl ho sn li pe sc x1) pe sc (f_X4_minute_Ew nl pe wv x1) (f_X4_minute_Ed nl ho sn li pe sc dk x1) to tl td kli kmi kpe ksc kwv kdk kto ktl ktd ik ofr rd mco (f_X5_minute_Mr nl pe ro ss lt x1) (f_X5_minute_Ms nl pe ro ss lt x1) bk bo ko mkpe mkmi kbk kro kss kbo := by
  have h0 := h
  obtain ⟨v, hh, hn, hpe, hv, hli, hhh, hse, hsc⟩ := ev_cx h.2.1 h.2.2.1
  obtain ⟨h1, h2, h3, h4, h5⟩ := h
  unfold f_X4_minute f_X5_minute f_X5_minute_M_3 f_X4_minute_E_1 f_X4_minute_E_0 f_X4_minute_Ew f_X4_minute_Ed f_X5_minute_Mr f_X5_minute_Ms
  rcases who_in hpe x1 with ⟨e1, e2⟩ | ⟨e1, e2⟩
  · simp only [e1, e2, n10, ↓reduceIte]
    rcases office_eq hn with ⟨n0, e4, e5⟩ | ⟨n0, e4, e5⟩
    · simp only [e4, e5, n10, ↓reduceIte]
      exact ⟨trivial, trivial, h0.mono⟩
    · simp only [e4, e5, n10, ↓reduceIte]
      have hst := stirred_eq (sc := sc) (ss := ss) (pe := pe) x1 (fun j q => (hsc j q).1)
      rw [hst]
      generalize hS : f_X5_sectionsOf pe ss x1 = st
      rw [hli, after_eq hn (fun l q => (hv l q).1) (fun l q => ⟨(hhh l q).1.2, (hhh l q).2.1⟩)]
      have hav : ∀ l, l < nl → av sn hh st v l ≤ 9 := av_le (fun l q => (hv l q).1) (fun l q => (hhh l q).1.2)
      rw [litOnes_eq hn hav]
      have hG : ∀ l, l < nl → f_X5_goesBy_Ml nl ro (f_X5_asItIs_Ml nl ro lt) st l = nI (av sn hh st v l) := fun l q => goesBy_eq (ho := ho) q ⟨(hv l q).1, by rw [asItIs_eq q]; exact (hv l q).2⟩ (hse l q) (hhh l q).2.2
      have mr := Mr_i nl pe ro ss lt x1 (G := f_X5_goesBy_Ml nl ro (f_X5_asItIs_Ml nl ro lt) st) (by rw [hS])
      have ms := Ms_i nl pe ro ss lt x1 (G := f_X5_goesBy_Ml nl ro (f_X5_asItIs_Ml nl ro lt) st) (by rw [hS])
      generalize f_X5_goesBy_Ml nl ro (f_X5_asItIs_Ml nl ro lt) st = G at *
      generalize av sn hh st v = w at *
      obtain ⟨g1, g2, g3, g4, g5⟩ := h3
      refine ⟨?_, trivial, h1, h2, ⟨⟨w, fun l q => ⟨hav l q, ?_⟩, rfl⟩, fun l q => ?_, g3, fun j q => ?_, g5⟩, h4.mono, h5⟩
      · rw [dark_eq hn hsc (fun l q => ⟨hav l q, hG l q⟩)]
        exact (darkNow_cong (fun j => (ms pe j).1) pe).symm
      · rw [(mr nl l).2.2, if_pos q, hG l q]
      · rw [(mr nl l).1, (mr nl l).2.1]
        exact g2 l q
      · obtain ⟨z1, ⟨s, hs, z2⟩, z3, z4⟩ := g4 j q
        rw [(ms pe j).1, (ms pe j).2.1, (ms pe j).2.2, if_pos q, if_pos q]
        refine ⟨z1, ⟨s, hs, z2⟩, ?_, ?_⟩
        · show _ = f_X0_write_2_Ew wv x1 pe j
          rw [Ew_i, if_pos q, z3]
        · show _ = f_X0_write_2_Ed sc dk (nI (lm w nl)) pe j
          rw [Ed_i, if_pos q, z4, z1, z2, bit_lm hn hs, nI_clamp (by omega), hG s hs]
          have := hav s hs
          by_cases c : w s = 0
          · rw [if_pos c, if_pos ((nI_eq0 (by omega)).mpr c)]
            rfl
          · rw [if_neg c, if_neg (fun x => c ((nI_eq0 (by omega)).mp x))]
            rfl
  · simp only [if_neg e1, e2, ↓reduceIte]
    exact ⟨trivial, trivial, h0.mono⟩
