/-! pure rows I: waved, look -/
def lo (en : Nat → Int32) : Nat → Int32 → Int32
  | 0, f => f
  | i + 1, f => lo en i (if en i = -1 then f else nI i)
theorem lo_none {en : Nat → Int32} : ∀ n f, (∀ w, w < n → en w = -1) → lo en n f = f
  | 0, _, _ => rfl
  | n + 1, f, h => by rw [lo, if_pos (h n (by omega)), lo_none n f (fun w q => h w (by omega))]
theorem lo_some {en : Nat → Int32} {w : Nat} (h1 : ¬ en w = -1) (h2 : ∀ y, y < w → en y = -1) : ∀ n f, w < n → lo en n f = nI w
  | 0, _, h => absurd h (Nat.not_lt_zero w)
  | n + 1, f, h => by
    rw [lo]
    by_cases c : w = n
    · subst c
      rw [if_neg h1, lo_none w _ h2]
    · exact lo_some h1 h2 n _ (by omega)
theorem fi_none {en : Nat → Int32} {z : Nat} (hz : z ≤ 64) : ∀ k i, i ≤ z → z < i + k → (∀ w, i ≤ w → w < z → en w = -1) → f_X3_first_2_r en z k i = -1
  | 0, i, h1, h2, _ => absurd h2 (by omega)
  | k + 1, i, h1, h2, h => by
    rw [f_X3_first_2_r]
    by_cases c : i = z
    · rw [if_pos (nle_t rfl rfl (by omega) (by omega) (by omega))]
    · rw [if_neg (nle_f rfl rfl (by omega) (by omega) (by omega)), if_pos (h i (by omega) (by omega)), fi_none hz k (i + 1) (by omega) (by omega) (fun w q1 q2 => h w (by omega) q2)]
theorem fi_some {en : Nat → Int32} {z w : Nat} (hz : z ≤ 64) (hw : w < z) (h1 : ¬ en w = -1) (h2 : ∀ y, y < w → en y = -1) : ∀ k i, i ≤ w → w < i + k → f_X3_first_2_r en z k i = nI w
  | 0, i, h1, h2 => absurd h2 (by omega)
  | k + 1, i, q1, q2 => by
    rw [f_X3_first_2_r, if_neg (nle_f rfl rfl (by omega) (by omega) (by omega))]
    by_cases c : i = w
    · subst c
      rw [if_neg h1]
    · rw [if_pos (h2 i (by omega)), fi_some hz hw h1 h2 k (i + 1) (by omega) (by omega)]
theorem least_ex (P : Nat → Prop) [∀ n, Decidable (P n)] : ∀ n, (∀ w, w < n → P w) ∨ ∃ w, w < n ∧ ¬ P w ∧ ∀ y, y < w → P y
  | 0 => Or.inl (fun w q => absurd q (Nat.not_lt_zero w))
  | n + 1 => by
    rcases least_ex P n with h | ⟨w, h1, h2, h3⟩
    · by_cases c : P n
      · exact Or.inl (fun w q => by
          by_cases z : w = n
          · subst z
            exact c
          · exact h w (by omega))
      · exact Or.inr ⟨n, by omega, c, h⟩
    · exact Or.inr ⟨w, by omega, h2, h3⟩
theorem first_lo {en : Nat → Int32} {z : Nat} (hz : z ≤ 64) : f_X3_first en z = lo en z (-1) := by
  unfold f_X3_first
  rcases least_ex (fun w => en w = -1) z with h | ⟨w, h1, h2, h3⟩
  · rw [fi_none hz (z + 1) 0 (by omega) (by omega) (fun w _ q => h w q), lo_none z _ h]
  · rw [fi_some hz h1 h2 h3 (z + 1) 0 (by omega) (by omega), lo_some h2 h3 z _ h1]
/-- what the class's table and the reference's simulation have in common -/
def SM (nl bk mm pj : Nat) (ro ss bo en : Nat → Int32) : Prop := ∀ y, y < 2 ^ mm → ∃ w : Nat → Nat, (∀ l, l < nl → w l ≤ 9) ∧ ((en y = -1 ∧ ∀ L, f_X5_canWave nl bk ro ss L bo mm pj (nI y) = 0) ∨ (en y = nI (pk w nl) ∧ ¬ en y = -1 ∧ ∀ L, ¬ f_X5_canWave nl bk ro ss L bo mm pj (nI y) = 0)) ∧ ∀ L, ∀ l, l < nl → f_X5_canWave_Ml nl ro ss L mm pj (nI y) l = nI (w l)
theorem wv_r {nl bk mm pj : Nat} {ro ss bo en : Nat → Int32} (hs : SM nl bk mm pj ro ss bo en) (what : Int32) : ∀ i, i ≤ 2 ^ mm → i ≤ 64 → ∀ (c f : Int32) (L : Nat → Int32), f_X5_wavedOf_13_r nl bk ro ss bo mm pj what (i + 1) i c f L = if what = 0 then c + f_X3_left_4_v1 en i else lo en i f
  | 0, _, _, c, f, L => by
    rw [f_X5_wavedOf_13_r, if_pos (show dI 0 < 0 by decide), f_X3_left_4_v1, lo, Int32.add_zero]
  | i + 1, hi, h64, c, f, L => by
    rw [f_X5_wavedOf_13_r, if_neg (show ¬ dI (i + 1) < 0 from nlt_f (b := 0) rfl rfl (by omega) (by decide) (by omega)), show dI (i + 1) = nI i from rfl, Nat.add_sub_cancel, f_X3_left_4_v1, lo]
    obtain ⟨w, -, h, -⟩ := hs i (by omega)
    rcases h with ⟨h1, h2⟩ | ⟨-, h1, h2⟩
    · rw [if_pos (h2 L), if_pos h1, if_pos h1, wv_r hs what i (by omega) (by omega), Int32.add_zero]
    · rw [if_neg (h2 L), if_neg h1, if_neg h1, wv_r hs what i (by omega) (by omega), Int32.add_assoc, Int32.add_comm 1]
theorem sm_of {nl pe bk mm pj : Nat} {kd ho sn sc wv dk tl td ro ss bo en : Nat → Int32} {li to : Int32} (hL : RLm nl kd ho sn) (hE : REv nl kd ho li pe sc wv dk to tl td ro ss bk bo) (hm : mm ≤ 6) (hj : pj < pe) : SM nl bk mm pj ro ss bo (f_X3_follow_Ye nl ho sn li tl td en mm (sc pj)) := by
  obtain ⟨v, hh, hn, hpe, hv, hli, hhh, hse, hsc⟩ := ev_cx hL hE
  have hb := hE.2.2.2.2
  obtain ⟨st, hst⟩ : ∃ st, (1 : Int32) <<< (sc pj &&& 31) = st := ⟨_, rfl⟩
  have hst5 : (1 : Int32) <<< (ss (3 * pj) &&& 31) = st := by rw [(hsc pj hj).1]; exact hst
  have hfo : ∀ y, y < 2 ^ mm → f_X3_follow_Ye nl ho sn li tl td en mm (sc pj) y = eW tl td nl sn hh st v y mm := by
    intro y hy
    unfold f_X3_follow_Ye
    have hlo : f_X1_litOnes nl li = nI (lm v nl) := by rw [hli]; exact litOnes_eq hn (fun l q => (hv l q).1)
    rw [hlo]
    by_cases c : f_X0_bookAgrees tl td (nI (lm v nl)) 0 = 0
    · rw [if_pos c]
      exact fo_sim hn (fun l q => (hv l q).1) (fun l q => ⟨(hhh l q).1.2, (hhh l q).2.1⟩) hst (by rw [pk_us]; exact (if_pos c).symm) mm hm y hy
    · rw [if_neg c]
      exact fo_sim hn (fun l q => (hv l q).1) (fun l q => ⟨(hhh l q).1.2, (hhh l q).2.1⟩) hst (by rw [pk_us, hli]; exact (if_neg c).symm) mm hm y hy
  intro y hy
  have hp : 2 ^ mm ≤ 2 ^ 6 := Nat.pow_le_pow_right (by decide) hm
  have c9 := cv_le (sn := sn) (st := st) (way := y) (fun l q => (hv l q).1) (fun l q => (hhh l q).1.2) mm
  have sim := fun L : Nat → Int32 => cw_sim (lt := L) (way := y) hn hv hhh hse hb hst5 (by omega) mm hm
  refine ⟨cv sn hh st v y mm, c9, ?_, fun L => (sim L).1⟩
  rw [hfo y hy]
  unfold eW
  by_cases c : okb tl td nl sn hh st v y mm = 0
  · rw [if_pos c]
    exact Or.inl ⟨rfl, fun L => (sim L).2.trans c⟩
  · rw [if_neg c]
    exact Or.inr ⟨rfl, nI_m1 (Nat.lt_trans (pq_small hn c9) (by decide)), fun L z => c ((sim L).2.symm.trans z)⟩
theorem s_waved (qb : Nat) (pl : Nat) (co : Nat → Int32) (nl : Nat) (kd : Nat → Int32) (ho : Nat → Int32) (sn : Nat → Int32) (li : Int32) (pe : Nat) (sc : Nat → Int32) (wv : Nat → Int32) (dk : Nat → Int32) (to : Int32) (tl : Nat → Int32) (td : Nat → Int32) (kli : Int32) (kmi : Int32) (kpe : Int32) (ksc : Nat → Int32) (kwv : Nat → Int32) (kdk : Nat → Int32) (kto : Int32) (ktl : Nat → Int32) (ktd : Nat → Int32) (ik : Int32) (ofr : Int32) (rd : Int32) (mco : Nat → Int32) (ro : Nat → Int32) (ss : Nat → Int32) (bk : Nat) (bo : Nat → Int32) (ko : Int32) (mkpe : Int32) (mkmi : Int32) (kbk : Int32) (kro : Nat → Int32) (kss : Nat → Int32) (kbo : Nat → Int32) (en : Nat → Int32) (lt : Nat → Int32) (x1 : Int32) (x2 : Int32) (x3 : Int32) (h : RR qb pl co nl kd ho sn li pe sc wv dk to tl td kli kmi kpe ksc kwv kdk kto ktl ktd ik ofr rd mco ro ss bk bo ko mkpe mkmi kbk kro kss kbo) : (f_X4_waved nl ho sn li pe sc tl td en x2 x1 x3) = (f_X5_waved nl pe bk ro ss lt bo x2 x1 x3) := by
  have hpe := h.2.2.1.2.2.1
  have e2 : f_X5_in x2.toInt64 1 6 = if x2 < 1 then 0 else if 6 < x2 then 0 else 1 := in_k x2 1 6 (by decide) (by decide)
  have e3 : f_X5_in x3.toInt64 0 1 = if x3 < 0 then 0 else if 1 < x3 then 0 else 1 := in_k x3 0 1 (by decide) (by decide)
  unfold f_X4_waved f_X5_waved
  rw [e2, e3]
  rcases isP (show pe ≤ 6 by omega) x1 with ⟨e4, e5⟩ | ⟨j, hj, rfl, e4, e5⟩
  · simp only [e4, e5, ↓reduceIte]
  · simp only [e4, e5, n10, ↓reduceIte, nI_clamp (show j < 2 ^ 31 by omega)]
    by_cases c1 : x2 < 1
    · simp only [c1, ↓reduceIte]
    · by_cases c2 : 6 < x2
      · simp only [c1, c2, ↓reduceIte]
      · simp only [c1, c2, n10, ↓reduceIte]
        by_cases c4 : x3 < 0
        · simp only [c4, ↓reduceIte]
        · by_cases c5 : 1 < x3
          · have c6 : ¬ x3 ≤ 1 := Int32.not_le.mpr c5
            simp only [c4, c5, c6, ↓reduceIte]
          · have c6 : x3 ≤ 1 := Int32.not_lt.mp c5
            simp only [c4, c5, c6, n10, ↓reduceIte]
            obtain ⟨k, hk, rfl⟩ := i0 x2 (fun q => c1 (Int32.lt_trans q (by decide)))
            have hk6 : k ≤ 6 := nlt_e (a := 6) (B := nI k) rfl rfl (by decide) hk c2
            rw [nI_clamp hk]
            have hs := sm_of (en := en) h.2.1 h.2.2.1 hk6 hj
            have hp : 2 ^ k ≤ 2 ^ 6 := Nat.pow_le_pow_right (by decide) hk6
            unfold f_X5_wavedOf
            rw [wv_r hs x3 (2 ^ k) (Nat.le_refl _) (by omega), first_lo (by omega), Int32.zero_add]
            rfl
-- look
theorem lk_i {nl bk mm pj : Nat} {ro ss bo en : Nat → Int32} (hn : nl ≤ 6) (hs : SM nl bk mm pj ro ss bo en) {l : Nat} (hl : l < nl) (O : Nat → Int32) : ∀ i, i ≤ 2 ^ mm → ∃ a d, a + d ≤ i ∧ f_X5_lookOf_26_v6 nl bk ro ss bo l mm O pj i = nI a ∧ f_X5_lookOf_26_v7 nl bk ro ss bo l mm O pj i = nI d ∧ f_X3_endLit_4_v2 en (nI l) i = nI a ∧ f_X3_left_4_v1 en i = nI (a + d)
  | 0, _ => ⟨0, 0, Nat.le_refl 0, rfl, rfl, rfl, rfl⟩
  | i + 1, hi => by
    obtain ⟨a, d, h0, h1, h2, h3, h4⟩ := lk_i hn hs hl O i (by omega)
    rw [f_X5_lookOf_26_v6, f_X5_lookOf_26_v7, f_X3_endLit_4_v2, f_X3_left_4_v1, h1, h2, h3, h4]
    obtain ⟨w, w9, h, hm⟩ := hs i (by omega)
    rcases h with ⟨z1, z2⟩ | ⟨z0, z1, z2⟩
    · rw [if_pos (z2 _), if_pos (z2 _), if_pos z1, if_pos z1]
      exact ⟨a, d, by omega, ix_add (y := 0) rfl rfl, ix_add (y := 0) rfl rfl, ix_add (y := 0) rfl rfl, ix_add (y := 0) rfl rfl⟩
    · have := w9 l hl
      rw [if_neg (z2 _), if_neg (z2 _), if_neg z1, if_neg z1, hm _ l hl, z0, left_pk hn w9 hl]
      by_cases c : w l = 0
      · rw [if_pos ((nI_le0 (by omega)).mpr c), if_pos ((nI_eq0 (by omega)).mpr c)]
        exact ⟨a, d + 1, by omega, ix_add (y := 0) rfl rfl, ix_add rfl rfl, ix_add (y := 0) rfl rfl, (ix_add (x := a + d) (y := 1) rfl rfl)⟩
      · rw [if_neg (fun q => c ((nI_le0 (by omega)).mp q)), if_neg (fun q => c ((nI_eq0 (by omega)).mp q))]
        exact ⟨a + 1, d, by omega, ix_add rfl rfl, ix_add (y := 0) rfl rfl, ix_add rfl rfl, by rw [show a + 1 + d = a + d + 1 by omega]; exact ix_add rfl rfl⟩
/-- the lamp's worst count, and what the two sides make of it -/
def mx (a d : Nat) : Nat := if a ≤ d then d else a
theorem lp_step {nl bk mm pj : Nat} {ro ss bo lt : Nat → Int32} {l a d : Nat} (ha : a ≤ 64) (hd : d ≤ 64) (h6 : f_X5_lookOf_26_v6 nl bk ro ss bo l mm (f_X5_lookOf_8_Ml nl ro ss lt mm pj l) pj (2 ^ mm) = nI a) (h7 : f_X5_lookOf_26_v7 nl bk ro ss bo l mm (f_X5_lookOf_8_Ml nl ro ss lt mm pj l) pj (2 ^ mm) = nI d) :
    f_X5_lookOf_8_p nl bk ro ss lt bo mm pj (l + 1) = (if mx a d = 0 then f_X5_lookOf_8_p nl bk ro ss lt bo mm pj l else if (f_X5_lookOf_8_p nl bk ro ss lt bo mm pj l).1 = -1 then (nI l, nI (mx a d)) else if (f_X5_lookOf_8_p nl bk ro ss lt bo mm pj l).2 ≤ nI (mx a d) then f_X5_lookOf_8_p nl bk ro ss lt bo mm pj l else (nI l, nI (mx a d))) := by
  rw [f_X5_lookOf_8_p, h6, h7]
  generalize f_X5_lookOf_8_p nl bk ro ss lt bo mm pj l = p
  obtain ⟨p1, p2⟩ := p
  have hc : (nI a ≤ nI d) ↔ a ≤ d := nI_leI (by omega) (by omega)
  have h0 : ∀ n, n ≤ 64 → ((nI n ≤ 0) ↔ n = 0) := fun n q => nI_le0 (by omega)
  unfold mx
  simp only [hc, h0 a ha, h0 d hd]
  by_cases c : a ≤ d
  · simp only [if_pos c]
    by_cases c0 : d = 0
    · simp only [if_pos c0]
    · simp only [if_neg c0]
      by_cases c1 : p1 = -1
      · simp only [if_pos c1]
      · simp only [if_neg c1]
        by_cases c2 : p2 ≤ nI d
        · simp only [if_pos c2]
        · simp only [if_neg c2]
  · simp only [if_neg c]
    by_cases c0 : a = 0
    · simp only [if_pos c0]
    · simp only [if_neg c0]
      by_cases c1 : p1 = -1
      · simp only [if_pos c1]
      · simp only [if_neg c1]
        by_cases c2 : p2 ≤ nI a
        · simp only [if_pos c2]
        · simp only [if_neg c2]
theorem lp_zero {nl bk mm pj : Nat} {ro ss bo lt en : Nat → Int32} (hn : nl ≤ 6) (hm : 2 ^ mm ≤ 64) (hs : SM nl bk mm pj ro ss bo en) (h0 : f_X3_left en (2 ^ mm) = 0) : ∀ l, l ≤ nl → f_X5_lookOf_8_p nl bk ro ss lt bo mm pj l = (-1, -1)
  | 0, _ => rfl
  | l + 1, hl => by
    obtain ⟨a, d, q0, q1, q2, q3, q4⟩ := lk_i hn hs (show l < nl by omega) (f_X5_lookOf_8_Ml nl ro ss lt mm pj l) (2 ^ mm) (Nat.le_refl _)
    have e : nI (a + d) = 0 := q4.symm.trans h0
    have e := (nI_eq0 (by omega)).mp e
    rw [lp_step (by omega) (by omega) q1 q2, lp_zero hn hm hs h0 l (by omega), if_pos (by unfold mx; split <;> omega)]
theorem tl_r {nl bk mm pj : Nat} {ro ss bo lt en : Nat → Int32} (hn : nl ≤ 6) (hm : 2 ^ mm ≤ 64) (hs : SM nl bk mm pj ro ss bo en) {N : Nat} (hN : f_X3_left en (2 ^ mm) = nI N) (hN0 : 0 < N) (hN64 : N ≤ 64) : ∀ k l, l ≤ nl → nl < l + k → ∀ (x y : Int32), x = (f_X5_lookOf_8_p nl bk ro ss lt bo mm pj l).1 → (x = -1 → y = nI (N + 1)) → (¬ x = -1 → y = (f_X5_lookOf_8_p nl bk ro ss lt bo mm pj l).2) → f_X3_tellingLamp_15_r nl en (2 ^ mm) k l x y = (f_X5_lookOf_8_p nl bk ro ss lt bo mm pj nl).1
  | 0, l, h1, h2, _, _, _, _, _ => absurd h2 (by omega)
  | k + 1, l, h1, h2, x, y, hx, hy1, hy2 => by
    rw [f_X3_tellingLamp_15_r]
    by_cases c : l = nl
    · rw [if_pos (nle_t rfl rfl (by omega) (by omega) (by omega)), hx, c]
    · rw [if_neg (nle_f rfl rfl (by omega) (by omega) (by omega)), hN, if_neg (fun q => absurd ((nI_le0 (by omega)).mp q) (by omega))]
      obtain ⟨a, d, q0, q1, q2, q3, q4⟩ := lk_i hn hs (show l < nl by omega) (f_X5_lookOf_8_Ml nl ro ss lt mm pj l) (2 ^ mm) (Nat.le_refl _)
      have eN : N = a + d := (nI_eqk (by omega) (by omega)).mp (hN.symm.trans q4)
      have st := lp_step (lt := lt) (show a ≤ 64 by omega) (show d ≤ 64 by omega) q1 q2
      have ev : (if f_X3_endLit en (nI l) (2 ^ mm) < nI N - f_X3_endLit en (nI l) (2 ^ mm) then nI N - f_X3_endLit en (nI l) (2 ^ mm) else f_X3_endLit en (nI l) (2 ^ mm)) = nI (mx a d) := by
        rw [show f_X3_endLit en (nI l) (2 ^ mm) = nI a from q3, show nI N - nI a = nI d by rw [ix_sub (show a ≤ N by omega) rfl rfl]; congr 1; omega]
        unfold mx
        by_cases z : a < d
        · rw [if_pos ((nI_ltI (by omega) (by omega)).mpr z), if_pos (by omega)]
        · rw [if_neg (fun q => z ((nI_ltI (by omega) (by omega)).mp q))]
          by_cases z2 : a ≤ d
          · rw [if_pos z2, show a = d by omega]
          · rw [if_neg z2]
      have m0 : ¬ mx a d = 0 := by unfold mx; split <;> omega
      have mN : mx a d ≤ N := by unfold mx; split <;> omega
      rw [ev]
      rw [if_neg m0] at st
      by_cases cx : x = -1
      · rw [hy1 cx, if_neg (nle_f rfl rfl (by omega) (by omega) (by omega))]
        rw [← hx, if_pos cx] at st
        exact tl_r hn hm hs hN hN0 hN64 k (l + 1) (by omega) (by omega) _ _ (by rw [st]) (fun q => absurd q (nI_m1 (by omega))) (fun _ => by rw [st])
      · rw [← hx, if_neg cx, ← hy2 cx] at st
        by_cases cy : y ≤ nI (mx a d)
        · rw [if_pos cy]
          rw [if_pos cy] at st
          exact tl_r hn hm hs hN hN0 hN64 k (l + 1) (by omega) (by omega) _ _ (by rw [st]; exact hx) (fun q => absurd q cx) (fun _ => by rw [st]; exact hy2 cx)
        · rw [if_neg cy]
          rw [if_neg cy] at st
          exact tl_r hn hm hs hN hN0 hN64 k (l + 1) (by omega) (by omega) _ _ (by rw [st]) (fun q => absurd q (nI_m1 (by omega))) (fun _ => by rw [st])
theorem left_n (en : Nat → Int32) : ∀ i, ∃ n, n ≤ i ∧ f_X3_left_4_v1 en i = nI n
  | 0 => ⟨0, Nat.le_refl 0, rfl⟩
  | i + 1 => by
    obtain ⟨n, h1, h2⟩ := left_n en i
    rw [f_X3_left_4_v1, h2]
    split
    · exact ⟨n, by omega, ix_add (y := 0) rfl rfl⟩
    · exact ⟨n + 1, by omega, ix_add rfl rfl⟩
theorem s_look (qb : Nat) (pl : Nat) (co : Nat → Int32) (nl : Nat) (kd : Nat → Int32) (ho : Nat → Int32) (sn : Nat → Int32) (li : Int32) (pe : Nat) (sc : Nat → Int32) (wv : Nat → Int32) (dk : Nat → Int32) (to : Int32) (tl : Nat → Int32) (td : Nat → Int32) (kli : Int32) (kmi : Int32) (kpe : Int32) (ksc : Nat → Int32) (kwv : Nat → Int32) (kdk : Nat → Int32) (kto : Int32) (ktl : Nat → Int32) (ktd : Nat → Int32) (ik : Int32) (ofr : Int32) (rd : Int32) (mco : Nat → Int32) (ro : Nat → Int32) (ss : Nat → Int32) (bk : Nat) (bo : Nat → Int32) (ko : Int32) (mkpe : Int32) (mkmi : Int32) (kbk : Int32) (kro : Nat → Int32) (kss : Nat → Int32) (kbo : Nat → Int32) (en : Nat → Int32) (lt : Nat → Int32) (x1 : Int32) (x2 : Int32) (h : RR qb pl co nl kd ho sn li pe sc wv dk to tl td kli kmi kpe ksc kwv kdk kto ktl ktd ik ofr rd mco ro ss bk bo ko mkpe mkmi kbk kro kss kbo) : (f_X4_look nl ho sn li pe sc tl td en x2 x1) = (f_X5_look nl pe bk ro ss lt bo x2 x1) := by
  have hn := h.2.1.2.1
  have hpe := h.2.2.1.2.2.1
  have e2 : f_X5_in x2.toInt64 1 6 = if x2 < 1 then 0 else if 6 < x2 then 0 else 1 := in_k x2 1 6 (by decide) (by decide)
  unfold f_X4_look f_X5_look
  rw [e2]
  rcases isP (show pe ≤ 6 by omega) x1 with ⟨e4, e5⟩ | ⟨j, hj, rfl, e4, e5⟩
  · simp only [e4, e5, ↓reduceIte]
  · simp only [e4, e5, n10, ↓reduceIte, nI_clamp (show j < 2 ^ 31 by omega)]
    by_cases c1 : x2 < 1
    · simp only [c1, ↓reduceIte]
    · by_cases c2 : 6 < x2
      · have c6 : ¬ x2 ≤ 6 := Int32.not_le.mpr c2
        simp only [c1, c2, c6, ↓reduceIte]
      · have c6 : x2 ≤ 6 := Int32.not_lt.mp c2
        simp only [c1, c2, c6, n10, ↓reduceIte]
        obtain ⟨k, hk, rfl⟩ := i0 x2 (fun q => c1 (Int32.lt_trans q (by decide)))
        have hk6 : k ≤ 6 := nlt_e (a := 6) (B := nI k) rfl rfl (by decide) hk c2
        rw [nI_clamp hk]
        have hs := sm_of (en := en) h.2.1 h.2.2.1 hk6 hj
        have hp : 2 ^ k ≤ 2 ^ 6 := Nat.pow_le_pow_right (by decide) hk6
        generalize f_X3_follow_Ye nl ho sn li tl td en k (sc j) = E at *
        unfold f_X3_tellingLamp f_X5_lookOf
        obtain ⟨N, hN1, hN⟩ := left_n E (2 ^ k)
        have hN : f_X3_left E (2 ^ k) = nI N := hN
        by_cases c0 : N = 0
        · have h0 : f_X3_left E (2 ^ k) = 0 := by rw [hN, c0]; rfl
          rw [lp_zero hn (by omega) hs h0 nl (Nat.le_refl nl), f_X3_tellingLamp_15_r, h0]
          by_cases cn : nI nl ≤ nI 0
          · rw [if_pos cn]
          · rw [if_neg cn, if_pos (by decide)]
        · exact tl_r hn (by omega) hs hN (by omega) (by omega) (nl + 1) 0 (by omega) (by omega) _ _ rfl (fun _ => by rw [hN]; exact nI_1 N) (fun q => absurd rfl q)
