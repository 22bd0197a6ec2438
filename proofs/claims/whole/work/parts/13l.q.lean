/-! pure rows L: there is always a waving that keeps all lit; least -/
theorem ownB : ∀ n, n < 7 → ∀ q, q < n → ∀ k, k < 5 → f_X5_seesOf n (fun _ => nI k) q = nI (f_X5_seesOf n (fun _ => nI k) q).toNatClampNeg ∧ (f_X5_seesOf n (fun _ => nI k) q).toNatClampNeg < 64 ∧ (f_X5_seesOf n (fun _ => nI k) q).toNatClampNeg / 2 ^ q % 2 = 1 := by decide +kernel
theorem andB : ∀ q, q < 6 → ∀ a, a < 64 → a / 2 ^ q % 2 = 1 → ∀ b, b < 64 → b / 2 ^ q % 2 = 1 → ¬ nI a &&& nI b = 0 := by decide +kernel
theorem orB : ∀ q, q < 6 → ∀ y, y < 6 → ∀ b, b < 64 → (b ||| 2 ^ q) < 64 ∧ (b ||| 2 ^ q) / 2 ^ q % 2 = 1 ∧ (b / 2 ^ y % 2 = 1 → (b ||| 2 ^ q) / 2 ^ y % 2 = 1) := by decide +kernel
theorem allB : ∀ pe, pe < 5 → ∀ i, i < pe → ((nI (2 ^ pe - 1) >>> (nI i &&& 31)) &&& 1) = 1 := by decide +kernel
theorem oshl {l : Nat} (h : l < 6) : ((1 : Int32) <<< (nI l &&& 31)) = nI (2 ^ l) := by
  have := shl_n (n := 1) (k := l) (by omega) (by
    rw [Nat.one_mul]
    exact Nat.pow_lt_pow_right (by decide) (by omega))
  rw [Nat.one_mul] at this
  exact this
theorem stir_all {nl pe : Nat} {sc : Nat → Int32} (hn : nl ≤ 6) (hpe : pe ≤ 4) (hsc : ∀ j, j < pe → ∃ q, q < nl ∧ sc j = nI q) : ∀ i, i ≤ pe → ∃ b, b < 64 ∧ f_X0_stirred_4_v2 sc (nI (2 ^ pe - 1)) i = nI b ∧ ∀ j, j < i → ∀ q, q < nl → sc j = nI q → b / 2 ^ q % 2 = 1
  | 0, _ => ⟨0, by decide, rfl, fun j q => absurd q (Nat.not_lt_zero j)⟩
  | i + 1, hi => by
    obtain ⟨b, b1, b2, b3⟩ := stir_all hn hpe hsc i (by omega)
    obtain ⟨q, hq, e⟩ := hsc i (by omega)
    rw [f_X0_stirred_4_v2, b2, allB pe (by omega) i (by omega), e, oshl (by omega), fa_or]
    refine ⟨b ||| 2 ^ q, (orB q (by omega) 0 (by decide) b b1).1, rfl, fun j hj y hy ey => ?_⟩
    by_cases c : j = i
    · subst c
      have : q = y := (nI_eqk (by omega) (by omega)).mp (e.symm.trans ey)
      rw [← this]
      exact (orB q (by omega) 0 (by decide) b b1).2.1
    · exact (orB q (by omega) y (by omega) b b1).2.2 (b3 j (by omega) y hy ey)
theorem dark0 {nl pe : Nat} {sc : Nat → Int32} {w : Nat → Nat} (hn : nl ≤ 6) (h : ∀ j, j < pe → ∃ q, q < nl ∧ sc j = nI q ∧ ¬ w q = 0) : ∀ i, i ≤ pe → f_X0_inDark_4_v2 sc (nI (lm w nl)) i = 0
  | 0, _ => rfl
  | i + 1, hi => by
    obtain ⟨q, hq, e, hw⟩ := h i (by omega)
    rw [f_X0_inDark_4_v2, dark0 hn h i (by omega), e, bit_lm hn hq, if_neg hw]
    rfl
theorem gd_all {nl pe : Nat} {kd ho sn sc : Nat → Int32} {hh : Nat → Nat} (hL : RLm nl kd ho sn) (hpe : pe ≤ 4) (hhh : ∀ l, l < nl → 1 ≤ hh l) (hsc : ∀ j, j < pe → ∃ q, q < nl ∧ sc j = nI q) {c : Nat} : ∀ r, (∀ j, j < r → c / (2 ^ pe) ^ j % 2 ^ pe = 2 ^ pe - 1) → ∀ w, gd nl pe sc sn hh c r w
  | 0, _, _ => trivial
  | r + 1, h, w => by
    rw [gd, h r (by omega)]
    refine ⟨dark0 hL.2.1 (fun j hj => ?_) pe (Nat.le_refl pe), gd_all hL hpe hhh hsc r (fun j q => h j (by omega)) _⟩
    obtain ⟨q, hq, e⟩ := hsc j hj
    have hn := hL.2.1
    obtain ⟨b, b1, b2, b3⟩ := stir_all hn hpe hsc pe (Nat.le_refl pe)
    obtain ⟨⟨k, hk, ek⟩, -, es⟩ := hL.2.2 q hq
    have es : sn q = f_X5_seesOf nl (fun _ => nI k) q := by rw [es, ek]
    obtain ⟨o1, o2, o3⟩ := ownB nl (by omega) q hq k (by omega)
    refine ⟨q, hq, e, ?_⟩
    unfold av
    rw [es, o1, show f_X0_stirred pe sc (nI (2 ^ pe - 1)) = nI b from b2, if_neg (andB q (by omega) _ o2 o3 b b1 (b3 j hj q hq e))]
    have := hhh q hq
    omega
theorem allC : ∀ pe, pe < 5 → ∀ mm, mm < 4 → (2 ^ pe) ^ mm - 1 < (2 ^ pe) ^ mm ∧ cn pe ((2 ^ pe) ^ mm - 1) mm ≤ pe * mm ∧ pe * mm ≤ 12 ∧ ∀ j, j < mm → ((2 ^ pe) ^ mm - 1) / (2 ^ pe) ^ j % 2 ^ pe = 2 ^ pe - 1 := by decide +kernel
theorem shrM : ∀ pe, pe < 5 → ∀ mm, mm < 4 → ∀ t, t < mm → nI pe * ((nI mm - 1) - nI t) = nI (pe * (mm - 1 - t)) ∧ pe * (mm - 1 - t) < 32 ∧ ((1 : Int32) <<< (nI pe &&& 31)) - 1 = nI (2 ^ pe - 1) ∧ (2 ^ pe) ^ mm ≤ 4096 := by decide +kernel
theorem and_pe (pe m : Nat) : nI m &&& nI (2 ^ pe - 1) = nI (m % 2 ^ pe) := by rw [fa_and, Nat.and_two_pow_sub_one_eq_mod]
theorem s_least (qb : Nat) (pl : Nat) (co : Nat → Int32) (nl : Nat) (kd : Nat → Int32) (ho : Nat → Int32) (sn : Nat → Int32) (li : Int32) (pe : Nat) (sc : Nat → Int32) (wv : Nat → Int32) (dk : Nat → Int32) (to : Int32) (tl : Nat → Int32) (td : Nat → Int32) (kli : Int32) (kmi : Int32) (kpe : Int32) (ksc : Nat → Int32) (kwv : Nat → Int32) (kdk : Nat → Int32) (kto : Int32) (ktl : Nat → Int32) (ktd : Nat → Int32) (ik : Int32) (ofr : Int32) (rd : Int32) (mco : Nat → Int32) (ro : Nat → Int32) (ss : Nat → Int32) (bk : Nat) (bo : Nat → Int32) (ko : Int32) (mkpe : Int32) (mkmi : Int32) (kbk : Int32) (kro : Nat → Int32) (kss : Nat → Int32) (kbo : Nat → Int32) (pn : Nat → Int32) (lt : Nat → Int32) (bc : Int32) (x1 : Int32) (x2 : Int32) (h : RR qb pl co nl kd ho sn li pe sc wv dk to tl td kli kmi kpe ksc kwv kdk kto ktl ktd ik ofr rd mco ro ss bk bo ko mkpe mkmi kbk kro kss kbo) : (f_X4_least nl ho sn li pe sc pn x1 x2) = (f_X5_least nl pe bc ro ss lt x1 x2) := by
  obtain ⟨v, hh, hn, hpe, hv, hli, hhh, hse, hsc⟩ := ev_cx h.2.1 h.2.2.1
  have e1 : f_X5_in x1.toInt64 1 3 = if x1 < 1 then 0 else if 3 < x1 then 0 else 1 := in_k x1 1 3 (by decide) (by decide)
  have e2 : f_X5_in x2.toInt64 10 12 = if x2 < 10 then 0 else if 12 < x2 then 0 else 1 := in_k x2 10 12 (by decide) (by decide)
  unfold f_X4_least f_X5_least f_X4_asksMinute
  rw [e1, e2]
  by_cases c1 : x1 < 1
  · simp only [c1, ↓reduceIte]
  · by_cases c2 : 3 < x1
    · have c3 : ¬ x1 ≤ 3 := Int32.not_le.mpr c2
      simp only [c1, c2, c3, ↓reduceIte]
    · have c3 : x1 ≤ 3 := Int32.not_lt.mp c2
      simp only [c1, c2, c3, n10, ↓reduceIte]
      obtain ⟨mm, hmm, rfl⟩ := i0 x1 (fun q => c1 (Int32.lt_trans q (by decide)))
      have hm3 : mm ≤ 3 := nle_d (b := 3) rfl rfl hmm (by decide) c3
      have hm1 : 1 ≤ mm := nlt_e (b := 1) rfl rfl hmm (by decide) c1
      rw [nI_clamp hmm]
      -- both sides find the same plan
      obtain ⟨a1, a2, a3, a4⟩ := allC pe (by omega) mm (by omega)
      have hgd := gd_all (c := (2 ^ pe) ^ mm - 1) h.2.1 hpe (fun l q => (hhh l q).1.1) (fun j q => (hsc j q).2) mm a4 v
      obtain ⟨b, hb, r1, r2⟩ := pw_r (ho := ho) (sc := sc) (sn := sn) hn hpe hm3 (fun l q => (hv l q).1) (fun l q => ⟨(hhh l q).1.2, (hhh l q).2.1⟩) a3 ⟨_, a1, hgd, a2⟩ (pe * mm + 2) 0 (by omega) (by omega) (fun c _ _ => Nat.zero_le _) pn
      have hll : f_X5_layLeast_34_v4 nl pe ro ss lt mm ((2 ^ pe) ^ mm) = nI (cn pe b mm) ∧ f_X5_layLeast_34_M_9 nl pe bc ro ss lt mm ((2 ^ pe) ^ mm) = nI b := by
        rcases ll34 (lt := lt) (bc := bc) hn hpe hm3 hv hhh hse hsc ((2 ^ pe) ^ mm) with ⟨l1, l2⟩ | ⟨b', l1, l2, l3⟩
        · exact absurd hgd (l1 _ a1)
        · rw [best_uni hb l1]
          exact ⟨l2, l3⟩
      have x4 : f_X4_planWaving nl ho sn li pe sc pn mm = nI (cn pe b mm) := by rw [hli]; exact r1
      have x5 : f_X5_layLeast nl pe ro ss lt mm = nI (cn pe b mm) := hll.1
      unfold f_X5_leastOf
      by_cases c4 : x2 = 0
      · simp only [c4, ↓reduceIte]
        rcases office_eq hn with ⟨n0, e4, e5⟩ | ⟨n0, e4, e5⟩
        · simp only [e4, e5, n10, ↓reduceIte]
        · simp only [e4, e5, n10, ↓reduceIte]
          rw [x4, x5]
      · simp only [if_neg c4]
        rw [show (10 + 3 : Int32) = 13 from rfl]
        by_cases c5 : x2 < 10
        · simp only [c5, ↓reduceIte]
        · obtain ⟨u, hu, rfl⟩ := i0 x2 (fun q => c5 (Int32.lt_trans q (by decide)))
          have hu10 : 10 ≤ u := nlt_e (b := 10) rfl rfl hu (by decide) c5
          by_cases c6 : (12 : Int32) < nI u
          · have c7 : (13 : Int32) ≤ nI u := nle_t (a := 13) rfl rfl (by decide) hu (nlt_d (a := 12) (B := nI u) rfl rfl (by decide) hu c6)
            simp only [c5, c6, c7, ↓reduceIte]
          · have hu12 : u ≤ 12 := nlt_e (a := 12) (B := nI u) rfl rfl (by decide) hu c6
            have c7 : ¬ (13 : Int32) ≤ nI u := nle_f (a := 13) rfl rfl (by decide) hu (by omega)
            simp only [c5, c6, c7, n10, ↓reduceIte]
            rcases office_eq hn with ⟨n0, e4, e5⟩ | ⟨n0, e4, e5⟩
            · simp only [e4, e5, n10, ↓reduceIte]
            · simp only [e4, e5, n10, ↓reduceIte]
              unfold f_X4_ofMinute
              rw [show nI u - 10 = nI (u - 10) from ix_sub hu10 rfl rfl, if_neg (show ¬ nI (u - 10) < 0 from nlt_f (b := 0) rfl rfl (by omega) (by decide) (by omega))]
              by_cases c8 : mm ≤ u - 10
              · have c9 : nI mm ≤ nI (u - 10) := nle_t rfl rfl (by omega) (by omega) c8
                rw [if_pos c9, if_pos c9]
              · have c9 : ¬ nI mm ≤ nI (u - 10) := nle_f rfl rfl (by omega) (by omega) (by omega)
                obtain ⟨s1, s2, s3, s4⟩ := shrM pe (by omega) mm (by omega) (u - 10) (by omega)
                have hbl := hb.1
                have z4 : f_X4_planWaving_N nl ho sn li pe sc pn mm (u - 10) = nI (b / (2 ^ pe) ^ (mm - 1 - (u - 10)) % 2 ^ pe) := by rw [hli]; exact r2 (u - 10) (by omega)
                rw [if_neg c9, if_neg c9, if_neg (nle_f rfl rfl (by omega) (by omega) (by omega)), nI_clamp (by omega), z4, show f_X5_layLeast_M_9 nl pe bc ro ss lt mm = nI b from hll.2, s1, s3, shr_n (by omega) s2, and_pe, ← Nat.pow_mul]
