/-! pure rows F: the office -/
theorem fa_le {pl : Nat} {co mco : Nat → Int32} (h : RPg pl co mco) : ∀ k i, i ≤ pl → pl < i + k → ∃ f, f ≤ pl ∧ f_X2_firstFault_2_r pl co k i = nI f ∧ (f = pl → ∀ j, i ≤ j → j < pl → ¬ f_X2_fits (co j) (nI j) = 0)
  | 0, i, h1, h2 => absurd h2 (by omega)
  | k + 1, i, h1, h2 => by
    have h20 := h.1
    rw [f_X2_firstFault_2_r]
    by_cases c : i = pl
    · have c1 : nI pl ≤ nI i := nle_t rfl rfl (by omega) (by omega) (by omega)
      rw [if_pos c1]
      exact ⟨i, h1, rfl, fun _ j q1 q2 => absurd q2 (by omega)⟩
    · have c1 : ¬ nI pl ≤ nI i := nle_f rfl rfl (by omega) (by omega) (by omega)
      rw [if_neg c1]
      by_cases d : f_X2_fits (co i) (nI i) = 0
      · rw [if_pos d]
        exact ⟨i, h1, rfl, fun q => absurd q c⟩
      · rw [if_neg d]
        obtain ⟨f, f1, f2, f3⟩ := fa_le h k (i + 1) (by omega) (by omega)
        refine ⟨f, f1, f2, fun q j q1 q2 => ?_⟩
        by_cases z : j = i
        · subst z
          exact d
        · exact f3 q j (by omega) q2
theorem rem2 : ∀ n, n < 21 → (nI n - nI n / 3 * 3 = 2) → n % 3 = 2 := by decide +kernel
theorem fit17 : ∀ i, i < 21 → 17 ≤ i → ∀ k, k < 127 → f_X2_fits (nI k) (nI i) = 0 := by decide +kernel
theorem fitK : ∀ l, l < 6 → ∀ k, k < 127 → f_X2_fits (nI k) (nI (3 * l)) = 0 ∨ (f_J0_indexOf_0f7a4 (((nI k).toUInt32 % 65536).toInt32) = f_X5_kindBy (nI k) ∧ f_X5_kindBy (nI k) = nI (f_X5_kindBy (nI k)).toNatClampNeg ∧ (f_X5_kindBy (nI k)).toNatClampNeg ≤ 4) := by decide +kernel
theorem fitH : ∀ l, l < 6 → ∀ k, k < 127 → f_X2_fits (nI k) (nI (3 * l + 1)) = 0 ∨ (nI k - 48 = nI (k - 48) ∧ 1 ≤ k - 48 ∧ k - 48 ≤ 9 ∧ (nI k - 48 + 1) / 2 = nI ((k - 48 + 1) / 2)) := by decide +kernel
theorem seesK : ∀ n, n < 7 → ∀ l, l < n → ∀ k, k < 5 → f_X1_seenBy (nI k) ((1 : Int32) <<< (nI l &&& 31)) &&& f_X1_allOnes n = f_X5_seesOf n (fun _ => nI k) l := by decide +kernel
theorem Lk_i (co kd : Nat → Int32) : ∀ n l, l < n → f_X1_read_19_Lk co kd n l = f_J0_indexOf_0f7a4 (((co (l * 3)).toUInt32 % 65536).toInt32)
  | 0, l, h => absurd h (Nat.not_lt_zero l)
  | n + 1, l, h => by
    rw [f_X1_read_19_Lk]
    by_cases q : l = n
    · subst q
      rw [pk_us]
    · rw [pk_un q, Lk_i co kd n l (by omega)]
theorem Lh_i (co kd ho : Nat → Int32) : ∀ n l, l < n → f_X1_read_19_Lh co kd ho n l = if f_J0_indexOf_0f7a4 (((co (l * 3)).toUInt32 % 65536).toInt32) = 3 then (co (l * 3 + 1) - 48 + 1) / 2 else co (l * 3 + 1) - 48
  | 0, l, h => absurd h (Nat.not_lt_zero l)
  | n + 1, l, h => by
    rw [f_X1_read_19_Lh, pk_us]
    by_cases q : l = n
    · subst q
      by_cases c : f_J0_indexOf_0f7a4 (((co (l * 3)).toUInt32 % 65536).toInt32) = 3
      · rw [if_pos c, if_pos c, pk_us]
      · rw [if_neg c, if_neg c, pk_us]
    · by_cases c : f_J0_indexOf_0f7a4 (((co (n * 3)).toUInt32 % 65536).toInt32) = 3
      · rw [if_pos c, pk_un q, Lh_i co kd ho n l (by omega)]
      · rw [if_neg c, pk_un q, Lh_i co kd ho n l (by omega)]
theorem Ls_i (pl : Nat) (co kd sn : Nat → Int32) : ∀ n l, l < n → f_X1_read_19_Ls pl co kd sn n l = (f_X1_seenBy (f_J0_indexOf_0f7a4 (((co (l * 3)).toUInt32 % 65536).toInt32)) ((1 : Int32) <<< (nI l &&& 31)) &&& f_X1_allOnes (min 6 ((pl + 1) / 3)))
  | 0, l, h => absurd h (Nat.not_lt_zero l)
  | n + 1, l, h => by
    rw [f_X1_read_19_Ls, pk_us]
    by_cases q : l = n
    · subst q
      rw [pk_us]
    · rw [pk_un q, Ls_i pl co kd sn n l (by omega)]
theorem Or_i (co ro : Nat → Int32) : ∀ n l, l < n → f_X5_office_46_Mr co ro n (3 * l) = f_X5_kindBy (co (3 * l)) ∧ f_X5_office_46_Mr co ro n (3 * l + 1) = (if f_X5_kindBy (co (3 * l)) = 3 then (co (3 * l + 1) - 48 + 1) / 2 else co (3 * l + 1) - 48) ∧ f_X5_office_46_Mr co ro n (3 * l + 2) = 0
  | 0, l, h => absurd h (Nat.not_lt_zero l)
  | n + 1, l, h => by
    rw [f_X5_office_46_Mr]
    by_cases q : l = n
    · subst q
      by_cases c : f_X5_kindBy (co (3 * l)) = 3
      · rw [if_pos c, if_pos c, pk_un (show 3 * l ≠ 3 * l + 2 by omega), pk_un (show 3 * l ≠ 3 * l + 1 by omega), pk_us, pk_un (show 3 * l + 1 ≠ 3 * l + 2 by omega), pk_us, pk_us]
        exact ⟨rfl, rfl, rfl⟩
      · rw [if_neg c, if_neg c, pk_un (show 3 * l ≠ 3 * l + 2 by omega), pk_un (show 3 * l ≠ 3 * l + 1 by omega), pk_us, pk_un (show 3 * l + 1 ≠ 3 * l + 2 by omega), pk_us, pk_us]
        exact ⟨rfl, rfl, rfl⟩
    · have e : ∀ (F : Nat → Int32) (x y z : Int32), upd (upd (upd F (3 * n) x) (3 * n + 1) y) (3 * n + 2) z (3 * l) = F (3 * l) ∧ upd (upd (upd F (3 * n) x) (3 * n + 1) y) (3 * n + 2) z (3 * l + 1) = F (3 * l + 1) ∧ upd (upd (upd F (3 * n) x) (3 * n + 1) y) (3 * n + 2) z (3 * l + 2) = F (3 * l + 2) := fun F x y z => ⟨by rw [pk_un (by omega), pk_un (by omega), pk_un (by omega)], by rw [pk_un (by omega), pk_un (by omega), pk_un (by omega)], by rw [pk_un (by omega), pk_un (by omega), pk_un (by omega)]⟩
      by_cases c : f_X5_kindBy (co (3 * n)) = 3
      · rw [if_pos c, (e _ _ _ _).1, (e _ _ _ _).2.1, (e _ _ _ _).2.2]
        exact Or_i co ro n l (by omega)
      · rw [if_neg c, (e _ _ _ _).1, (e _ _ _ _).2.1, (e _ _ _ _).2.2]
        exact Or_i co ro n l (by omega)
theorem pk_zero : ∀ n, pk (fun _ => 0) n = 0
  | 0 => rfl
  | n + 1 => by rw [pk, pk_zero n, Nat.zero_mul]
/-- a page that fits is an office -/
theorem of_cx {pl : Nat} {co mco kd ho sn ro : Nat → Int32} (h : RPg pl co mco) (h5 : 5 ≤ pl) (h3 : pl % 3 = 2) (hf : ∀ j, j < pl → ¬ f_X2_fits (co j) (nI j) = 0) :
    min 6 ((pl + 1) / 3) = (pl + 1) / 3 ∧ RLm ((pl + 1) / 3) (f_X1_read_Lk pl co kd) (f_X1_read_Lh pl co kd ho) (f_X1_read_Ls pl co kd sn) ∧ (∀ l, l < (pl + 1) / 3 → f_X5_office_46_Mr mco ro ((pl + 1) / 3) (3 * l) = f_X1_read_Lk pl co kd l ∧ f_X5_office_46_Mr mco ro ((pl + 1) / 3) (3 * l + 1) = f_X1_read_Lh pl co kd ho l ∧ f_X5_office_46_Mr mco ro ((pl + 1) / 3) (3 * l + 2) = 0) := by
  obtain ⟨h20, hp⟩ := h
  have h17 : pl ≤ 17 := by
    rcases Nat.lt_or_ge pl 18 with q | q
    · omega
    · obtain ⟨-, k, k1, k2, e⟩ := hp 17 (by omega)
      exact absurd (by rw [e]; exact fit17 17 (by decide) (by decide) k (by omega)) (hf 17 (by omega))
  have hm : min 6 ((pl + 1) / 3) = (pl + 1) / 3 := Nat.min_eq_right (by omega)
  generalize hN : (pl + 1) / 3 = n at *
  have hn6 : n ≤ 6 := by omega
  have hn2 : 2 ≤ n := by omega
  have key : ∀ l, l < n → ∃ kk hv, kk ≤ 4 ∧ 1 ≤ hv ∧ hv ≤ 9 ∧ f_J0_indexOf_0f7a4 (((co (l * 3)).toUInt32 % 65536).toInt32) = nI kk ∧ f_X5_kindBy (mco (3 * l)) = nI kk ∧ (if nI kk = 3 then (co (l * 3 + 1) - 48 + 1) / 2 else co (l * 3 + 1) - 48) = nI hv ∧ mco (3 * l + 1) = co (3 * l + 1) := by
    intro l hl
    obtain ⟨e1, k, k1, k2, e2⟩ := hp (3 * l) (by omega)
    obtain ⟨d1, j, j1, j2, d2⟩ := hp (3 * l + 1) (by omega)
    have fk := hf (3 * l) (by omega)
    have fh := hf (3 * l + 1) (by omega)
    rw [e2] at fk
    rw [d2] at fh
    obtain ⟨a1, a2, a3⟩ := (fitK l (by omega) k (by omega)).resolve_left fk
    obtain ⟨b1, b2, b3, b4⟩ := (fitH l (by omega) j (by omega)).resolve_left fh
    rw [Nat.mul_comm l 3, e1, e2, d2, b1, ← b1, b4, b1]
    by_cases c : nI (f_X5_kindBy (nI k)).toNatClampNeg = 3
    · exact ⟨(f_X5_kindBy (nI k)).toNatClampNeg, (j - 48 + 1) / 2, a3, by omega, by omega, a1.trans a2, a2, if_pos c, d1.trans d2⟩
    · exact ⟨(f_X5_kindBy (nI k)).toNatClampNeg, j - 48, a3, by omega, by omega, a1.trans a2, a2, if_neg c, d1.trans d2⟩
  refine ⟨hm, ⟨Or.inr hn2, hn6, fun l hl => ?_⟩, fun l hl => ?_⟩
  · obtain ⟨kk, hv, k4, v1, v9, e1, e2, e3, e4⟩ := key l hl
    unfold f_X1_read_Lk f_X1_read_Lh f_X1_read_Ls
    rw [hN, hm, Lk_i co kd n l hl, Lh_i co kd ho n l hl, Ls_i pl co kd sn n l hl, hN, hm, e1, e3]
    exact ⟨⟨kk, k4, rfl⟩, ⟨hv, v1, v9, rfl⟩, seesK n (by omega) l hl kk (by omega)⟩
  · obtain ⟨kk, hv, k4, v1, v9, e1, e2, e3, e4⟩ := key l hl
    unfold f_X1_read_Lk f_X1_read_Lh
    obtain ⟨o1, o2, o3⟩ := Or_i mco ro n l hl
    rw [hN, hm, Lk_i co kd n l hl, Lh_i co kd ho n l hl, o1, o2, o3, e1, e2, e4, Nat.mul_comm l 3]
    exact ⟨rfl, rfl, rfl⟩
theorem s_office (qb : Nat) (pl : Nat) (co : Nat → Int32) (nl : Nat) (kd : Nat → Int32) (ho : Nat → Int32) (sn : Nat → Int32) (li : Int32) (pe : Nat) (sc : Nat → Int32) (wv : Nat → Int32) (dk : Nat → Int32) (to : Int32) (tl : Nat → Int32) (td : Nat → Int32) (kli : Int32) (kmi : Int32) (kpe : Int32) (ksc : Nat → Int32) (kwv : Nat → Int32) (kdk : Nat → Int32) (kto : Int32) (ktl : Nat → Int32) (ktd : Nat → Int32) (ik : Int32) (ofr : Int32) (rd : Int32) (mco : Nat → Int32) (ro : Nat → Int32) (ss : Nat → Int32) (bk : Nat) (bo : Nat → Int32) (ko : Int32) (mkpe : Int32) (mkmi : Int32) (kbk : Int32) (kro : Nat → Int32) (kss : Nat → Int32) (kbo : Nat → Int32) (mi : Int32) (hqb : qb ≤ 256) (h : RR qb pl co nl kd ho sn li pe sc wv dk to tl td kli kmi kpe ksc kwv kdk kto ktl ktd ik ofr rd mco ro ss bk bo ko mkpe mkmi kbk kro kss kbo) : (f_X4_office pl co) = (f_X5_office pl mco) ∧ ∃ pl2 nl2 pe2 bk2 : Nat, (f_X4_office_P_1 pl co) = nI pl2 ∧ (f_X5_office_M_1 pl mco) = nI pl2 ∧ (f_X4_office_L_3 pl co nl) = nI nl2 ∧ (f_X5_office_M_2 pl mco nl) = nI nl2 ∧ (f_X4_office_E_2 pl co pe) = nI pe2 ∧ (f_X5_office_M_6 pl mco pe) = nI pe2 ∧ (f_X5_office_M_4 ofr pl mco) = (f_X4_office_O_8 ofr pl co) ∧ (f_X5_office_M_13 pl mco bk) = nI bk2 ∧ (f_X5_office_M_3 pl mco mi) = (f_X4_office_E_1 pl co mi) ∧ RR (qb + 4) pl2 co nl2 (f_X4_office_Lk pl co kd) (f_X4_office_Lh pl co kd ho) (f_X4_office_Ls pl co kd sn) (f_X4_office_E_0 pl co li) pe2 sc wv dk (f_X4_office_E_6 pl co to) (f_X4_office_El pl co tl) (f_X4_office_Et pl co td) kli kmi kpe ksc kwv kdk kto ktl ktd (f_X4_office_O_7 ik pl co) (f_X4_office_O_8 ofr pl co) rd mco (f_X5_office_Mr pl mco ro) ss bk2 bo ko mkpe mkmi kbk kro kss kbo := by
  have h0 := h
  obtain ⟨h1, h2, h3, h4, h5⟩ := h
  have h20 := h1.1
  obtain ⟨f, f1, f2, f3⟩ := fa_le h1 (pl + 1) 0 (Nat.zero_le pl) (by omega)
  have f4 : f_X5_faultOf pl mco = nI f := (fa_r h1 (pl + 1) 0 (Nat.zero_le pl)).symm.trans f2
  have f5 : f_X2_firstFault pl co = nI f := f2
  unfold f_X4_office f_X5_office f_X4_office_P_1 f_X5_office_M_1 f_X4_office_L_3 f_X5_office_M_2 f_X4_office_E_2 f_X5_office_M_6 f_X5_office_M_4 f_X4_office_O_8 f_X5_office_M_13 f_X5_office_M_3 f_X4_office_E_1 f_X4_office_Lk f_X4_office_Lh f_X4_office_Ls f_X4_office_E_0 f_X4_office_E_6 f_X4_office_El f_X4_office_Et f_X4_office_O_7 f_X5_office_Mr f_X2_isOffice
  by_cases c1 : nI pl < 5
  · simp only [c1, ↓reduceIte]
    exact ⟨trivial, pl, nl, pe, bk, rfl, rfl, rfl, rfl, rfl, rfl, trivial, rfl, trivial, h0.mono⟩
  · by_cases c2 : nI pl - nI pl / 3 * 3 = 2
    · by_cases c3 : f = pl
      · have c4 : nI f = nI pl := by rw [c3]
        have c5 : nI pl ≤ nI f := nle_t rfl rfl (by omega) (by omega) (by omega)
        simp only [c1, c2, f4, f5, if_pos c4, if_pos c5, n10, ↓reduceIte]
        obtain ⟨m1, m2, m3⟩ := of_cx (kd := kd) (ho := ho) (sn := sn) (ro := ro) h1 (nlt_e (b := 5) rfl rfl (by omega) (by decide) c1) (rem2 pl (by omega) c2) (fun j q => f3 c3 j (Nat.zero_le j) q)
        rw [m1]
        obtain ⟨q, hq, eo, ek, -⟩ := h4
        refine ⟨rfl, 0, (pl + 1) / 3, 0, 0, rfl, rfl, rfl, rfl, rfl, rfl, trivial, rfl, trivial, ⟨by omega, fun j q => absurd q (Nat.not_lt_zero j)⟩, m2, ⟨⟨fun _ => 0, fun l q => ⟨Nat.zero_le 9, (m3 l q).2.2⟩, by rw [pk_zero]; rfl⟩, fun l q => ⟨(m3 l q).1, (m3 l q).2.1⟩, by omega, fun j q => absurd q (Nat.not_lt_zero j), by omega, rfl, fun j q => absurd q (Nat.not_lt_zero j), fun m hm => ⟨eb_l tl 7 m (by omega), eb_t td 7 m (by omega)⟩⟩, ⟨q + 1, by omega, by rw [eo]; exact nI_1 q, ?_, Or.inl ⟨rfl, ?_⟩⟩, h5⟩
        · rcases ek with ek | ⟨r, hr, ek⟩
          · exact Or.inl ek
          · exact Or.inr ⟨r, by omega, ek⟩
        · rw [eo, nI_1 q]
          rcases ek with ek | ⟨r, hr, ek⟩
          · rw [ek]
            intro z
            have z2 := congrArg Int32.toInt z
            rw [nI_toInt (by omega)] at z2
            have : (-1 : Int32).toInt = -1 := by decide
            omega
          · rw [ek]
            exact neq_f rfl rfl (by omega) (by omega) (by omega)
      · have c4 : ¬ nI f = nI pl := neq_f rfl rfl (by omega) (by omega) c3
        have c5 : ¬ nI pl ≤ nI f := nle_f rfl rfl (by omega) (by omega) (by omega)
        simp only [c1, c2, f4, f5, if_neg c4, if_neg c5, ↓reduceIte]
        exact ⟨trivial, pl, nl, pe, bk, rfl, rfl, rfl, rfl, rfl, rfl, trivial, rfl, trivial, h0.mono⟩
    · simp only [c1, if_neg c2, ↓reduceIte]
      exact ⟨trivial, pl, nl, pe, bk, rfl, rfl, rfl, rfl, rfl, rfl, trivial, rfl, trivial, h0.mono⟩
