/-! pure rows G: nights -/
theorem seed_eq (x : Int32) : f_X5_draw_M_15 x = f_X4_nextSeed x := by
  unfold f_X5_draw_M_15 f_X4_nextSeed
  rw [Int64.toInt32_and, Int64.toInt32_add, Int64.toInt32_mul, Int32.toInt32_toInt64]
  rfl
theorem draw_eq (x : Int32) : f_X5_draw x 6 = f_X4_draw (f_X4_nextSeed x) := by
  have h := seed_eq x
  unfold f_X5_draw_M_15 at h
  unfold f_X5_draw f_X4_draw
  rw [h]
theorem n67 (o : Int32) : ∀ i, f_X4_nights_67_v6 o i = f_X5_nights_68_M_15 o i
  | 0 => rfl
  | i + 1 => by rw [f_X4_nights_67_v6, f_X5_nights_68_M_15, n67 o i, seed_eq]
theorem n68 (o : Int32) : ∀ i, f_X4_nights_67_v8 o i = f_X5_nights_68_v6 o i
  | 0 => rfl
  | i + 1 => by rw [f_X4_nights_67_v8, f_X5_nights_68_v6, n67 o i, n68 o i, draw_eq]
theorem n56 (pe : Nat) (seed : Int32) : ∀ i, f_X4_nights_55_v6 pe seed i = f_X5_nights_56_M_15 pe seed i
  | 0 => rfl
  | i + 1 => by rw [f_X4_nights_55_v6, f_X5_nights_56_M_15, n56 pe seed i, n67]
theorem n_sim {nl pe : Nat} {ho sn sc ss ro lt : Nat → Int32} {li seed : Int32} {v hh : Nat → Nat} (hn : nl ≤ 6) (hv : ∀ l, l < nl → v l ≤ 9 ∧ ro (3 * l + 2) = nI (v l)) (hli : li = nI (pk v nl)) (hhh : ∀ l, l < nl → (1 ≤ hh l ∧ hh l ≤ 9) ∧ ho l = nI (hh l) ∧ ro (3 * l + 1) = nI (hh l)) (hse : ∀ l, l < nl → f_X5_seesOf nl ro l = sn l) (hsc : ∀ j, j < pe → ss (3 * j) = sc j ∧ ∃ q, q < nl ∧ sc j = nI q) :
    ∀ i, f_X4_nights_55_v5 nl ho sn li pe sc seed i = f_X5_nights_56_v4 nl pe ro ss lt seed i ∧ ∃ w : Nat → Nat, (∀ l, l < nl → w l ≤ 9 ∧ f_X5_nights_56_Ml nl pe ro ss lt seed i l = nI (w l)) ∧ f_X4_nights_55_v4 nl ho sn li pe sc seed i = nI (pk w nl)
  | 0 => ⟨rfl, v, fun l q => ⟨(hv l q).1, (asItIs_eq q).trans (hv l q).2⟩, hli⟩
  | i + 1 => by
    obtain ⟨a, w, hw, b⟩ := n_sim hn hv hli hhh hse hsc i
    have hst := stirred_eq (sc := sc) (ss := ss) (pe := pe) (f_X5_nights_68_v6 (f_X5_nights_56_M_15 pe seed i) pe) (fun j q => (hsc j q).1)
    have haf : ∀ st, f_X1_after nl ho sn (nI (pk w nl)) st = nI (pk (av sn hh st w) nl) := fun st => after_eq hn (fun l q => (hw l q).1) (fun l q => ⟨(hhh l q).1.2, (hhh l q).2.1⟩)
    have hav : ∀ st, ∀ l, l < nl → av sn hh st w l ≤ 9 := fun st => av_le (fun l q => (hw l q).1) (fun l q => (hhh l q).1.2)
    have hG : ∀ st, ∀ l, l < nl → f_X5_goesBy_Ml nl ro (f_X5_nights_56_Ml nl pe ro ss lt seed i) st l = nI (av sn hh st w l) := fun st l q => goesBy_eq (ho := ho) q (hw l q) (hse l q) (hhh l q).2.2
    rw [f_X4_nights_55_v5, f_X5_nights_56_v4, f_X4_nights_55_v4, f_X5_nights_56_Ml, a, b, n56, n68, hst, haf]
    refine ⟨?_, av sn hh _ w, fun l q => ⟨hav _ l q, hG _ l q⟩, rfl⟩
    rw [litOnes_eq hn (hav _), dark_eq hn hsc (fun l q => ⟨hav _ l q, hG _ l q⟩)]
theorem n136 {nl pe : Nat} {ro ss lt : Nat → Int32} {many seed : Int32} {w : Nat → Nat} (hw : ∀ l, l < nl → w l ≤ 9 ∧ f_X5_nights_56_Ml nl pe ro ss lt seed many.toNatClampNeg l = nI (w l)) : ∀ i, i ≤ nl → f_X5_nights_136_v5 nl pe ro ss lt many seed i = nI (pc (lm w nl) i)
  | 0, _ => rfl
  | i + 1, hi => by
    rw [f_X5_nights_136_v5, pc, n136 hw i (by omega), (hw i (by omega)).2, lm_bit w (by omega)]
    have := (hw i (by omega)).1
    by_cases c : w i = 0
    · rw [if_pos ((nI_le0 (by omega)).mpr c), if_pos c]
      exact ix_add rfl rfl
    · rw [if_neg (fun q => c ((nI_le0 (by omega)).mp q)), if_neg c]
      exact ix_add rfl rfl
theorem s_nights (qb : Nat) (pl : Nat) (co : Nat → Int32) (nl : Nat) (kd : Nat → Int32) (ho : Nat → Int32) (sn : Nat → Int32) (li : Int32) (pe : Nat) (sc : Nat → Int32) (wv : Nat → Int32) (dk : Nat → Int32) (to : Int32) (tl : Nat → Int32) (td : Nat → Int32) (kli : Int32) (kmi : Int32) (kpe : Int32) (ksc : Nat → Int32) (kwv : Nat → Int32) (kdk : Nat → Int32) (kto : Int32) (ktl : Nat → Int32) (ktd : Nat → Int32) (ik : Int32) (ofr : Int32) (rd : Int32) (mco : Nat → Int32) (ro : Nat → Int32) (ss : Nat → Int32) (bk : Nat) (bo : Nat → Int32) (ko : Int32) (mkpe : Int32) (mkmi : Int32) (kbk : Int32) (kro : Nat → Int32) (kss : Nat → Int32) (kbo : Nat → Int32) (lt : Nat → Int32) (x1 : Int32) (x2 : Int32) (x3 : Int32) (h : RR qb pl co nl kd ho sn li pe sc wv dk to tl td kli kmi kpe ksc kwv kdk kto ktl ktd ik ofr rd mco ro ss bk bo ko mkpe mkmi kbk kro kss kbo) : (f_X4_nights nl ho sn li pe sc x1 x2 x3) = (f_X5_nights nl pe ro ss lt x1 x2 x3) := by
  obtain ⟨v, hh, hn, hpe, hv, hli, hhh, hse, hsc⟩ := ev_cx h.2.1 h.2.2.1
  have e1 : f_X5_in x1.toInt64 1 60 = if x1 < 1 then 0 else if 60 < x1 then 0 else 1 := in_k x1 1 60 (by decide) (by decide)
  have e3 : f_X5_in x3.toInt64 0 2 = if x3 < 0 then 0 else if 2 < x3 then 0 else 1 := in_k x3 0 2 (by decide) (by decide)
  unfold f_X4_nights f_X5_nights
  rw [e1, e3]
  by_cases c1 : x1 < 1
  · simp only [c1, ↓reduceIte]
  · by_cases c2 : 60 < x1
    · simp only [c1, c2, ↓reduceIte]
    · simp only [c1, c2, n10, ↓reduceIte]
      by_cases c3 : x2 < 0
      · simp only [c3, ↓reduceIte]
      · by_cases c4 : x3 < 0
        · simp only [c3, c4, ↓reduceIte]
        · by_cases c5 : 2 < x3
          · have c6 : ¬ x3 ≤ 2 := Int32.not_le.mpr c5
            simp only [c3, c4, c5, c6, ↓reduceIte]
          · have c6 : x3 ≤ 2 := Int32.not_lt.mp c5
            simp only [c3, c4, c5, c6, n10, ↓reduceIte]
            rcases office_eq hn with ⟨n0, e4, e5⟩ | ⟨n0, e4, e5⟩
            · simp only [e4, e5, n10, ↓reduceIte]
            · simp only [e4, e5, n10, ↓reduceIte]
              obtain ⟨a, w, hw, b⟩ := n_sim (lt := lt) (seed := x2) hn hv hli hhh hse hsc x1.toNatClampNeg
              rw [a, b, n56, litOnes_eq hn (fun l q => (hw l q).1), bitc nl (by omega) _ (lm_lt w nl), n136 hw nl (Nat.le_refl nl)]
