/-! pure rows H: the ways of the evening: waved, look -/
theorem z_and (x : Int32) : (0 : Int32) &&& x = 0 := by
  apply Int32.toBitVec_inj.1
  simp
theorem or1_n : ∀ l, l < 6 → ∀ a, a < 64 → ∀ b, b < 64 → ((nI (a ||| 2 ^ l) &&& (nI b ^^^ (-1))) = 0 ↔ (nI a &&& (nI b ^^^ (-1))) = 0 ∧ b / 2 ^ l % 2 = 1) := by decide +kernel
theorem or0_n : ∀ l, l < 6 → ∀ a, a < 64 → ∀ b, b < 64 → ((nI (a ||| 2 ^ l) &&& nI b) = 0 ↔ (nI a &&& nI b) = 0 ∧ b / 2 ^ l % 2 = 0) := by decide +kernel
theorem bm_lt {nl : Nat} {b : Int32} {m : Nat} {bo : Nat → Int32} (hn : nl ≤ 6) : ∀ i, (∀ j, j < i → ∃ l, l < nl ∧ bo (3 * j + 1) = nI l) → bmask b m bo i < 64
  | 0, _ => show (0 : Nat) < 64 by decide
  | i + 1, h => by
    have ih := bm_lt (b := b) (m := m) hn i (fun j q => h j (by omega))
    obtain ⟨l, hl, e⟩ := h i (by omega)
    rw [bmask, e, nI_clamp (by omega)]
    split
    · exact Nat.or_lt_two_pow (n := 6) ih (Nat.pow_lt_pow_right (by decide) (by omega))
    · exact ih
theorem bk_i {nl bk m : Nat} {bo lt : Nat → Int32} {w : Nat → Nat} (hn : nl ≤ 6) (hm : m ≤ 6) (hb : ∀ j, j < bk → ∃ m l, m ≤ 6 ∧ l < nl ∧ bo (3 * j) = nI m ∧ bo (3 * j + 1) = nI l ∧ (bo (3 * j + 2) = 0 ∨ bo (3 * j + 2) = 1)) (hw : ∀ l, l < nl → w l ≤ 9 ∧ lt l = nI (w l)) :
    ∀ i, i ≤ bk → f_X5_isBooked_4_v2 lt bo (nI m) i = if (nI (bmask 1 m bo i) &&& (nI (lm w nl) ^^^ (-1))) = 0 then (if (nI (bmask 0 m bo i) &&& nI (lm w nl)) = 0 then 1 else 0) else 0
  | 0, _ => by
    rw [f_X5_isBooked_4_v2, bmask, bmask, show nI 0 = 0 from rfl, if_pos (z_and _), if_pos (z_and _)]
  | i + 1, hi => by
    have ih := bk_i hn hm hb hw i (by omega)
    obtain ⟨m', l, hm', hl, e1, e2, e3⟩ := hb i (by omega)
    have hlt : ∀ b : Int32, bmask b m bo i < 64 := fun b => bm_lt hn i (fun j q => by
      obtain ⟨_, l, _, hl, _, e, _⟩ := hb j (by omega)
      exact ⟨l, hl, e⟩)
    have hw9 := (hw l hl).1
    have hbit := lm_bit w hl
    have o1 := or1_n l (by omega) (bmask 1 m bo i) (hlt 1) (lm w nl) (lm_small hn)
    have o0 := or0_n l (by omega) (bmask 0 m bo i) (hlt 0) (lm w nl) (lm_small hn)
    rw [f_X5_isBooked_4_v2, bmask, bmask, ih, e1, e2, nI_clamp (show l < 2 ^ 31 by omega), (hw l hl).2]
    simp only [nI_le0 (show w l < 2 ^ 31 by omega)]
    generalize hB : lm w nl = B at *
    generalize bmask 1 m bo i = a1 at *
    generalize bmask 0 m bo i = a0 at *
    have n01 : ¬ (0 : Int32) = 1 := by decide
    by_cases cm : m' = m
    · subst cm
      rcases e3 with e3 | e3
      · rw [e3]
        simp only [n01, and_false, and_true, true_and, ↓reduceIte, o0]
        by_cases P1 : (nI a1 &&& (nI B ^^^ (-1))) = 0
        · by_cases P0 : (nI a0 &&& nI B) = 0
          · by_cases cw : w l = 0
            · rw [if_pos cw] at hbit
              simp only [P1, P0, cw, hbit, n10, ↓reduceIte, and_self]
            · rw [if_neg cw] at hbit
              simp only [P1, P0, cw, hbit, n10, ↓reduceIte, and_false, Nat.one_ne_zero]
          · simp only [P1, P0, ↓reduceIte, false_and, ite_self]
        · simp only [P1, ↓reduceIte, ite_self]
      · rw [e3]
        simp only [n10, and_false, and_true, true_and, ↓reduceIte, o1]
        by_cases P1 : (nI a1 &&& (nI B ^^^ (-1))) = 0
        · by_cases P0 : (nI a0 &&& nI B) = 0
          · by_cases cw : w l = 0
            · rw [if_pos cw] at hbit
              simp only [P1, P0, cw, hbit, n10, n01, ↓reduceIte, and_false, Nat.zero_ne_one]
            · rw [if_neg cw] at hbit
              simp only [P1, P0, cw, hbit, n10, ↓reduceIte, and_self]
          · simp only [P1, P0, ↓reduceIte, ite_self]
        · simp only [P1, ↓reduceIte, false_and, ite_self]
    · have ne : ¬ nI m' = nI m := neq_f rfl rfl (by omega) (by omega) cm
      simp only [ne, false_and, ↓reduceIte, ite_self]
      by_cases P1 : (nI a1 &&& (nI B ^^^ (-1))) = 0
      · by_cases P0 : (nI a0 &&& nI B) = 0
        · simp only [P1, P0, n10, ↓reduceIte]
        · simp only [P1, P0, ↓reduceIte]
      · simp only [P1, ↓reduceIte]
theorem book_eq {nl bk m : Nat} {to : Int32} {tl td bo lt : Nat → Int32} {w : Nat → Nat} (hn : nl ≤ 6) (hm : m ≤ 6) (hb : RBk nl to tl td bk bo) (hw : ∀ l, l < nl → w l ≤ 9 ∧ lt l = nI (w l)) : f_X5_isBooked bk lt bo (nI m) = f_X0_bookAgrees tl td (nI (lm w nl)) (nI m) := by
  obtain ⟨-, -, h3, h4⟩ := hb
  have c1 : ¬ nI m < 0 := nlt_f (b := 0) rfl rfl (by omega) (by decide) (by omega)
  have c2 : nI m ≤ 6 := nle_t (b := 6) rfl rfl (by omega) (by decide) hm
  unfold f_X0_bookAgrees
  rw [if_neg c1, if_pos c2, nI_clamp (by omega), (h4 m hm).1, (h4 m hm).2]
  exact bk_i hn hm h3 hw bk (Nat.le_refl bk)
def cv (sn : Nat → Int32) (hh : Nat → Nat) (st : Int32) (v : Nat → Nat) (way : Nat) : Nat → (Nat → Nat)
  | 0 => v
  | i + 1 => av sn hh (if way / 2 ^ i % 2 = 1 then st else 0) (cv sn hh st v way i)
def okb (tl td : Nat → Int32) (nl : Nat) (sn : Nat → Int32) (hh : Nat → Nat) (st : Int32) (v : Nat → Nat) (way : Nat) : Nat → Int32
  | 0 => f_X0_bookAgrees tl td (nI (lm v nl)) 0
  | i + 1 => if okb tl td nl sn hh st v way i = 0 then 0 else if f_X0_bookAgrees tl td (nI (lm (cv sn hh st v way (i + 1)) nl)) (nI (i + 1)) = 0 then 0 else 1
theorem cv_le {nl : Nat} {sn : Nat → Int32} {hh v : Nat → Nat} {st : Int32} {way : Nat} (hv : ∀ l, l < nl → v l ≤ 9) (hhh : ∀ l, l < nl → hh l ≤ 9) : ∀ i, ∀ l, l < nl → cv sn hh st v way i l ≤ 9
  | 0 => hv
  | i + 1 => av_le (cv_le hv hhh i) hhh
theorem cv_cong {sn : Nat → Int32} {hh v : Nat → Nat} {st : Int32} {way way' : Nat} : ∀ i, (∀ j, j < i → way / 2 ^ j % 2 = way' / 2 ^ j % 2) → cv sn hh st v way i = cv sn hh st v way' i
  | 0, _ => rfl
  | i + 1, h => by rw [cv, cv, h i (by omega), cv_cong i (fun j q => h j (by omega))]
theorem okb_cong {tl td : Nat → Int32} {nl : Nat} {sn : Nat → Int32} {hh v : Nat → Nat} {st : Int32} {way way' : Nat} : ∀ i, (∀ j, j < i → way / 2 ^ j % 2 = way' / 2 ^ j % 2) → okb tl td nl sn hh st v way i = okb tl td nl sn hh st v way' i
  | 0, _ => rfl
  | i + 1, h => by rw [okb, okb, cv_cong (i + 1) h, okb_cong i (fun j q => h j (by omega))]
theorem wbit {way i : Nat} (hw : way < 64) (hi : i < 32) : (((nI way >>> (nI i &&& 31)) &&& 1) = 1) ↔ way / 2 ^ i % 2 = 1 := by
  rw [shr_n (by omega) hi, and1_n (Nat.lt_of_le_of_lt (Nat.div_le_self _ _) (by omega))]
  exact nI_eq (b := 1) (by omega) (by decide)
/-- the reference's simulation of a way -/
theorem cw_sim {nl bk pj way : Nat} {ro ss lt bo ho sn tl td : Nat → Int32} {to st : Int32} {v hh : Nat → Nat} (hn : nl ≤ 6) (hv : ∀ l, l < nl → v l ≤ 9 ∧ ro (3 * l + 2) = nI (v l)) (hhh : ∀ l, l < nl → (1 ≤ hh l ∧ hh l ≤ 9) ∧ ho l = nI (hh l) ∧ ro (3 * l + 1) = nI (hh l)) (hse : ∀ l, l < nl → f_X5_seesOf nl ro l = sn l) (hb : RBk nl to tl td bk bo) (hst : (1 : Int32) <<< (ss (3 * pj) &&& 31) = st) (hw : way < 64) :
    ∀ i, i ≤ 6 → (∀ l, l < nl → f_X5_canWave_14_Ml nl ro ss lt pj (nI way) i l = nI (cv sn hh st v way i l)) ∧ f_X5_canWave_14_v4 nl bk ro ss lt bo pj (nI way) i = okb tl td nl sn hh st v way i
  | 0, _ => ⟨fun l q => (asItIs_eq q).trans (hv l q).2, book_eq (m := 0) hn (by omega) hb (fun l q => ⟨(hv l q).1, (asItIs_eq q).trans (hv l q).2⟩)⟩
  | i + 1, hi => by
    obtain ⟨a, b⟩ := cw_sim (lt := lt) hn hv hhh hse hb hst hw i (by omega)
    have c9 := cv_le (sn := sn) (st := st) (way := way) (fun l q => (hv l q).1) (fun l q => (hhh l q).1.2)
    have hG : ∀ s, ∀ l, l < nl → f_X5_goesBy_Ml nl ro (f_X5_canWave_14_Ml nl ro ss lt pj (nI way) i) s l = nI (av sn hh s (cv sn hh st v way i) l) := fun s l q => goesBy_eq (ho := ho) q ⟨c9 i l q, a l q⟩ (hse l q) (hhh l q).2.2
    rw [f_X5_canWave_14_Ml, f_X5_canWave_14_v4, okb, cv, b, hst, nI_1 i]
    simp only [wbit hw (show i < 32 by omega)]
    by_cases c : way / 2 ^ i % 2 = 1
    · simp only [if_pos c]
      refine ⟨hG st, ?_⟩
      rw [book_eq (w := av sn hh st (cv sn hh st v way i)) hn hi hb (fun l q => ⟨av_le (c9 i) (fun l q => (hhh l q).1.2) l q, hG st l q⟩)]
    · simp only [if_neg c]
      refine ⟨hG 0, ?_⟩
      rw [book_eq (w := av sn hh 0 (cv sn hh st v way i)) hn hi hb (fun l q => ⟨av_le (c9 i) (fun l q => (hhh l q).1.2) l q, hG 0 l q⟩)]
theorem nI_m1 {n : Nat} (h : n < 2 ^ 31) : ¬ nI n = -1 := by
  intro z
  have z2 := congrArg Int32.toInt z
  rw [nI_toInt h] at z2
  have : (-1 : Int32).toInt = -1 := by decide
  omega
/-- the class's entry for a way -/
def eW (tl td : Nat → Int32) (nl : Nat) (sn : Nat → Int32) (hh : Nat → Nat) (st : Int32) (v : Nat → Nat) (way i : Nat) : Int32 := if okb tl td nl sn hh st v way i = 0 then -1 else nI (pk (cv sn hh st v way i) nl)
theorem further_eq {nl : Nat} {ho sn tl td : Nat → Int32} {st s : Int32} {v hh : Nat → Nat} {way way' i : Nat} (hn : nl ≤ 6) (hv : ∀ l, l < nl → v l ≤ 9) (hhh : ∀ l, l < nl → hh l ≤ 9 ∧ ho l = nI (hh l)) (h1 : ∀ j, j < i → way' / 2 ^ j % 2 = way / 2 ^ j % 2) (h2 : (if way' / 2 ^ i % 2 = 1 then st else 0) = s) : f_X3_further nl ho sn tl td (eW tl td nl sn hh st v way i) (nI (i + 1)) s = eW tl td nl sn hh st v way' (i + 1) := by
  have c9 := cv_le (sn := sn) (st := st) (way := way) hv (fun l q => (hhh l q).1)
  have e : cv sn hh st v way' (i + 1) = av sn hh s (cv sn hh st v way i) := by rw [cv, h2, cv_cong i h1]
  unfold f_X3_further eW
  rw [okb, e, okb_cong i h1]
  by_cases c : okb tl td nl sn hh st v way i = 0
  · rw [if_pos c, if_pos rfl, if_pos c, if_pos rfl]
  · rw [if_neg c, if_neg c, if_neg (nI_m1 (Nat.lt_trans (pq_small hn (c9 i)) (by decide))), after_eq hn (c9 i) hhh, litOnes_eq hn (av_le (c9 i) (fun l q => (hhh l q).1))]
    by_cases d : f_X0_bookAgrees tl td (nI (lm (av sn hh s (cv sn hh st v way i)) nl)) (nI (i + 1)) = 0
    · rw [if_pos d, if_pos d, if_pos rfl]
    · rw [if_neg d, if_neg d, if_neg n10]
theorem fo55 (nl : Nat) (ho sn tl td : Nat → Int32) (i : Nat) (sect : Int32) (z : Nat → Int32) : ∀ k, k ≤ 2 ^ i → (∀ y, y < k → f_X3_follow_55_Ye nl ho sn tl td i sect z k (2 ^ i + y) = f_X3_further nl ho sn tl td (z y) (nI (i + 1)) ((1 : Int32) <<< (sect &&& 31)) ∧ f_X3_follow_55_Ye nl ho sn tl td i sect z k y = f_X3_further nl ho sn tl td (z y) (nI (i + 1)) 0) ∧ ∀ y, k ≤ y → y < 2 ^ i → f_X3_follow_55_Ye nl ho sn tl td i sect z k y = z y
  | 0, _ => ⟨fun y q => absurd q (Nat.not_lt_zero y), fun _ _ _ => rfl⟩
  | k + 1, hk => by
    obtain ⟨a, b⟩ := fo55 nl ho sn tl td i sect z k (by omega)
    have hz := b k (Nat.le_refl k) (by omega)
    rw [f_X3_follow_55_Ye]
    generalize f_X3_follow_55_Ye nl ho sn tl td i sect z k = F at *
    rw [pk_un (show k ≠ 2 ^ i + k by omega), hz]
    refine ⟨fun y q => ?_, fun y q1 q2 => ?_⟩
    · rw [pk_un (show 2 ^ i + y ≠ k by omega)]
      by_cases c : y = k
      · subst c
        rw [pk_us, pk_us]
        exact ⟨rfl, rfl⟩
      · rw [pk_un (show 2 ^ i + y ≠ 2 ^ i + k by omega), pk_un c, pk_un (show y ≠ 2 ^ i + k by omega)]
        exact a y (by omega)
    · rw [pk_un (show y ≠ k by omega), pk_un (show y ≠ 2 ^ i + k by omega)]
      exact b y (by omega) q2
theorem hi_bits : ∀ i, i < 6 → ∀ y, y < 2 ^ i → (∀ j, j < i → (2 ^ i + y) / 2 ^ j % 2 = y / 2 ^ j % 2) ∧ (2 ^ i + y) / 2 ^ i % 2 = 1 ∧ y / 2 ^ i % 2 = 0 := by decide +kernel
theorem fo_sim {nl : Nat} {ho sn tl td z : Nat → Int32} {sect st : Int32} {v hh : Nat → Nat} (hn : nl ≤ 6) (hv : ∀ l, l < nl → v l ≤ 9) (hhh : ∀ l, l < nl → hh l ≤ 9 ∧ ho l = nI (hh l)) (hst : (1 : Int32) <<< (sect &&& 31) = st) (hz : z 0 = eW tl td nl sn hh st v 0 0) :
    ∀ i, i ≤ 6 → ∀ y, y < 2 ^ i → f_X3_follow_38_Ye nl ho sn tl td sect z i y = eW tl td nl sn hh st v y i
  | 0, _, y, hy => by
    obtain rfl : y = 0 := by omega
    exact hz
  | i + 1, hi, y, hy => by
    have ih := fo_sim hn hv hhh hst hz i (by omega)
    rw [f_X3_follow_38_Ye]
    obtain ⟨a, -⟩ := fo55 nl ho sn tl td i sect (f_X3_follow_38_Ye nl ho sn tl td sect z i) (2 ^ i) (Nat.le_refl _)
    have hp : 2 ^ (i + 1) = 2 ^ i + 2 ^ i := by rw [Nat.pow_succ]; omega
    by_cases c : y < 2 ^ i
    · obtain ⟨b1, b2, b3⟩ := hi_bits i (by omega) y c
      rw [(a y c).2, ih y c]
      exact further_eq hn hv hhh (fun _ _ => rfl) (if_neg (by omega))
    · obtain ⟨b1, b2, b3⟩ := hi_bits i (by omega) (y - 2 ^ i) (by omega)
      have e : 2 ^ i + (y - 2 ^ i) = y := by omega
      have a' := (a (y - 2 ^ i) (by omega)).1
      rw [e] at a' b2
      rw [a', ih (y - 2 ^ i) (by omega), hst]
      exact further_eq hn hv hhh (fun j q => by rw [← b1 j q, e]) (if_pos b2)
