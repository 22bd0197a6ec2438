/-! pure rows N: the round -/
theorem lm_all {w : Nat → Nat} : ∀ n, (∀ l, l < n → ¬ w l = 0) → lm w n = 2 ^ n - 1
  | 0, _ => rfl
  | n + 1, h => by
    have hp : 0 < 2 ^ n := Nat.pow_pos (by decide)
    rw [lm, if_neg (h n (by omega)), lm_all n (fun l q => h l (by omega)), Nat.pow_succ]
    omega
theorem onesB : ∀ n, n < 7 → ∀ l, l < n → (2 ^ n - 1) / 2 ^ l % 2 = 1 := by decide +kernel
theorem allOnes_n : ∀ n, n < 7 → f_X1_allOnes n = nI (2 ^ n - 1) ∧ 2 ^ n ≤ 64 := by decide +kernel
theorem lit_iff {w : Nat → Nat} {n : Nat} (hn : n ≤ 6) : (nI (lm w n) = f_X1_allOnes n) ↔ ∀ l, l < n → ¬ w l = 0 := by
  obtain ⟨h1, h2⟩ := allOnes_n n (by omega)
  have h3 := lm_small (v := w) hn
  rw [h1, nI_eqk (by omega) (by omega)]
  constructor
  · intro e l hl
    have b := lm_bit w hl
    rw [e, onesB n (by omega) l hl] at b
    intro z
    rw [if_pos z] at b
    exact absurd b (by decide)
  · exact lm_all n
theorem alit_i {M : Nat → Int32} {w : Nat → Nat} {n : Nat} (hw : ∀ l, l < n → w l ≤ 9 ∧ M l = nI (w l)) : ∀ i, i ≤ n → ((∀ l, l < i → ¬ w l = 0) → f_X5_areAllLit_4_v1 M i = 1) ∧ ((¬ ∀ l, l < i → ¬ w l = 0) → f_X5_areAllLit_4_v1 M i = 0)
  | 0, _ => ⟨fun _ => rfl, fun h => absurd (fun l q => absurd q (Nat.not_lt_zero l)) h⟩
  | i + 1, hi => by
    obtain ⟨a, b⟩ := alit_i hw i (by omega)
    have h9 := (hw i (by omega)).1
    rw [f_X5_areAllLit_4_v1, (hw i (by omega)).2]
    constructor
    · intro h
      rw [a (fun l q => h l (by omega)), if_neg n10, if_neg (fun q => h i (by omega) ((nI_le0 (by omega)).mp q))]
    · intro h
      by_cases c : ∀ l, l < i → ¬ w l = 0
      · rw [a c, if_neg n10]
        by_cases d : w i = 0
        · rw [if_pos ((nI_le0 (by omega)).mpr d)]
        · exact absurd (fun l q => by
            by_cases e : l = i
            · rw [e]
              exact d
            · exact c l (by omega)) h
      · rw [b c, if_pos rfl]
/-- a walk: c's digits are its steps, x its section, w what burns -/
def gr (nl : Nat) (sn : Nat → Int32) (hh : Nat → Nat) (c : Nat) : Nat → Int32 → (Nat → Nat) → Prop
  | 0, x, w => f_X4_isLamp nl x = 1 ∧ ∀ l, l < nl → ¬ av sn hh ((1 : Int32) <<< (x &&& 31)) w l = 0
  | r + 1, x, w => f_X4_isLamp nl x = 1 ∧ gr nl sn hh c r (x + nI (c / 3 ^ r % 3) - 1) (av sn hh ((1 : Int32) <<< (x &&& 31)) w)
def lx (c : Nat) : Nat → Int32 → Int32
  | 0, x => x
  | r + 1, x => lx c r (x + nI (c / 3 ^ r % 3) - 1)
theorem gr_cong {nl : Nat} {sn : Nat → Int32} {hh : Nat → Nat} {c c' : Nat} : ∀ r x w, (∀ j, j < r → c / 3 ^ j % 3 = c' / 3 ^ j % 3) → (gr nl sn hh c r x w ↔ gr nl sn hh c' r x w)
  | 0, _, _, _ => Iff.rfl
  | r + 1, x, w, h => by rw [gr, gr, h r (by omega), gr_cong r _ _ (fun j q => h j (by omega))]
theorem lx_cong {c c' : Nat} : ∀ r x, (∀ j, j < r → c / 3 ^ j % 3 = c' / 3 ^ j % 3) → lx c r x = lx c' r x
  | 0, _, _ => rfl
  | r + 1, x, h => by rw [lx, lx, h r (by omega), lx_cong r _ (fun j q => h j (by omega))]
/-- what the class's walk from minute mu on has found -/
def laS (nl : Nat) (sn : Nat → Int32) (hh : Nat → Nat) (r mu : Nat) (x : Int32) (w : Nat → Nat) (R : Int32) (S : Nat → Int32) : Prop :=
  (R = 0 ∧ ∀ c, c < 3 ^ r → ¬ gr nl sn hh c r x w) ∨ (R = 1 ∧ ∃ c, c < 3 ^ r ∧ gr nl sn hh c r x w ∧ (∀ c', c' < c → ¬ gr nl sn hh c' r x w) ∧ (∀ t, t < r → S (mu + t) = nI (c / 3 ^ (r - 1 - t) % 3)) ∧ S (mu + r) = if lx c r x = 0 then 1 else 0)
theorem la81 {nl mu r : Nat} {ho sn : Nat → Int32} {hh w : Nat → Nat} {x : Int32} {rN : Nat → Int32 → Int32 → (Nat → Int32) → (Nat → Int32)} {rr : Nat → Int32 → Int32 → (Nat → Int32) → Int32} (hn : nl ≤ 6) (hhh : ∀ l, l < nl → hh l ≤ 9 ∧ ho l = nI (hh l)) (hw : ∀ l, l < nl → w l ≤ 9) (hx : f_X4_isLamp nl x = 1)
    (ih : ∀ (y : Int32) (w' : Nat → Nat), (∀ l, l < nl → w' l ≤ 9) → ∀ S, laS nl sn hh r (mu + 1) y w' (rr (mu + 1) y (nI (pk w' nl)) S) (rN (mu + 1) y (nI (pk w' nl)) S)) :
    ∀ k i, i ≤ 3 → 3 < i + k → (∀ c, c < 3 ^ (r + 1) → c / 3 ^ r < i → ¬ gr nl sn hh c (r + 1) x w) → ∀ S, laS nl sn hh (r + 1) mu x w (f_X4_lightsAll_81_r nl ho sn (nI (pk w nl)) mu rN rr x k i S) (f_X4_lightsAll_81_S nl ho sn (nI (pk w nl)) mu rN rr x k i S)
  | 0, i, h1, h2, _, _ => absurd h2 (by omega)
  | k + 1, i, h1, h2, hd, S => by
    have hBr : 0 < 3 ^ r := Nat.pow_pos (by decide)
    have hB1 : 3 ^ (r + 1) = 3 ^ r * 3 := Nat.pow_succ _ _
    rw [f_X4_lightsAll_81_r, f_X4_lightsAll_81_S]
    by_cases ci : i = 3
    · have c1 : (2 : Int32) < nI i := nlt_t (a := 2) rfl rfl (by decide) (by omega) (by omega)
      rw [if_pos c1, if_pos c1]
      exact Or.inl ⟨rfl, fun c q => hd c q (by rw [ci]; exact (Nat.div_lt_iff_lt_mul hBr).mpr (by rw [Nat.mul_comm, ← hB1]; exact q))⟩
    · have c1 : ¬ (2 : Int32) < nI i := nlt_f (a := 2) rfl rfl (by decide) (by omega) (by omega)
      have hib : i < 3 := by omega
      rw [if_neg c1, if_neg c1, after_eq hn hw hhh]
      have hav := av_le (sn := sn) (st := (1 : Int32) <<< (x &&& 31)) hw (fun l q => (hhh l q).1)
      have sp := ih (x + nI i - 1) (av sn hh ((1 : Int32) <<< (x &&& 31)) w) hav S
      rcases sp with ⟨s0, s1⟩ | ⟨s0, c, s1, s2, s3, s4, s5⟩
      · rw [if_pos s0, if_pos s0]
        refine la81 hn hhh hw hx ih k (i + 1) (by omega) (by omega) (fun c q1 q2 g => ?_) _
        by_cases e : c / 3 ^ r = i
        · rw [gr, e, Nat.mod_eq_of_lt hib] at g
          exact s1 (c % 3 ^ r) (Nat.mod_lt _ hBr) ((gr_cong r _ _ (fun j q => dig_mod _ _ _ _ q)).mpr g.2)
        · exact hd c q1 (by omega) g
      · have n1 : ¬ rr (mu + 1) (x + nI i - 1) (nI (pk (av sn hh ((1 : Int32) <<< (x &&& 31)) w) nl)) S = 0 := by rw [s0]; exact n10
        rw [if_neg n1, if_neg n1]
        have d1 : (i * 3 ^ r + c) / 3 ^ r = i := by
          rw [Nat.mul_comm, Nat.mul_add_div hBr, Nat.div_eq_of_lt s1, Nat.add_zero]
        have d2 : (i * 3 ^ r + c) % 3 ^ r = c := by
          rw [Nat.mul_comm, Nat.mul_add_mod, Nat.mod_eq_of_lt s1]
        have d3 : ∀ j, j < r → (i * 3 ^ r + c) / 3 ^ j % 3 = c / 3 ^ j % 3 := fun j q => by
          rw [← dig_mod _ (i * 3 ^ r + c) r j q, d2]
        have hlt : i * 3 ^ r + c < 3 ^ (r + 1) := by
          rw [hB1]
          have : (i + 1) * 3 ^ r ≤ 3 * 3 ^ r := Nat.mul_le_mul_right _ hib
          rw [Nat.add_mul, Nat.one_mul] at this
          omega
        refine Or.inr ⟨rfl, i * 3 ^ r + c, hlt, ?_, fun c' q g => ?_, fun t ht => ?_, ?_⟩
        · rw [gr, d1, Nat.mod_eq_of_lt hib]
          exact ⟨hx, (gr_cong r _ _ d3).mpr s2⟩
        · have hc' : c' / 3 ^ r ≤ i := by
            have : c' / 3 ^ r ≤ (i * 3 ^ r + c) / 3 ^ r := Nat.div_le_div_right (by omega)
            rw [d1] at this
            exact this
          by_cases e : c' / 3 ^ r = i
          · rw [gr, e, Nat.mod_eq_of_lt hib] at g
            have hm := Nat.div_add_mod c' (3 ^ r)
            rw [e, Nat.mul_comm] at hm
            exact s3 (c' % 3 ^ r) (by omega) ((gr_cong r _ _ (fun j q => dig_mod _ _ _ _ q)).mpr g.2)
          · exact hd c' (by omega) (by omega) g
        · rcases Nat.eq_zero_or_pos t with rfl | ht0
          · rw [show mu + 0 = mu from rfl, pk_us, show r + 1 - 1 - 0 = r from rfl, d1, Nat.mod_eq_of_lt hib]
          · rw [pk_un (by omega), show mu + t = mu + 1 + (t - 1) by omega, s4 (t - 1) (by omega), show r - 1 - (t - 1) = r - t by omega, show r + 1 - 1 - t = r - t by omega, d3 (r - t) (by omega)]
        · rw [pk_un (by omega), show mu + (r + 1) = mu + 1 + r by omega, s5, lx, d1, Nat.mod_eq_of_lt hib, lx_cong r _ d3]
theorem la_spec {nl mm : Nat} {ho sn : Nat → Int32} {hh : Nat → Nat} (hn : nl ≤ 6) (hm : mm ≤ 7) (hhh : ∀ l, l < nl → hh l ≤ 9 ∧ ho l = nI (hh l)) :
    ∀ d mu, mu < mm → mm ≤ mu + d → ∀ (x : Int32) (w : Nat → Nat), (∀ l, l < nl → w l ≤ 9) → ∀ S, laS nl sn hh (mm - 1 - mu) mu x w (g_la nl ho sn mm d mu x (nI (pk w nl)) S).1 (g_la nl ho sn mm d mu x (nI (pk w nl)) S).2
  | 0, mu, h1, h2, x, w, hw, S => absurd h2 (by omega)
  | d + 1, mu, h1, h2, x, w, hw, S => by
    have c1 : ¬ nI mm ≤ nI mu := nle_f rfl rfl (by omega) (by omega) (by omega)
    rw [g_la]
    unfold f_X4_lightsAll f_X4_lightsAll_S
    rw [if_neg c1, if_neg c1]
    have nog : ¬ f_X4_isLamp nl x = 1 → ∀ r, ∀ c, c < 3 ^ r → ¬ gr nl sn hh c r x w := fun z r c _ g => by
      cases r with
      | zero => exact z g.1
      | succ r => exact z g.1
    by_cases cx : x < 0
    · simp only [if_pos cx]
      exact Or.inl ⟨rfl, nog (by unfold f_X4_isLamp; rw [if_pos cx]; decide) _⟩
    · simp only [if_neg cx]
      obtain ⟨l, hl, rfl⟩ := i0 x cx
      by_cases cl : l < nl
      · have c2 : nI l < nI nl := nlt_t rfl rfl hl (by omega) cl
        have hx := (isL1 hn cl).1
        simp only [if_pos c2]
        by_cases ce : mu = mm - 1
        · have c3 : nI mu = nI mm - 1 := by rw [ce, show nI mm - 1 = nI (mm - 1) from ix_sub (by omega) rfl rfl]
          simp only [if_pos c3]
          have hav := av_le (sn := sn) (st := (1 : Int32) <<< (nI l &&& 31)) hw (fun l q => (hhh l q).1)
          rw [after_eq hn hw hhh, litOnes_eq hn hav, show mm - 1 - mu = 0 by omega]
          by_cases ca : ∀ y, y < nl → ¬ av sn hh ((1 : Int32) <<< (nI l &&& 31)) w y = 0
          · rw [if_pos ((lit_iff hn).mpr ca)]
            refine Or.inr ⟨rfl, 0, by decide, ⟨hx, ca⟩, fun c q => absurd q (Nat.not_lt_zero c), fun t q => absurd q (Nat.not_lt_zero t), ?_⟩
            rw [lx]
            by_cases l0 : l = 0
            · rw [if_pos ((nI_le0 hl).mpr l0), if_pos ((nI_eq0 hl).mpr l0)]
              exact pk_us
            · rw [if_neg (fun q => l0 ((nI_le0 hl).mp q)), if_neg (fun q => l0 ((nI_eq0 hl).mp q))]
              exact pk_us
          · rw [if_neg (fun q => ca ((lit_iff hn).mp q))]
            exact Or.inl ⟨rfl, fun c _ g => ca g.2⟩
        · have c3 : ¬ nI mu = nI mm - 1 := by
            rw [show nI mm - 1 = nI (mm - 1) from ix_sub (by omega) rfl rfl]
            exact neq_f rfl rfl (by omega) (by omega) ce
          simp only [if_neg c3]
          rw [show mm - 1 - mu = (mm - 1 - (mu + 1)) + 1 by omega]
          exact la81 hn hhh hw hx (fun y w' hw' S' => la_spec hn hm hhh d (mu + 1) (by omega) (by omega) y w' hw' S') 4 0 (by omega) (by omega) (fun c _ q => absurd q (Nat.not_lt_zero _)) S
      · have c2 : ¬ nI l < nI nl := nlt_f rfl rfl hl (by omega) (by omega)
        simp only [if_neg c2]
        exact Or.inl ⟨rfl, nog (by
          unfold f_X4_isLamp
          rw [if_neg cx, if_pos (nle_t rfl rfl (by omega) hl (by omega))]
          decide) _⟩
-- the reference
def dg : Nat → Nat → (Nat → Int32) → (Nat → Int32)
  | _, 0, G => G
  | c, i + 1, G => dg (c / 3) i (upd G i (nI (c % 3)))
theorem dg_i : ∀ i c G t, (t < i → dg c i G t = nI (c / 3 ^ (i - 1 - t) % 3)) ∧ (i ≤ t → dg c i G t = G t)
  | 0, _, _, t => ⟨fun q => absurd q (Nat.not_lt_zero t), fun _ => rfl⟩
  | i + 1, c, G, t => by
    rw [dg]
    obtain ⟨a, b⟩ := dg_i i (c / 3) (upd G i (nI (c % 3))) t
    refine ⟨fun q => ?_, fun q => ?_⟩
    · by_cases e : t = i
      · subst e
        rw [b (Nat.le_refl t), pk_us, show t + 1 - 1 - t = 0 by omega, Nat.pow_zero, Nat.div_one]
      · rw [a (by omega), Nat.div_div_eq_div_mul, show i + 1 - 1 - t = (i - 1 - t) + 1 by omega, Nat.pow_succ, Nat.mul_comm 3]
    · rw [b (by omega), pk_un (by omega)]
theorem ir8 {nl mm : Nat} {ro lt : Nat → Int32} {x : Int32} : ∀ i c G, c < 2 ^ 31 → i < 2 ^ 31 → f_X5_isRound_8_r nl ro lt mm x (i + 1) i (nI c) G = f_X5_isRound_46_r nl ro mm (mm + 1) 0 x (f_X5_asItIs_Ml nl ro lt) (dg c i G) ∧ f_X5_isRound_8_Mg nl ro lt mm x (i + 1) i (nI c) G = f_X5_isRound_46_Mg nl ro mm (mm + 1) 0 x (f_X5_asItIs_Ml nl ro lt) (dg c i G)
  | 0, c, G, _, _ => by
    rw [f_X5_isRound_8_r, f_X5_isRound_8_Mg, if_pos (show dI 0 < 0 by decide), if_pos (show dI 0 < 0 by decide), dg]
    exact ⟨rfl, rfl⟩
  | i + 1, c, G, hc, hi => by
    have z : ¬ dI (i + 1) < 0 := nlt_f (A := dI (i + 1)) (a := i) (b := 0) rfl rfl (by omega) (by decide) (by omega)
    rw [f_X5_isRound_8_r, f_X5_isRound_8_Mg, if_neg z, if_neg z, Nat.add_sub_cancel, dg, show (3 : Int32) = nI 3 from rfl, pk_rem hc (by decide) (by decide), pk_div hc (by decide) (by decide)]
    exact ir8 i (c / 3) _ (Nat.lt_of_le_of_lt (Nat.div_le_self _ _) hc) (by omega)
theorem addsub (a b c : Int32) : a + (b - c) = a + b - c := by rw [Int32.sub_eq_add_neg, Int32.sub_eq_add_neg, Int32.add_assoc]
theorem ir46 {nl mm c : Nat} {ro ho sn : Nat → Int32} {hh : Nat → Nat} (hn : nl ≤ 6) (hm : mm ≤ 7) (hhh : ∀ l, l < nl → (1 ≤ hh l ∧ hh l ≤ 9) ∧ ho l = nI (hh l) ∧ ro (3 * l + 1) = nI (hh l)) (hse : ∀ l, l < nl → f_X5_seesOf nl ro l = sn l) :
    ∀ k i, i < mm → mm < i + k → ∀ (x : Int32) (w : Nat → Nat) (M G : Nat → Int32), (∀ l, l < nl → w l ≤ 9 ∧ M l = nI (w l)) → (∀ t, i ≤ t → t < mm - 1 → G t = nI (c / 3 ^ (mm - 2 - t) % 3)) →
      (gr nl sn hh c (mm - 1 - i) x w → f_X5_isRound_46_r nl ro mm k i x M G = 1 ∧ (∀ t, t ≠ mm - 1 → f_X5_isRound_46_Mg nl ro mm k i x M G t = G t) ∧ f_X5_isRound_46_Mg nl ro mm k i x M G (mm - 1) = if lx c (mm - 1 - i) x = 0 then 1 else 0) ∧ (¬ gr nl sn hh c (mm - 1 - i) x w → f_X5_isRound_46_r nl ro mm k i x M G = 0)
  | 0, i, h1, h2, _, _, _, _, _, _ => absurd h2 (by omega)
  | k + 1, i, h1, h2, x, w, M, G, hw, hg => by
    have c1 : ¬ nI mm ≤ nI i := nle_f rfl rfl (by omega) (by omega) (by omega)
    rw [f_X5_isRound_46_r, f_X5_isRound_46_Mg, if_neg c1, if_neg c1]
    rcases isL hn x with ⟨e4, e5⟩ | ⟨l, hl, rfl, e4, e5⟩
    · rw [if_pos e5, if_pos e5]
      have no : ¬ gr nl sn hh c (mm - 1 - i) x w := by
        cases mm - 1 - i with
        | zero => exact fun g => absurd (e4.symm.trans g.1) (by decide)
        | succ r => exact fun g => absurd (e4.symm.trans g.1) (by decide)
      exact ⟨fun g => absurd g no, fun _ => rfl⟩
    · have e5' : ¬ f_X5_isLamp nl (nI l) = 0 := by rw [e5]; exact n10
      rw [if_neg e5', if_neg e5']
      have hG : ∀ y, y < nl → av sn hh ((1 : Int32) <<< (nI l &&& 31)) w y ≤ 9 ∧ f_X5_goesBy_Ml nl ro M ((1 : Int32) <<< (nI l &&& 31)) y = nI (av sn hh ((1 : Int32) <<< (nI l &&& 31)) w y) := fun y q => ⟨av_le (fun l q => (hw l q).1) (fun l q => (hhh l q).1.2) y q, goesBy_eq (ho := ho) q (hw y q) (hse y q) (hhh y q).2.2⟩
      have key : ∀ z : Int32, z = (if nI l = 0 then 1 else 0) →
          (gr nl sn hh c (mm - 1 - i) (nI l) w → (if nI mm - 1 ≤ nI i then f_X5_isRound_46_r nl ro mm k (i + 1) (nI l + 0) (f_X5_goesBy_Ml nl ro M ((1 : Int32) <<< (nI l &&& 31))) (upd G (mm - 1) z) else f_X5_isRound_46_r nl ro mm k (i + 1) (nI l + ((upd G (mm - 1) z) i - 1)) (f_X5_goesBy_Ml nl ro M ((1 : Int32) <<< (nI l &&& 31))) (upd G (mm - 1) z)) = 1 ∧ (∀ t, t ≠ mm - 1 → (if nI mm - 1 ≤ nI i then f_X5_isRound_46_Mg nl ro mm k (i + 1) (nI l + 0) (f_X5_goesBy_Ml nl ro M ((1 : Int32) <<< (nI l &&& 31))) (upd G (mm - 1) z) else f_X5_isRound_46_Mg nl ro mm k (i + 1) (nI l + ((upd G (mm - 1) z) i - 1)) (f_X5_goesBy_Ml nl ro M ((1 : Int32) <<< (nI l &&& 31))) (upd G (mm - 1) z)) t = G t) ∧ (if nI mm - 1 ≤ nI i then f_X5_isRound_46_Mg nl ro mm k (i + 1) (nI l + 0) (f_X5_goesBy_Ml nl ro M ((1 : Int32) <<< (nI l &&& 31))) (upd G (mm - 1) z) else f_X5_isRound_46_Mg nl ro mm k (i + 1) (nI l + ((upd G (mm - 1) z) i - 1)) (f_X5_goesBy_Ml nl ro M ((1 : Int32) <<< (nI l &&& 31))) (upd G (mm - 1) z)) (mm - 1) = if lx c (mm - 1 - i) (nI l) = 0 then 1 else 0) ∧ (¬ gr nl sn hh c (mm - 1 - i) (nI l) w → (if nI mm - 1 ≤ nI i then f_X5_isRound_46_r nl ro mm k (i + 1) (nI l + 0) (f_X5_goesBy_Ml nl ro M ((1 : Int32) <<< (nI l &&& 31))) (upd G (mm - 1) z) else f_X5_isRound_46_r nl ro mm k (i + 1) (nI l + ((upd G (mm - 1) z) i - 1)) (f_X5_goesBy_Ml nl ro M ((1 : Int32) <<< (nI l &&& 31))) (upd G (mm - 1) z)) = 0) := by
        intro z hz
        rw [show nI mm - 1 = nI (mm - 1) from ix_sub (by omega) rfl rfl]
        by_cases ce : i = mm - 1
        · have c3 : nI (mm - 1) ≤ nI i := nle_t rfl rfl (by omega) (by omega) (by omega)
          simp only [if_pos c3]
          obtain ⟨k', rfl⟩ : ∃ k', k = k' + 1 := ⟨k - 1, by omega⟩
          have c4 : nI mm ≤ nI (i + 1) := nle_t rfl rfl (by omega) (by omega) (by omega)
          rw [f_X5_isRound_46_r, f_X5_isRound_46_Mg, if_pos c4, if_pos c4, show mm - 1 - i = 0 by omega, gr, lx]
          obtain ⟨a, b⟩ := alit_i hG nl (Nat.le_refl nl)
          exact ⟨fun g => ⟨a g.2, fun t q => pk_un q, by rw [pk_us]; exact hz⟩, fun g => b (fun y => g ⟨e4, y⟩)⟩
        · have c3 : ¬ nI (mm - 1) ≤ nI i := nle_f rfl rfl (by omega) (by omega) (by omega)
          simp only [if_neg c3]
          rw [pk_un ce, hg i (Nat.le_refl i) (by omega), addsub]
          obtain ⟨r, hr⟩ : ∃ r, mm - 1 - (i + 1) = r := ⟨_, rfl⟩
          have ih := ir46 (c := c) hn hm hhh hse k (i + 1) (by omega) (by omega) (nI l + nI (c / 3 ^ (mm - 2 - i) % 3) - 1) (av sn hh ((1 : Int32) <<< (nI l &&& 31)) w) (f_X5_goesBy_Ml nl ro M ((1 : Int32) <<< (nI l &&& 31))) (upd G (mm - 1) z) hG (fun t q1 q2 => by rw [pk_un (by omega)]; exact hg t (by omega) q2)
          rw [hr, show mm - 2 - i = r by omega] at ih
          rw [show mm - 1 - i = r + 1 by omega, show mm - 2 - i = r by omega, gr, lx]
          refine ⟨fun g => ?_, fun g => ih.2 (fun y => g ⟨e4, y⟩)⟩
          obtain ⟨i1, i2, i3⟩ := ih.1 g.2
          exact ⟨i1, fun t q => (i2 t q).trans (pk_un q), i3⟩
      by_cases x0 : nI l = 0
      · simp only [if_pos x0]
        exact key 1 (if_pos x0).symm
      · simp only [if_neg x0]
        exact key 0 (if_neg x0).symm
theorem p3 : ∀ m, m < 8 → 3 ^ m ≤ 2187 := by decide
theorem lr13 {nl m : Nat} {ro ho sn bg : Nat → Int32} {v hh : Nat → Nat} {x : Int32} (hn : nl ≤ 6) (hm : m ≤ 6) (hv : ∀ l, l < nl → v l ≤ 9 ∧ ro (3 * l + 2) = nI (v l)) (hhh : ∀ l, l < nl → (1 ≤ hh l ∧ hh l ≤ 9) ∧ ho l = nI (hh l) ∧ ro (3 * l + 1) = nI (hh l)) (hse : ∀ l, l < nl → f_X5_seesOf nl ro l = sn l) (qr : (Nat → Int32) → (Nat → Int32) → Int32) (qb : (Nat → Int32) → (Nat → Int32) → (Nat → Int32)) :
    ∀ k j, j ≤ 3 ^ m → 3 ^ m < j + k → ∀ L G,
      ((∀ c, c < 3 ^ m → ¬ gr nl sn hh c m x v) → ∃ L' G', f_X5_layRound_13_r nl ro m x qr k j L G = qr L' G' ∧ f_X5_layRound_13_Mb nl ro bg m x qb k j L G = qb L' G') ∧ (∀ c, j ≤ c → c < 3 ^ m → gr nl sn hh c m x v → (∀ c', c' < c → ¬ gr nl sn hh c' m x v) → f_X5_layRound_13_r nl ro m x qr k j L G = nI (m + 1) ∧ (∀ t, t < m → f_X5_layRound_13_Mb nl ro bg m x qb k j L G t = nI (c / 3 ^ (m - 1 - t) % 3)) ∧ f_X5_layRound_13_Mb nl ro bg m x qb k j L G m = if lx c m x = 0 then 1 else 0)
  | 0, j, h1, h2, _, _ => absurd h2 (by omega)
  | k + 1, j, h1, h2, L, G => by
    have hp := p3 m (by omega)
    rw [f_X5_layRound_13_r, f_X5_layRound_13_Mb]
    by_cases cj : j = 3 ^ m
    · have c1 : nI (3 ^ m) ≤ nI j := nle_t rfl rfl (by omega) (by omega) (by omega)
      rw [if_pos c1, if_pos c1]
      exact ⟨fun _ => ⟨L, G, rfl, rfl⟩, fun c q1 q2 => absurd q2 (by omega)⟩
    · have c1 : ¬ nI (3 ^ m) ≤ nI j := nle_f rfl rfl (by omega) (by omega) (by omega)
      rw [if_neg c1, if_neg c1]
      have d8 := ir8 (nl := nl) (mm := m + 1) (ro := ro) (lt := L) (x := x) m j G (by omega) (by omega)
      have t46 := ir46 (c := j) (mm := m + 1) hn (by omega) hhh hse (m + 1 + 1) 0 (by omega) (by omega) x v (f_X5_asItIs_Ml nl ro L) (dg j m G) (fun l q => ⟨(hv l q).1, (asItIs_eq q).trans (hv l q).2⟩) (fun t _ q => by rw [(dg_i m j G t).1 (by omega), show m + 1 - 2 - t = m - 1 - t by omega])
      rw [show m + 1 - 1 - 0 = m from rfl] at t46
      have er : f_X5_isRound nl ro L G (nI j) (m + 1) x = f_X5_isRound_46_r nl ro (m + 1) (m + 1 + 1) 0 x (f_X5_asItIs_Ml nl ro L) (dg j m G) := d8.1
      have eg : f_X5_isRound_Mg nl ro L G (nI j) (m + 1) x = f_X5_isRound_46_Mg nl ro (m + 1) (m + 1 + 1) 0 x (f_X5_asItIs_Ml nl ro L) (dg j m G) := d8.2
      by_cases g : gr nl sn hh j m x v
      · obtain ⟨g1, g2, g3⟩ := t46.1 g
        have n1 : ¬ f_X5_isRound nl ro L G (nI j) (m + 1) x = 0 := by rw [er, g1]; exact n10
        rw [if_neg n1, if_neg n1]
        refine ⟨fun z => absurd g (z j (by omega)), fun c q1 q2 q3 q4 => ?_⟩
        obtain rfl : c = j := by
          rcases Nat.lt_or_ge j c with z | z
          · exact absurd g (q4 j z)
          · omega
        refine ⟨rfl, fun t ht => ?_, ?_⟩
        · rw [show f_X5_copy_G (f_X5_isRound_Mg nl ro L G (nI c) (m + 1) x) bg 7 t = _ from cp_i _ _ 7 t (by omega), eg, g2 t (by omega), (dg_i m c G t).1 ht]
        · rw [show f_X5_copy_G (f_X5_isRound_Mg nl ro L G (nI c) (m + 1) x) bg 7 m = _ from cp_i _ _ 7 m (by omega), eg]
          exact g3
      · have z0 : f_X5_isRound nl ro L G (nI j) (m + 1) x = 0 := by rw [er]; exact t46.2 g
        rw [if_pos z0, if_pos z0]
        obtain ⟨a, b⟩ := lr13 (x := x) (bg := bg) hn hm hv hhh hse qr qb k (j + 1) (by omega) (by omega) (f_X5_isRound_Ml nl ro L G (nI j) (m + 1) x) (f_X5_isRound_Mg nl ro L G (nI j) (m + 1) x)
        refine ⟨a, fun c q1 q2 q3 q4 => b c ?_ q2 q3 q4⟩
        rcases Nat.lt_or_ge j c with z | z
        · omega
        · obtain rfl : c = j := by omega
          exact absurd q3 g
theorem rd_r {nl : Nat} {ro ho sn bg : Nat → Int32} {v hh : Nat → Nat} {x : Int32} (hn : nl ≤ 6) (hv : ∀ l, l < nl → v l ≤ 9 ∧ ro (3 * l + 2) = nI (v l)) (hhh : ∀ l, l < nl → (1 ≤ hh l ∧ hh l ≤ 9) ∧ ho l = nI (hh l) ∧ ro (3 * l + 1) = nI (hh l)) (hse : ∀ l, l < nl → f_X5_seesOf nl ro l = sn l) :
    ∀ k m, m + k = 8 → 1 ≤ k → ∀ S L G, f_X4_planRound_2_r nl ho sn (nI (pk v nl)) x k m S = f_X5_layRound_4_r nl ro x k m L G ∧ (f_X4_planRound_2_r nl ho sn (nI (pk v nl)) x k m S = -1 ∨ ∃ n, 1 ≤ n ∧ n ≤ 7 ∧ f_X4_planRound_2_r nl ho sn (nI (pk v nl)) x k m S = nI n ∧ ∀ t, t < n → f_X4_planRound_2_S nl ho sn (nI (pk v nl)) x k m S t = f_X5_layRound_4_Mb nl ro bg x k m L G t)
  | 0, m, _, h2, _, _, _ => absurd h2 (by omega)
  | k + 1, m, h1, h2, S, L, G => by
    rw [f_X4_planRound_2_r, f_X4_planRound_2_S, f_X5_layRound_4_r, f_X5_layRound_4_Mb]
    by_cases c : m = 7
    · have c1 : (7 : Int32) < nI (m + 1) := nlt_t (a := 7) rfl rfl (by decide) (by omega) (by omega)
      have c2 : (8 : Int32) ≤ nI (m + 1) := nle_t (a := 8) rfl rfl (by decide) (by omega) (by omega)
      rw [if_pos c1, if_pos c2]
      exact ⟨rfl, Or.inl rfl⟩
    · have c1 : ¬ (7 : Int32) < nI (m + 1) := nlt_f (a := 7) rfl rfl (by decide) (by omega) (by omega)
      have c2 : ¬ (8 : Int32) ≤ nI (m + 1) := nle_f (a := 8) rfl rfl (by decide) (by omega) (by omega)
      rw [if_neg c1, if_neg c1, if_neg c2, if_neg c2]
      have sp := la_spec (sn := sn) (ho := ho) (hh := hh) (mm := m + 1) hn (by omega) (fun l q => ⟨(hhh l q).1.2, (hhh l q).2.1⟩) 7 0 (by omega) (by omega) x v (fun l q => (hv l q).1) S
      rw [show m + 1 - 1 - 0 = m from rfl] at sp
      obtain ⟨f1, f2⟩ := lr13 (m := m) (x := x) (bg := bg) hn (by omega) hv hhh hse (fun (y13_Ml : Nat → Int32) (y13_Mg : Nat → Int32) => (f_X5_layRound_4_r nl ro x k (m + 1) y13_Ml y13_Mg)) (fun (y13_Ml : Nat → Int32) (y13_Mg : Nat → Int32) => (f_X5_layRound_4_Mb nl ro bg x k (m + 1) y13_Ml y13_Mg)) (3 ^ m + 1) 0 (Nat.zero_le _) (by omega) L G
      rcases sp with ⟨s0, s1⟩ | ⟨s0, c, s1, s2, s3, s4, s5⟩
      · rw [if_pos s0, if_pos s0]
        obtain ⟨L', G', q1, q2⟩ := f1 s1
        rw [q1, q2]
        exact rd_r hn hv hhh hse k (m + 1) (by omega) (by omega) _ L' G'
      · have n1 : ¬ (g_la nl ho sn (m + 1) 7 0 x (nI (pk v nl)) S).1 = 0 := by rw [s0]; exact n10
        rw [if_neg n1, if_neg n1]
        obtain ⟨q1, q2, q3⟩ := f2 c (Nat.zero_le c) s1 s2 s3
        rw [q1]
        refine ⟨rfl, Or.inr ⟨m + 1, by omega, by omega, rfl, fun t ht => ?_⟩⟩
        by_cases e : t = m
        · subst e
          rw [q3]
          rw [Nat.zero_add] at s5
          exact s5
        · have := s4 t (by omega)
          rw [Nat.zero_add] at this
          rw [q2 t (by omega), this]
theorem m1_le {t : Nat} (h : t < 100) : (-1 : Int32) ≤ nI t := by
  rw [Int32.le_iff_toInt_le, nI_toInt (by omega)]
  have : (-1 : Int32).toInt = -1 := by decide
  omega
theorem s_round (qb : Nat) (pl : Nat) (co : Nat → Int32) (nl : Nat) (kd : Nat → Int32) (ho : Nat → Int32) (sn : Nat → Int32) (li : Int32) (pe : Nat) (sc : Nat → Int32) (wv : Nat → Int32) (dk : Nat → Int32) (to : Int32) (tl : Nat → Int32) (td : Nat → Int32) (kli : Int32) (kmi : Int32) (kpe : Int32) (ksc : Nat → Int32) (kwv : Nat → Int32) (kdk : Nat → Int32) (kto : Int32) (ktl : Nat → Int32) (ktd : Nat → Int32) (ik : Int32) (ofr : Int32) (rd : Int32) (mco : Nat → Int32) (ro : Nat → Int32) (ss : Nat → Int32) (bk : Nat) (bo : Nat → Int32) (ko : Int32) (mkpe : Int32) (mkmi : Int32) (kbk : Int32) (kro : Nat → Int32) (kss : Nat → Int32) (kbo : Nat → Int32) (sp : Nat → Int32) (lt : Nat → Int32) (go : Nat → Int32) (bg : Nat → Int32) (x1 : Int32) (x2 : Int32) (h : RR qb pl co nl kd ho sn li pe sc wv dk to tl td kli kmi kpe ksc kwv kdk kto ktl ktd ik ofr rd mco ro ss bk bo ko mkpe mkmi kbk kro kss kbo) : (f_X4_round rd nl ho sn li sp x1 x2) = (f_X5_round rd nl ro lt go bg x1 x2) ∧ (f_X5_round_M_10 rd nl x1 x2) = (f_X4_round_O_9 rd nl x1 x2) ∧ RR (qb + 4) pl co nl kd ho sn li pe sc wv dk to tl td kli kmi kpe ksc kwv kdk kto ktl ktd ik ofr (f_X4_round_O_9 rd nl x1 x2) mco ro ss bk bo ko mkpe mkmi kbk kro kss kbo := by
  obtain ⟨v, hh, hn, hpe, hv, hli, hhh, hse, hsc⟩ := ev_cx h.2.1 h.2.2.1
  have h0 := h
  obtain ⟨h1, h2, h3, h4, r, hr, rfl⟩ := h
  have e2 : f_X5_in x2.toInt64 10 16 = if x2 < 10 then 0 else if 16 < x2 then 0 else 1 := in_k x2 10 16 (by decide) (by decide)
  unfold f_X4_round f_X5_round f_X5_round_M_10 f_X4_round_O_9 f_X4_asksMinute
  rw [e2, show (10 + 7 : Int32) = 17 from rfl]
  rcases isL hn x1 with ⟨e4, e5⟩ | ⟨l, hl, rfl, e4, e5⟩
  · simp only [e4, e5, ↓reduceIte]
    exact ⟨trivial, trivial, h0.mono⟩
  · simp only [e4, e5, n10, ↓reduceIte]
    obtain ⟨q1, q2⟩ := rd_r (x := nI l) (ho := ho) (bg := bg) hn hv hhh hse 8 0 rfl (by decide) sp lt go
    have p1 : f_X4_planRound nl ho sn li sp (nI l) = f_X5_layRound nl ro lt go (nI l) := by rw [hli]; exact q1
    have p2 : f_X4_planRound nl ho sn li sp (nI l) = -1 ∨ ∃ n, 1 ≤ n ∧ n ≤ 7 ∧ f_X4_planRound nl ho sn li sp (nI l) = nI n ∧ ∀ t, t < n → f_X4_planRound_S nl ho sn li sp (nI l) t = f_X5_layRound_Mb nl ro lt go bg (nI l) t := by rw [hli]; exact q2
    have c20 : (nI r < 20) ↔ ¬ r = 20 := (nI_ltI (b := 20) (by omega) (by decide)).trans (by omega)
    have d20 : (nI r = 20) ↔ r = 20 := nI_eq (b := 20) (by omega) (by decide)
    simp only [c20, d20]
    by_cases w0 : x2 = 0
    · simp only [if_pos w0]
      by_cases c : r = 20
      · simp only [c, not_true_eq_false, ↓reduceIte]
        subst c
        exact ⟨trivial, trivial, h0.mono⟩
      · simp only [c, not_false_eq_true, ↓reduceIte]
        exact ⟨p1, trivial, h1, h2, h3, h4.mono, r + 1, by omega, nI_1 r⟩
    · simp only [if_neg w0]
      by_cases c5 : x2 < 10
      · simp only [c5, ↓reduceIte]
        exact ⟨trivial, trivial, h0.mono⟩
      · obtain ⟨u, hu, rfl⟩ := i0 x2 (fun q => c5 (Int32.lt_trans q (by decide)))
        have hu10 : 10 ≤ u := nlt_e (b := 10) rfl rfl hu (by decide) c5
        by_cases c6 : (16 : Int32) < nI u
        · have c7 : (17 : Int32) ≤ nI u := nle_t (a := 17) rfl rfl (by decide) hu (nlt_d (a := 16) (B := nI u) rfl rfl (by decide) hu c6)
          simp only [c5, c6, c7, ↓reduceIte]
          exact ⟨trivial, trivial, h0.mono⟩
        · have hu16 : u ≤ 16 := nlt_e (a := 16) (B := nI u) rfl rfl (by decide) hu c6
          have c7 : ¬ (17 : Int32) ≤ nI u := nle_f (a := 17) rfl rfl (by decide) hu (by omega)
          simp only [c5, c6, c7, n10, ↓reduceIte]
          by_cases c : r = 20
          · simp only [c, not_true_eq_false, ↓reduceIte]
            subst c
            exact ⟨trivial, trivial, h0.mono⟩
          · simp only [c, not_false_eq_true, ↓reduceIte]
            refine ⟨?_, trivial, h1, h2, h3, h4.mono, r + 1, by omega, nI_1 r⟩
            unfold f_X4_ofMinute
            rw [show nI u - 10 = nI (u - 10) from ix_sub hu10 rfl rfl, if_neg (show ¬ nI (u - 10) < 0 from nlt_f (b := 0) rfl rfl (by omega) (by decide) (by omega)), ← p1, nI_clamp (by omega)]
            rcases p2 with z | ⟨n, n1, n7, z, zt⟩
            · rw [z, if_pos (m1_le (by omega)), if_pos rfl]
            · rw [z, if_neg (nI_m1 (by omega))]
              by_cases c8 : n ≤ u - 10
              · have c9 : nI n ≤ nI (u - 10) := nle_t rfl rfl (by omega) (by omega) c8
                rw [if_pos c9, if_pos c9]
              · have c9 : ¬ nI n ≤ nI (u - 10) := nle_f rfl rfl (by omega) (by omega) (by omega)
                rw [if_neg c9, if_neg c9, if_neg (nle_f rfl rfl (by omega) (by omega) (by omega)), zt (u - 10) (by omega)]
