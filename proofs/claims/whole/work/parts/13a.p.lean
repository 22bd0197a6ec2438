/-! pure rows: numbers, packed lamps -/
theorem s_l : ∀ n, n < 32 → ((nI n &&& 31).toBitVec.smod 32).toNat = n := by decide +kernel
theorem fa_and (a b : Nat) : nI a &&& nI b = nI (a &&& b) := by
  apply Int32.toBitVec_inj.1
  show BitVec.ofNat 32 a &&& BitVec.ofNat 32 b = BitVec.ofNat 32 (a &&& b)
  apply BitVec.eq_of_getLsbD_eq
  intro i hi
  simp [hi]
theorem fa_or (a b : Nat) : nI a ||| nI b = nI (a ||| b) := by
  apply Int32.toBitVec_inj.1
  show BitVec.ofNat 32 a ||| BitVec.ofNat 32 b = BitVec.ofNat 32 (a ||| b)
  apply BitVec.eq_of_getLsbD_eq
  intro i hi
  simp [hi]
theorem or_sum {a k : Nat} (b : Nat) (h : a < 2 ^ k) : nI a ||| nI (b * 2 ^ k) = nI (a + b * 2 ^ k) := by
  rw [fa_or, Nat.or_comm, Nat.mul_comm b, ← Nat.two_pow_add_eq_or_of_lt h, Nat.add_comm]
theorem shl_n {n k : Nat} (hk : k < 32) (h : n * 2 ^ k < 2 ^ 32) : nI n <<< (nI k &&& 31) = nI (n * 2 ^ k) := pk_shlN _ k (s_l k hk) h
theorem shr_n {n k : Nat} (hn : n < 2 ^ 31) (hk : k < 32) : nI n >>> (nI k &&& 31) = nI (n / 2 ^ k) := pk_shrN hn _ k (s_l k hk)
theorem and1_n {n : Nat} (h : n < 2 ^ 32) : nI n &&& 1 = nI (n % 2) := pk_andN h 1 rfl
theorem and15_n {n : Nat} (h : n < 2 ^ 32) : nI n &&& 15 = nI (n % 16) := pk_andN h 4 rfl
theorem zero_shl (y : Int32) : (0 : Int32) <<< y = 0 := by
  apply Int32.toBitVec_inj.1
  simp
theorem or_z (x : Int32) : x ||| 0 = x := by
  apply Int32.toBitVec_inj.1
  simp
theorem and1_01 (x : Int32) : x &&& 1 = 0 ∨ x &&& 1 = 1 := by
  obtain ⟨j, hj, e⟩ := pk_andE x (m := 1) 1 rfl
  rcases (show j = 0 ∨ j = 1 by omega) with rfl | rfl
  · exact Or.inl e
  · exact Or.inr e
theorem nI_le0 {n : Nat} (h : n < 2 ^ 31) : (nI n ≤ 0) ↔ n = 0 := by
  constructor
  · intro q
    have := nle_d (A := nI n) (B := 0) (b := 0) rfl rfl h (by decide) q
    omega
  · rintro rfl
    exact nle_t (a := 0) (b := 0) rfl rfl (by decide) (by decide) (by decide)
theorem nI_eq0 {n : Nat} (h : n < 2 ^ 31) : (nI n = 0) ↔ n = 0 := nI_eq (b := 0) h (by decide)
theorem nI_eqk {n k : Nat} (h : n < 2 ^ 31) (hk : k < 2 ^ 31) : (nI n = nI k) ↔ n = k := nI_eq h hk
-- packed lamps
theorem pq_lt {v : Nat → Nat} : ∀ {n : Nat}, (∀ l, l < n → v l ≤ 9) → pk v n < 16 ^ n
  | 0, _ => by simp [pk]
  | n + 1, h => by
    have ih := pq_lt (n := n) (fun l hl => h l (by omega))
    have hv := h n (by omega)
    have e : (16 : Nat) ^ (n + 1) = 16 * 16 ^ n := by rw [Nat.pow_succ, Nat.mul_comm]
    have m : v n * 16 ^ n ≤ 9 * 16 ^ n := Nat.mul_le_mul_right _ hv
    rw [pk, e]
    omega
theorem pq_dig {v : Nat → Nat} : ∀ {n l : Nat}, (∀ l, l < n → v l ≤ 9) → l < n → pk v n / 16 ^ l % 16 = v l
  | 0, l, _, hl => absurd hl (Nat.not_lt_zero l)
  | n + 1, l, h, hl => by
    have hlt := pq_lt (n := n) (fun l hl => h l (by omega))
    have hp : 0 < 16 ^ l := Nat.pow_pos (by decide)
    rcases Nat.lt_or_ge l n with q | q
    · have ih := pq_dig (n := n) (l := l) (fun l hl => h l (by omega)) q
      have e : v n * 16 ^ n = (v n * 16 ^ (n - l - 1) * 16) * 16 ^ l := by
        rw [Nat.mul_assoc, Nat.mul_assoc, ← Nat.pow_succ', ← Nat.pow_add]
        congr 2
        omega
      rw [pk, e, Nat.add_mul_div_right _ _ hp, Nat.add_mul_mod_self_right]
      exact ih
    · have e : l = n := by omega
      subst e
      have hv := h l (by omega)
      rw [pk, Nat.add_mul_div_right _ _ hp, Nat.div_eq_of_lt hlt, Nat.zero_add]
      exact Nat.mod_eq_of_lt (by omega)
theorem pq_cong {v w : Nat → Nat} : ∀ {n : Nat}, (∀ l, l < n → v l = w l) → pk v n = pk w n
  | 0, _ => rfl
  | n + 1, h => by rw [pk, pk, pq_cong (fun l hl => h l (by omega)), h n (by omega)]
theorem pq_small {v : Nat → Nat} {n : Nat} (hn : n ≤ 6) (h : ∀ l, l < n → v l ≤ 9) : pk v n < 16777216 :=
  Nat.lt_of_lt_of_le (pq_lt h) (Nat.le_trans (Nat.pow_le_pow_right (by decide) hn) (by decide))
theorem pow16 (l : Nat) : 2 ^ (4 * l) = 16 ^ l := by rw [Nat.pow_mul]
theorem left_pk {v : Nat → Nat} {n l : Nat} (hn : n ≤ 6) (h : ∀ l, l < n → v l ≤ 9) (hl : l < n) : f_X1_left (nI l) (nI (pk v n)) = nI (v l) := by
  have hp := pq_small hn h
  unfold f_X1_left
  rw [show (4 * nI l : Int32) = nI (4 * l) from ix_mul rfl rfl, shr_n (by omega) (by omega), pow16, and15_n (Nat.lt_of_le_of_lt (Nat.div_le_self _ _) (by omega)), pq_dig h hl]
def lm (v : Nat → Nat) : Nat → Nat
  | 0 => 0
  | l + 1 => if v l = 0 then lm v l else lm v l + 1 * 2 ^ l
theorem lm_lt (v : Nat → Nat) : ∀ n, lm v n < 2 ^ n
  | 0 => by simp [lm]
  | n + 1 => by
    have ih := lm_lt v n
    have e : (2 : Nat) ^ (n + 1) = 2 * 2 ^ n := by rw [Nat.pow_succ, Nat.mul_comm]
    rw [lm, e]
    split <;> omega
theorem lm_bit (v : Nat → Nat) : ∀ {n l : Nat}, l < n → lm v n / 2 ^ l % 2 = if v l = 0 then 0 else 1
  | 0, l, hl => absurd hl (Nat.not_lt_zero l)
  | n + 1, l, hl => by
    have hlt := lm_lt v n
    have hp : 0 < 2 ^ l := Nat.pow_pos (by decide)
    rcases Nat.lt_or_ge l n with q | q
    · have ih := lm_bit v (n := n) (l := l) q
      rw [lm]
      split
      · exact ih
      · have e : 1 * 2 ^ n = (2 ^ (n - l - 1) * 2) * 2 ^ l := by
          rw [Nat.one_mul, Nat.mul_assoc, ← Nat.pow_succ', ← Nat.pow_add]
          congr 1
          omega
        rw [e, Nat.add_mul_div_right _ _ hp, Nat.add_mul_mod_self_right]
        exact ih
    · have e : l = n := by omega
      subst e
      rw [lm]
      split
      · rw [Nat.div_eq_of_lt hlt]
      · rw [Nat.add_mul_div_right _ _ hp, Nat.div_eq_of_lt hlt]
theorem lm_cong {v w : Nat → Nat} : ∀ {n : Nat}, (∀ l, l < n → (v l = 0 ↔ w l = 0)) → lm v n = lm w n
  | 0, _ => rfl
  | n + 1, h => by
    rw [lm, lm, lm_cong (fun l hl => h l (by omega))]
    by_cases q : v n = 0
    · rw [if_pos q, if_pos ((h n (by omega)).mp q)]
    · rw [if_neg q, if_neg (fun z => q ((h n (by omega)).mpr z))]
theorem lm_small {v : Nat → Nat} {n : Nat} (hn : n ≤ 6) : lm v n < 64 := Nat.lt_of_lt_of_le (lm_lt v n) (Nat.le_trans (Nat.pow_le_pow_right (by decide) hn) (by decide))
theorem litOnes_i {v : Nat → Nat} {n : Nat} (hn : n ≤ 6) (h : ∀ l, l < n → v l ≤ 9) : ∀ i, i ≤ n → f_X1_litOnes_4_v2 (nI (pk v n)) i = nI (lm v i)
  | 0, _ => rfl
  | i + 1, hi => by
    have ih := litOnes_i hn h i (by omega)
    have hv := h i (by omega)
    rw [f_X1_litOnes_4_v2, left_pk hn h (by omega), ih, lm]
    by_cases q : v i = 0
    · rw [if_pos ((nI_le0 (by omega)).mpr q), if_pos q, or_z]
    · rw [if_neg (fun z => q ((nI_le0 (by omega)).mp z)), if_neg q]
      have e := shl_n (n := 1) (k := i) (by omega) (by rw [Nat.one_mul]; exact Nat.pow_lt_pow_right (by decide) (by omega))
      rw [show (1 : Int32) <<< (nI i &&& 31) = nI (1 * 2 ^ i) from e]
      exact or_sum 1 (lm_lt v i)
theorem litOnes_eq {v : Nat → Nat} {n : Nat} (hn : n ≤ 6) (h : ∀ l, l < n → v l ≤ 9) : f_X1_litOnes n (nI (pk v n)) = nI (lm v n) := litOnes_i hn h n (Nat.le_refl n)
/-- a minute goes by -/
def av (sn : Nat → Int32) (hh : Nat → Nat) (st : Int32) (v : Nat → Nat) (l : Nat) : Nat := if (sn l &&& st) = 0 then v l - 1 else hh l
theorem av_le {sn : Nat → Int32} {hh v : Nat → Nat} {st : Int32} {n : Nat} (hv : ∀ l, l < n → v l ≤ 9) (hhh : ∀ l, l < n → hh l ≤ 9) : ∀ l, l < n → av sn hh st v l ≤ 9 := by
  intro l hl
  have h1 := hv l hl
  have h2 := hhh l hl
  unfold av
  split <;> omega
theorem dec_n {n : Nat} (h : n ≤ 9) : (if 0 < nI n - 1 then nI n - 1 else 0) = nI (n - 1) := by
  rcases (show n = 0 ∨ n = 1 ∨ n = 2 ∨ n = 3 ∨ n = 4 ∨ n = 5 ∨ n = 6 ∨ n = 7 ∨ n = 8 ∨ n = 9 by omega) with rfl | rfl | rfl | rfl | rfl | rfl | rfl | rfl | rfl | rfl <;> decide
theorem after_i {v hh : Nat → Nat} {ho sn : Nat → Int32} {st : Int32} {n : Nat} (hn : n ≤ 6) (h : ∀ l, l < n → v l ≤ 9) (hh9 : ∀ l, l < n → hh l ≤ 9 ∧ ho l = nI (hh l)) : ∀ i, i ≤ n → f_X1_after_5_v3 ho sn (nI (pk v n)) st i = nI (pk (av sn hh st v) i)
  | 0, _ => rfl
  | i + 1, hi => by
    have ih := after_i (st := st) (sn := sn) hn h hh9 i (by omega)
    have hv := h i (by omega)
    have hl := hh9 i (by omega)
    have hlt : pk (av sn hh st v) i < 2 ^ (4 * i) := by rw [pow16]; exact pq_lt (av_le (fun l hl => h l (by omega)) (fun l hl => (hh9 l (by omega)).1))
    have hb : ∀ x, x ≤ 9 → nI x <<< ((4 * nI i) &&& 31) = nI (x * 2 ^ (4 * i)) := by
      intro x hx
      rw [show (4 * nI i : Int32) = nI (4 * i) from ix_mul rfl rfl]
      refine shl_n (by omega) ?_
      have : 2 ^ (4 * i) ≤ 2 ^ 20 := Nat.pow_le_pow_right (by decide) (by omega)
      have : x * 2 ^ (4 * i) ≤ 9 * 2 ^ 20 := Nat.mul_le_mul hx this
      omega
    rw [f_X1_after_5_v3, left_pk hn h (by omega), ih, pk]
    by_cases q : (sn i &&& st) = 0
    · rw [if_pos q, dec_n hv, hb _ (by omega), or_sum _ hlt, pow16]
      unfold av
      rw [if_pos q]
    · rw [if_neg q, hl.2, hb _ hl.1, or_sum _ hlt, pow16]
      unfold av
      rw [if_neg q]
theorem after_eq {v hh : Nat → Nat} {ho sn : Nat → Int32} {st : Int32} {n : Nat} (hn : n ≤ 6) (h : ∀ l, l < n → v l ≤ 9) (hh9 : ∀ l, l < n → hh l ≤ 9 ∧ ho l = nI (hh l)) : f_X1_after n ho sn (nI (pk v n)) st = nI (pk (av sn hh st v) n) := after_i hn h hh9 n (Nat.le_refl n)
-- the reference's rows
theorem seesOf_cong (nl l : Nat) {ro ro2 : Nat → Int32} (h : ro (3 * l) = ro2 (3 * l)) : f_X5_seesOf nl ro l = f_X5_seesOf nl ro2 l := by
  unfold f_X5_seesOf
  rw [h]
theorem asItIs_i (ro lt : Nat → Int32) : ∀ i l, f_X5_asItIs_2_Ml ro lt i l = if l < i then ro (3 * l + 2) else lt l
  | 0, l => by rw [f_X5_asItIs_2_Ml, if_neg (by omega)]
  | i + 1, l => by
    rw [f_X5_asItIs_2_Ml]
    by_cases q : l = i
    · subst q; rw [pk_us, if_pos (by omega)]
    · rw [pk_un q, asItIs_i ro lt i l]
      by_cases r : l < i
      · rw [if_pos r, if_pos (by omega)]
      · rw [if_neg r, if_neg (by omega)]
theorem asItIs_eq {ro lt : Nat → Int32} {nl l : Nat} (h : l < nl) : f_X5_asItIs_Ml nl ro lt l = ro (3 * l + 2) := by
  rw [f_X5_asItIs_Ml, asItIs_i, if_pos h]
/-- what goesBy makes of one lamp -/
theorem goesBy_i (nl : Nat) (ro lt : Nat → Int32) (st : Int32) : ∀ i l, f_X5_goesBy_2_Ml nl ro lt st i l = if l < i then (if (f_X5_seesOf nl ro l &&& st) = 0 then (if lt l ≤ 0 then 0 else lt l - 1) else ro (3 * l + 1)) else lt l
  | 0, l => by rw [f_X5_goesBy_2_Ml, if_neg (by omega)]
  | i + 1, l => by
    have ih := goesBy_i nl ro lt st i
    have ii : f_X5_goesBy_2_Ml nl ro lt st i i = lt i := by rw [ih i, if_neg (by omega)]
    rw [f_X5_goesBy_2_Ml, ii]
    by_cases q : l = i
    · subst q
      rw [if_pos (Nat.lt_succ_self l)]
      split
      · split <;> rw [pk_us]
      · rw [pk_us]
    · have e : (if l < i + 1 then (if (f_X5_seesOf nl ro l &&& st) = 0 then (if lt l ≤ 0 then 0 else lt l - 1) else ro (3 * l + 1)) else lt l) = f_X5_goesBy_2_Ml nl ro lt st i l := by
        rw [ih l]
        by_cases r : l < i
        · rw [if_pos r, if_pos (by omega)]
        · rw [if_neg r, if_neg (by omega)]
      rw [e]
      split
      · split <;> rw [pk_un q]
      · rw [pk_un q]
theorem dec_m {n : Nat} (h : n ≤ 9) : (if nI n ≤ 0 then 0 else nI n - 1) = nI (n - 1) := by
  rcases (show n = 0 ∨ n = 1 ∨ n = 2 ∨ n = 3 ∨ n = 4 ∨ n = 5 ∨ n = 6 ∨ n = 7 ∨ n = 8 ∨ n = 9 by omega) with rfl | rfl | rfl | rfl | rfl | rfl | rfl | rfl | rfl | rfl <;> decide
theorem goesBy_eq {nl l : Nat} {ro lt sn ho : Nat → Int32} {hh v : Nat → Nat} {st : Int32} (hl : l < nl) (hv : v l ≤ 9 ∧ lt l = nI (v l)) (hs : f_X5_seesOf nl ro l = sn l) (hr : ro (3 * l + 1) = nI (hh l)) : f_X5_goesBy_Ml nl ro lt st l = nI (av sn hh st v l) := by
  rw [f_X5_goesBy_Ml, goesBy_i, if_pos hl, hs, hv.2, hr, dec_m hv.1]
  unfold av
  split <;> rfl
theorem stirred_i {sc ss : Nat → Int32} {pe : Nat} (who : Int32) (h : ∀ j, j < pe → ss (3 * j) = sc j) : ∀ i, i ≤ pe → f_X0_stirred_4_v2 sc who i = f_X5_sectionsOf_4_v2 ss who i
  | 0, _ => rfl
  | i + 1, hi => by
    rw [f_X0_stirred_4_v2, f_X5_sectionsOf_4_v2, stirred_i who h i (by omega), h i (by omega)]
    rcases and1_01 (who >>> (nI i &&& 31)) with q | q
    · rw [q, zero_shl, if_neg (by decide)]
    · rw [q, if_pos rfl]
theorem stirred_eq {sc ss : Nat → Int32} {pe : Nat} (who : Int32) (h : ∀ j, j < pe → ss (3 * j) = sc j) : f_X0_stirred pe sc who = f_X5_sectionsOf pe ss who := stirred_i who h pe (Nat.le_refl pe)
theorem bit_lm {v : Nat → Nat} {n q : Nat} (hn : n ≤ 6) (hq : q < n) : (nI (lm v n) >>> (nI q &&& 31)) &&& 1 = if v q = 0 then 0 else 1 := by
  have hs := lm_small (v := v) hn
  rw [shr_n (by omega) (by omega), and1_n (Nat.lt_of_le_of_lt (Nat.div_le_self _ _) (by omega)), lm_bit v hq]
  split <;> rfl
theorem dark_i {sc ss lt : Nat → Int32} {v : Nat → Nat} {n pe : Nat} (hn : n ≤ 6) (h : ∀ j, j < pe → ss (3 * j) = sc j ∧ ∃ q, q < n ∧ sc j = nI q) (hv : ∀ l, l < n → v l ≤ 9 ∧ lt l = nI (v l)) : ∀ i, i ≤ pe → f_X0_inDark_4_v2 sc (nI (lm v n)) i = f_X5_darkNow_4_v1 ss lt i
  | 0, _ => rfl
  | i + 1, hi => by
    obtain ⟨e, q, hq, eq⟩ := h i (by omega)
    have hvq := hv q hq
    rw [f_X0_inDark_4_v2, f_X5_darkNow_4_v1, dark_i hn h hv i (by omega), e, eq, nI_clamp (by omega), bit_lm hn hq, hvq.2]
    by_cases z : v q = 0
    · rw [if_pos z, if_pos ((nI_eq0 (by omega)).mpr z)]; rfl
    · rw [if_neg z, if_neg (fun y => z ((nI_eq0 (by omega)).mp y))]; rfl
theorem dark_eq {sc ss lt : Nat → Int32} {v : Nat → Nat} {n pe : Nat} (hn : n ≤ 6) (h : ∀ j, j < pe → ss (3 * j) = sc j ∧ ∃ q, q < n ∧ sc j = nI q) (hv : ∀ l, l < n → v l ≤ 9 ∧ lt l = nI (v l)) : f_X0_inDark pe sc (nI (lm v n)) = f_X5_darkNow pe ss lt := dark_i hn h hv pe (Nat.le_refl pe)
