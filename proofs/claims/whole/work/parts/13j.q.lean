/-! pure rows J: the least waving -/
def gd (nl pe : Nat) (sc sn : Nat → Int32) (hh : Nat → Nat) (c : Nat) : Nat → (Nat → Nat) → Prop
  | 0, _ => True
  | r + 1, w => f_X0_inDark pe sc (nI (lm (av sn hh (f_X0_stirred pe sc (nI (c / (2 ^ pe) ^ r % 2 ^ pe))) w) nl)) = 0 ∧ gd nl pe sc sn hh c r (av sn hh (f_X0_stirred pe sc (nI (c / (2 ^ pe) ^ r % 2 ^ pe))) w)
def cn (pe c : Nat) : Nat → Nat
  | 0 => 0
  | r + 1 => pc (c / (2 ^ pe) ^ r % 2 ^ pe) 4 + cn pe c r
theorem gd_cong {nl pe : Nat} {sc sn : Nat → Int32} {hh : Nat → Nat} {c c' : Nat} : ∀ r w, (∀ j, j < r → c / (2 ^ pe) ^ j % 2 ^ pe = c' / (2 ^ pe) ^ j % 2 ^ pe) → (gd nl pe sc sn hh c r w ↔ gd nl pe sc sn hh c' r w)
  | 0, _, _ => Iff.rfl
  | r + 1, w, h => by rw [gd, gd, h r (by omega), gd_cong r _ (fun j q => h j (by omega))]
theorem cn_cong {pe : Nat} {c c' : Nat} : ∀ r, (∀ j, j < r → c / (2 ^ pe) ^ j % 2 ^ pe = c' / (2 ^ pe) ^ j % 2 ^ pe) → cn pe c r = cn pe c' r
  | 0, _ => rfl
  | r + 1, h => by rw [cn, cn, h r (by omega), cn_cong r (fun j q => h j (by omega))]
theorem dig_mod (B c r j : Nat) (h : j < r) : (c % B ^ r) / B ^ j % B = c / B ^ j % B := by
  have e : B ^ r = B ^ j * B ^ (r - j) := by rw [← Nat.pow_add]; congr 1; omega
  have e2 : B ^ (r - j) = B * B ^ (r - j - 1) := by rw [← Nat.pow_succ']; congr 1; omega
  rw [e, Nat.mod_mul_right_div_self, Nat.mod_mod_of_dvd _ (by rw [e2]; exact Nat.dvd_mul_right _ _)]
theorem pc4 : ∀ m, m < 16 → pc m 4 ≤ 4 ∧ f_X5_ones (nI m) = nI (pc m 4) ∧ f_J6_bitCount_0f7a4 (nI m) = nI (pc m 4) := by decide +kernel
theorem cn_le (pe c : Nat) (hpe : pe ≤ 4) : ∀ r, cn pe c r ≤ 4 * r
  | 0 => Nat.le_refl 0
  | r + 1 => by
    have hp : 2 ^ pe ≤ 2 ^ 4 := Nat.pow_le_pow_right (by decide) hpe
    have hp1 : 0 < 2 ^ pe := Nat.pow_pos (by decide)
    have h1 := (pc4 (c / (2 ^ pe) ^ r % 2 ^ pe) (Nat.lt_of_lt_of_le (Nat.mod_lt _ hp1) hp)).1
    have := cn_le pe c hpe r
    rw [cn]
    omega
/-- the reference's trial of one code -/
theorem ll56 {nl pe mm c : Nat} {ro ss sc sn ho : Nat → Int32} {hh : Nat → Nat} {o oM : Int32} (hn : nl ≤ 6) (hpe : pe ≤ 4) (hm : mm ≤ 3) (hhh : ∀ l, l < nl → (1 ≤ hh l ∧ hh l ≤ 9) ∧ ho l = nI (hh l) ∧ ro (3 * l + 1) = nI (hh l)) (hse : ∀ l, l < nl → f_X5_seesOf nl ro l = sn l) (hsc : ∀ j, j < pe → ss (3 * j) = sc j ∧ ∃ q, q < nl ∧ sc j = nI q) :
    ∀ k i, i ≤ mm → mm < i + k → ∀ (x : Nat) (w : Nat → Nat) (M : Nat → Int32), (∀ l, l < nl → w l ≤ 9 ∧ M l = nI (w l)) →
      (gd nl pe sc sn hh c (mm - i) w → f_X5_layLeast_56_v4 nl pe ro ss c mm o k i (nI x) 1 M = (if o = -1 then nI (x + cn pe c (mm - i)) else if o ≤ nI (x + cn pe c (mm - i)) then o else nI (x + cn pe c (mm - i))) ∧ f_X5_layLeast_56_M_9 nl pe ro ss c mm oM o k i (nI x) 1 M = (if o = -1 then nI c else if o ≤ nI (x + cn pe c (mm - i)) then oM else nI c)) ∧ (¬ gd nl pe sc sn hh c (mm - i) w → f_X5_layLeast_56_v4 nl pe ro ss c mm o k i (nI x) 1 M = o ∧ f_X5_layLeast_56_M_9 nl pe ro ss c mm oM o k i (nI x) 1 M = oM)
  | 0, i, h1, h2, _, _, _, _ => absurd h2 (by omega)
  | k + 1, i, h1, h2, x, w, M, hw => by
    rw [f_X5_layLeast_56_v4, f_X5_layLeast_56_M_9]
    by_cases ci : i = mm
    · have c1 : nI mm ≤ nI i := nle_t rfl rfl (by omega) (by omega) (by omega)
      rw [if_pos c1, if_pos c1, if_neg n10, if_neg n10, show mm - i = 0 by omega]
      exact ⟨fun _ => ⟨rfl, rfl⟩, fun z => absurd trivial z⟩
    · have c1 : ¬ nI mm ≤ nI i := nle_f rfl rfl (by omega) (by omega) (by omega)
      rw [if_neg c1, if_neg c1, if_neg n10, if_neg n10]
      obtain ⟨r, hr⟩ : ∃ r, mm - (i + 1) = r := ⟨_, rfl⟩
      rw [show mm - i = r + 1 by omega, hr, gd, cn]
      have hp : 2 ^ pe ≤ 2 ^ 4 := Nat.pow_le_pow_right (by decide) hpe
      have hp1 : 0 < 2 ^ pe := Nat.pow_pos (by decide)
      have hs16 : c / (2 ^ pe) ^ r % 2 ^ pe < 16 := Nat.lt_of_lt_of_le (Nat.mod_lt _ hp1) hp
      have ho := (pc4 _ hs16).2.1
      generalize c / (2 ^ pe) ^ r % 2 ^ pe = s at *
      rw [← stirred_eq (sc := sc) (ss := ss) (nI s) (fun j q => (hsc j q).1), ho]
      generalize f_X0_stirred pe sc (nI s) = st
      have hG : ∀ l, l < nl → av sn hh st w l ≤ 9 ∧ f_X5_goesBy_Ml nl ro M st l = nI (av sn hh st w l) := fun l q => ⟨av_le (fun l q => (hw l q).1) (fun l q => (hhh l q).1.2) l q, goesBy_eq (ho := M) q (hw l q) (hse l q) (hhh l q).2.2⟩
      rw [← dark_eq hn hsc hG]
      have ih := ll56 (o := o) (oM := oM) (c := c) hn hpe hm hhh hse hsc k (i + 1) (by omega) (by omega) (x + pc s 4) (av sn hh st w) (f_X5_goesBy_Ml nl ro M st) hG
      rw [hr] at ih
      by_cases cd : f_X0_inDark pe sc (nI (lm (av sn hh st w) nl)) = 0
      · rw [if_pos cd, if_pos cd, show nI x + nI (pc s 4) = nI (x + pc s 4) from ix_add rfl rfl, ← Nat.add_assoc]
        exact ⟨fun z => ih.1 z.2, fun z => ih.2 (fun y => z ⟨cd, y⟩)⟩
      · rw [if_neg cd, if_neg cd]
        refine ⟨fun z => absurd z.1 cd, fun _ => ?_⟩
        obtain ⟨k', rfl⟩ : ∃ k', k = k' + 1 := ⟨k - 1, by omega⟩
        rw [f_X5_layLeast_56_v4, f_X5_layLeast_56_M_9]
        simp only [↓reduceIte, ite_self]
        exact ⟨trivial, trivial⟩
/-- the first code with the fewest waves -/
def best (nl pe : Nat) (sc sn : Nat → Int32) (hh v : Nat → Nat) (mm n b : Nat) : Prop := b < n ∧ gd nl pe sc sn hh b mm v ∧ (∀ c, c < n → gd nl pe sc sn hh c mm v → cn pe b mm ≤ cn pe c mm) ∧ ∀ c, c < b → gd nl pe sc sn hh c mm v → cn pe b mm < cn pe c mm
theorem best_uni {nl pe : Nat} {sc sn : Nat → Int32} {hh v : Nat → Nat} {mm n b b' : Nat} (h : best nl pe sc sn hh v mm n b) (h' : best nl pe sc sn hh v mm n b') : b = b' := by
  rcases Nat.lt_trichotomy b b' with q | q | q
  · have := h'.2.2.2 b q h.2.1
    have := h.2.2.1 b' h'.1 h'.2.1
    omega
  · exact q
  · have := h.2.2.2 b' q h'.2.1
    have := h'.2.2.1 b h.1 h.2.1
    omega
theorem ll34 {nl pe mm : Nat} {ro ss sc sn ho lt : Nat → Int32} {bc : Int32} {v hh : Nat → Nat} (hn : nl ≤ 6) (hpe : pe ≤ 4) (hm : mm ≤ 3) (hv : ∀ l, l < nl → v l ≤ 9 ∧ ro (3 * l + 2) = nI (v l)) (hhh : ∀ l, l < nl → (1 ≤ hh l ∧ hh l ≤ 9) ∧ ho l = nI (hh l) ∧ ro (3 * l + 1) = nI (hh l)) (hse : ∀ l, l < nl → f_X5_seesOf nl ro l = sn l) (hsc : ∀ j, j < pe → ss (3 * j) = sc j ∧ ∃ q, q < nl ∧ sc j = nI q) :
    ∀ n, ((∀ c, c < n → ¬ gd nl pe sc sn hh c mm v) ∧ f_X5_layLeast_34_v4 nl pe ro ss lt mm n = -1) ∨ ∃ b, best nl pe sc sn hh v mm n b ∧ f_X5_layLeast_34_v4 nl pe ro ss lt mm n = nI (cn pe b mm) ∧ f_X5_layLeast_34_M_9 nl pe bc ro ss lt mm n = nI b
  | 0 => Or.inl ⟨fun c q => absurd q (Nat.not_lt_zero c), rfl⟩
  | n + 1 => by
    have ih := ll34 (lt := lt) (bc := bc) hn hpe hm hv hhh hse hsc n
    have st := ll56 (o := f_X5_layLeast_34_v4 nl pe ro ss lt mm n) (oM := f_X5_layLeast_34_M_9 nl pe bc ro ss lt mm n) (c := n) hn hpe hm hhh hse hsc (mm + 1) 0 (by omega) (by omega) 0 v (f_X5_asItIs_Ml nl ro (f_X5_layLeast_34_Ml nl pe ro ss lt mm n)) (fun l q => ⟨(hv l q).1, (asItIs_eq q).trans (hv l q).2⟩)
    rw [show nI 0 = 0 from rfl, Nat.zero_add, Nat.sub_zero] at st
    rw [f_X5_layLeast_34_v4, f_X5_layLeast_34_M_9]
    have hc := fun c => cn_le pe c hpe mm
    by_cases g : gd nl pe sc sn hh n mm v
    · obtain ⟨s1, s2⟩ := st.1 g
      rw [s1, s2]
      rcases ih with ⟨i1, i2⟩ | ⟨b, ⟨b1, b2, b3, b4⟩, b5, b6⟩
      · rw [if_pos i2, if_pos i2]
        refine Or.inr ⟨n, ⟨by omega, g, fun c q z => ?_, fun c q z => absurd z (i1 c q)⟩, rfl, rfl⟩
        by_cases e : c = n
        · rw [e]
          exact Nat.le_refl _
        · exact absurd z (i1 c (by omega))
      · have hb := hc b
        have hcn := hc n
        rw [b5, b6, if_neg (nI_m1 (by omega)), if_neg (nI_m1 (by omega))]
        by_cases e : cn pe b mm ≤ cn pe n mm
        · have e' : nI (cn pe b mm) ≤ nI (cn pe n mm) := nle_t rfl rfl (by omega) (by omega) e
          rw [if_pos e', if_pos e']
          refine Or.inr ⟨b, ⟨by omega, b2, fun c q z => ?_, b4⟩, rfl, rfl⟩
          by_cases e2 : c = n
          · rw [e2]
            exact e
          · exact b3 c (by omega) z
        · have e' : ¬ nI (cn pe b mm) ≤ nI (cn pe n mm) := nle_f rfl rfl (by omega) (by omega) (by omega)
          rw [if_neg e', if_neg e']
          refine Or.inr ⟨n, ⟨by omega, g, fun c q z => ?_, fun c q z => ?_⟩, rfl, rfl⟩
          · by_cases e2 : c = n
            · rw [e2]
              exact Nat.le_refl _
            · have := b3 c (by omega) z
              omega
          · have := b3 c q z
            omega
    · obtain ⟨s1, s2⟩ := st.2 g
      rw [s1, s2]
      rcases ih with ⟨i1, i2⟩ | ⟨b, ⟨b1, b2, b3, b4⟩, b5, b6⟩
      · refine Or.inl ⟨fun c q => ?_, i2⟩
        by_cases e : c = n
        · rw [e]
          exact g
        · exact i1 c (by omega)
      · refine Or.inr ⟨b, ⟨by omega, b2, fun c q z => ?_, b4⟩, b5, b6⟩
        by_cases e : c = n
        · exact absurd (e ▸ z) g
        · exact b3 c (by omega) z
