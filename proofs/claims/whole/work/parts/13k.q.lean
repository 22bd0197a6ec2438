/-! pure rows K: the class's search for the least waving -/
/-- what the class's search from minute mu on has found -/
def klS (nl pe : Nat) (sc sn : Nat → Int32) (hh : Nat → Nat) (r W mu : Nat) (w : Nat → Nat) (R : Int32) (N : Nat → Int32) : Prop :=
  (R = 0 ∧ ∀ c, c < (2 ^ pe) ^ r → gd nl pe sc sn hh c r w → W < cn pe c r) ∨ (R = 1 ∧ ∃ c, c < (2 ^ pe) ^ r ∧ gd nl pe sc sn hh c r w ∧ cn pe c r ≤ W ∧ (∀ c', c' < c → gd nl pe sc sn hh c' r w → W < cn pe c' r) ∧ ∀ t, t < r → N (mu + t) = nI (c / (2 ^ pe) ^ (r - 1 - t) % 2 ^ pe))
theorem kl26 {nl pe mu r W : Nat} {ho sc sn : Nat → Int32} {hh w : Nat → Nat} {rN : Nat → Int32 → Int32 → (Nat → Int32) → (Nat → Int32)} {rr : Nat → Int32 → Int32 → (Nat → Int32) → Int32} (hn : nl ≤ 6) (hpe : pe ≤ 4) (hW : W ≤ 100) (hhh : ∀ l, l < nl → hh l ≤ 9 ∧ ho l = nI (hh l)) (hw : ∀ l, l < nl → w l ≤ 9)
    (ih : ∀ (w' : Nat → Nat), (∀ l, l < nl → w' l ≤ 9) → ∀ W', W' ≤ 100 → ∀ N, klS nl pe sc sn hh r W' (mu + 1) w' (rr (mu + 1) (nI (pk w' nl)) (nI W') N) (rN (mu + 1) (nI (pk w' nl)) (nI W') N)) :
    ∀ k i, i ≤ 2 ^ pe → 2 ^ pe < i + k → (∀ c, c < (2 ^ pe) ^ (r + 1) → c / (2 ^ pe) ^ r < i → gd nl pe sc sn hh c (r + 1) w → W < cn pe c (r + 1)) → ∀ N, klS nl pe sc sn hh (r + 1) W mu w (f_X4_keepsLit_26_r nl ho sn pe sc (nI (pk w nl)) mu rN rr (nI W) k i N) (f_X4_keepsLit_26_N nl ho sn pe sc (nI (pk w nl)) mu rN rr (nI W) k i N)
  | 0, i, h1, h2, _, _ => absurd h2 (by omega)
  | k + 1, i, h1, h2, hd, N => by
    have hp : 2 ^ pe ≤ 2 ^ 4 := Nat.pow_le_pow_right (by decide) hpe
    have hBr : 0 < (2 ^ pe) ^ r := Nat.pow_pos (Nat.pow_pos (by decide))
    have hB1 : (2 ^ pe) ^ (r + 1) = (2 ^ pe) ^ r * 2 ^ pe := Nat.pow_succ _ _
    rw [f_X4_keepsLit_26_r, f_X4_keepsLit_26_N]
    by_cases ci : i = 2 ^ pe
    · have c1 : nI (2 ^ pe) ≤ nI i := nle_t rfl rfl (by omega) (by omega) (by omega)
      rw [if_pos c1, if_pos c1]
      exact Or.inl ⟨rfl, fun c q g => hd c q (by rw [ci]; exact (Nat.div_lt_iff_lt_mul hBr).mpr (by rw [Nat.mul_comm, ← hB1]; exact q)) g⟩
    · have c1 : ¬ nI (2 ^ pe) ≤ nI i := nle_f rfl rfl (by omega) (by omega) (by omega)
      have hib : i < 2 ^ pe := by omega
      obtain ⟨p4, -, pb⟩ := pc4 i (by omega)
      rw [if_neg c1, if_neg c1, pb]
      have hge : (0 ≤ nI W - nI (pc i 4)) ↔ pc i 4 ≤ W := by
        rw [Int32.le_iff_toInt_le, pk_sub_toInt (by omega) (by omega)]
        have : (0 : Int32).toInt = 0 := by decide
        omega
      -- what follows for the codes that begin with i
      have next : (∀ c, c < (2 ^ pe) ^ (r + 1) → c / (2 ^ pe) ^ r = i → gd nl pe sc sn hh c (r + 1) w → W < cn pe c (r + 1)) → ∀ N', klS nl pe sc sn hh (r + 1) W mu w (f_X4_keepsLit_26_r nl ho sn pe sc (nI (pk w nl)) mu rN rr (nI W) k (i + 1) N') (f_X4_keepsLit_26_N nl ho sn pe sc (nI (pk w nl)) mu rN rr (nI W) k (i + 1) N') := fun z N' =>
        kl26 hn hpe hW hhh hw ih k (i + 1) (by omega) (by omega) (fun c q1 q2 g => by
          by_cases e : c / (2 ^ pe) ^ r = i
          · exact z c q1 e g
          · exact hd c q1 (by omega) g) N'
      by_cases cw : pc i 4 ≤ W
      · have cw' := hge.mpr cw
        rw [if_pos cw', if_pos cw', after_eq hn hw hhh]
        have hav := av_le (sn := sn) (st := f_X0_stirred pe sc (nI i)) hw (fun l q => (hhh l q).1)
        rw [litOnes_eq hn hav]
        by_cases cd : f_X0_inDark pe sc (nI (lm (av sn hh (f_X0_stirred pe sc (nI i)) w) nl)) = 0
        · rw [if_pos cd, if_pos cd, show nI W - nI (pc i 4) = nI (W - pc i 4) from ix_sub cw rfl rfl]
          have sp := ih (av sn hh (f_X0_stirred pe sc (nI i)) w) hav (W - pc i 4) (by omega) N
          rcases sp with ⟨s0, s1⟩ | ⟨s0, c, s1, s2, s3, s4, s5⟩
          · rw [if_pos s0, if_pos s0]
            refine next (fun c q e g => ?_) _
            rw [gd, e, Nat.mod_eq_of_lt hib] at g
            rw [cn, e, Nat.mod_eq_of_lt hib]
            have := s1 (c % (2 ^ pe) ^ r) (Nat.mod_lt _ hBr) ((gd_cong r _ (fun j q => dig_mod _ _ _ _ q)).mpr g.2)
            rw [cn_cong r (fun j q => dig_mod _ _ _ _ q)] at this
            omega
          · have n1 : ¬ rr (mu + 1) (nI (pk (av sn hh (f_X0_stirred pe sc (nI i)) w) nl)) (nI (W - pc i 4)) N = 0 := by rw [s0]; exact n10
            rw [if_neg n1, if_neg n1]
            have d1 : (i * (2 ^ pe) ^ r + c) / (2 ^ pe) ^ r = i := by
              rw [Nat.mul_comm, Nat.mul_add_div hBr, Nat.div_eq_of_lt s1, Nat.add_zero]
            have d2 : (i * (2 ^ pe) ^ r + c) % (2 ^ pe) ^ r = c := by
              rw [Nat.mul_comm, Nat.mul_add_mod, Nat.mod_eq_of_lt s1]
            have d3 : ∀ j, j < r → (i * (2 ^ pe) ^ r + c) / (2 ^ pe) ^ j % 2 ^ pe = c / (2 ^ pe) ^ j % 2 ^ pe := fun j q => by
              rw [← dig_mod _ (i * (2 ^ pe) ^ r + c) r j q, d2]
            refine Or.inr ⟨rfl, i * (2 ^ pe) ^ r + c, ?_, ?_, ?_, fun c' q g => ?_, fun t ht => ?_⟩
            · rw [hB1]
              have : (i + 1) * (2 ^ pe) ^ r ≤ 2 ^ pe * (2 ^ pe) ^ r := Nat.mul_le_mul_right _ hib
              rw [Nat.add_mul, Nat.one_mul] at this
              rw [Nat.mul_comm ((2 ^ pe) ^ r)]
              omega
            · rw [gd, d1, Nat.mod_eq_of_lt hib]
              exact ⟨cd, (gd_cong r _ d3).mpr s2⟩
            · rw [cn, d1, Nat.mod_eq_of_lt hib, cn_cong r d3]
              omega
            · have hc' : c' / (2 ^ pe) ^ r ≤ i := by
                have : c' / (2 ^ pe) ^ r ≤ (i * (2 ^ pe) ^ r + c) / (2 ^ pe) ^ r := Nat.div_le_div_right (by omega)
                rw [d1] at this
                exact this
              have hlt : c' < (2 ^ pe) ^ (r + 1) := by
                rw [hB1]
                have : (i + 1) * (2 ^ pe) ^ r ≤ 2 ^ pe * (2 ^ pe) ^ r := Nat.mul_le_mul_right _ hib
                rw [Nat.add_mul, Nat.one_mul] at this
                rw [Nat.mul_comm ((2 ^ pe) ^ r)]
                omega
              by_cases e : c' / (2 ^ pe) ^ r = i
              · rw [gd, e, Nat.mod_eq_of_lt hib] at g
                rw [cn, e, Nat.mod_eq_of_lt hib]
                have hm := Nat.div_add_mod c' ((2 ^ pe) ^ r)
                rw [e, Nat.mul_comm] at hm
                have := s4 (c' % (2 ^ pe) ^ r) (by omega) ((gd_cong r _ (fun j q => dig_mod _ _ _ _ q)).mpr g.2)
                rw [cn_cong r (fun j q => dig_mod _ _ _ _ q)] at this
                omega
              · exact hd c' hlt (by omega) g
            · rcases Nat.eq_zero_or_pos t with rfl | ht0
              · rw [show mu + 0 = mu from rfl, pk_us, show r + 1 - 1 - 0 = r from rfl, d1, Nat.mod_eq_of_lt hib]
              · rw [pk_un (by omega), show mu + t = mu + 1 + (t - 1) by omega, s5 (t - 1) (by omega), show r - 1 - (t - 1) = r - t by omega, show r + 1 - 1 - t = r - t by omega, d3 (r - t) (by omega)]
        · rw [if_neg cd, if_neg cd]
          refine next (fun c q e g => ?_) _
          rw [gd, e, Nat.mod_eq_of_lt hib] at g
          exact absurd g.1 cd
      · have cw' : ¬ 0 ≤ nI W - nI (pc i 4) := fun z => cw (hge.mp z)
        rw [if_neg cw', if_neg cw']
        refine next (fun c q e g => ?_) _
        rw [cn, e, Nat.mod_eq_of_lt hib]
        omega
theorem kl_spec {nl pe mm : Nat} {ho sc sn : Nat → Int32} {hh : Nat → Nat} (hn : nl ≤ 6) (hpe : pe ≤ 4) (hm : mm ≤ 3) (hhh : ∀ l, l < nl → hh l ≤ 9 ∧ ho l = nI (hh l)) :
    ∀ d mu, mu ≤ mm → mm ≤ mu + d → ∀ (w : Nat → Nat), (∀ l, l < nl → w l ≤ 9) → ∀ W, W ≤ 100 → ∀ N, klS nl pe sc sn hh (mm - mu) W mu w (g_kl nl ho sn pe sc mm d mu (nI (pk w nl)) (nI W) N).1 (g_kl nl ho sn pe sc mm d mu (nI (pk w nl)) (nI W) N).2
  | 0, mu, h1, h2, w, hw, W, hW, N => by
    have c1 : nI mm ≤ nI mu := nle_t rfl rfl (by omega) (by omega) (by omega)
    rw [g_kl, show mm - mu = 0 by omega]
    unfold f_X4_keepsLit
    rw [if_pos c1]
    exact Or.inr ⟨rfl, 0, Nat.pow_pos (Nat.pow_pos (by decide)), trivial, Nat.zero_le W, fun c q => absurd q (Nat.not_lt_zero c), fun t q => absurd q (Nat.not_lt_zero t)⟩
  | d + 1, mu, h1, h2, w, hw, W, hW, N => by
    rw [g_kl]
    unfold f_X4_keepsLit f_X4_keepsLit_N
    by_cases c : mu = mm
    · have c1 : nI mm ≤ nI mu := nle_t rfl rfl (by omega) (by omega) (by omega)
      rw [if_pos c1, show mm - mu = 0 by omega]
      exact Or.inr ⟨rfl, 0, Nat.pow_pos (Nat.pow_pos (by decide)), trivial, Nat.zero_le W, fun c q => absurd q (Nat.not_lt_zero c), fun t q => absurd q (Nat.not_lt_zero t)⟩
    · have c1 : ¬ nI mm ≤ nI mu := nle_f rfl rfl (by omega) (by omega) (by omega)
      rw [if_neg c1, if_neg c1, show mm - mu = (mm - (mu + 1)) + 1 by omega]
      exact kl26 hn hpe hW hhh hw (fun w' hw' W' hW' N' => kl_spec hn hpe hm hhh d (mu + 1) (by omega) (by omega) w' hw' W' hW' N') (2 ^ pe + 1) 0 (Nat.zero_le _) (by omega) (fun c _ q _ => absurd q (Nat.not_lt_zero _)) N
theorem pw_r {nl pe mm : Nat} {ho sc sn : Nat → Int32} {v hh : Nat → Nat} (hn : nl ≤ 6) (hpe : pe ≤ 4) (hm : mm ≤ 3) (hv : ∀ l, l < nl → v l ≤ 9) (hhh : ∀ l, l < nl → hh l ≤ 9 ∧ ho l = nI (hh l)) (hM : pe * mm ≤ 12) (hex : ∃ c, c < (2 ^ pe) ^ mm ∧ gd nl pe sc sn hh c mm v ∧ cn pe c mm ≤ pe * mm) :
    ∀ k i, i ≤ pe * mm + 1 → pe * mm + 1 < i + k → (∀ c, c < (2 ^ pe) ^ mm → gd nl pe sc sn hh c mm v → i ≤ cn pe c mm) → ∀ N, ∃ b, best nl pe sc sn hh v mm ((2 ^ pe) ^ mm) b ∧ f_X4_planWaving_12_r nl ho sn (nI (pk v nl)) pe sc mm k i N = nI (cn pe b mm) ∧ ∀ t, t < mm → f_X4_planWaving_12_N nl ho sn (nI (pk v nl)) pe sc mm k i N t = nI (b / (2 ^ pe) ^ (mm - 1 - t) % 2 ^ pe)
  | 0, i, h1, h2, _, _ => absurd h2 (by omega)
  | k + 1, i, h1, h2, hd, N => by
    obtain ⟨c0, x1, x2, x3⟩ := hex
    have hi := hd c0 x1 x2
    have c1 : ¬ nI (pe * mm) < nI i := nlt_f rfl rfl (by omega) (by omega) (by omega)
    rw [f_X4_planWaving_12_r, f_X4_planWaving_12_N, if_neg c1, if_neg c1]
    have sp := kl_spec (sc := sc) (sn := sn) (ho := ho) hn hpe hm hhh 3 0 (Nat.zero_le mm) (by omega) v hv i (by omega) N
    rw [Nat.sub_zero] at sp
    rcases sp with ⟨s0, s1⟩ | ⟨s0, c, s1, s2, s3, s4, s5⟩
    · rw [if_pos s0, if_pos s0]
      exact pw_r hn hpe hm hv hhh hM ⟨c0, x1, x2, x3⟩ k (i + 1) (by omega) (by omega) (fun c q g => s1 c q g) _
    · have n1 : ¬ (g_kl nl ho sn pe sc mm 3 0 (nI (pk v nl)) (nI i) N).1 = 0 := by rw [s0]; exact n10
      rw [if_neg n1, if_neg n1]
      have e : cn pe c mm = i := Nat.le_antisymm s3 (hd c s1 s2)
      refine ⟨c, ⟨s1, s2, fun c' q g => by rw [e]; exact hd c' q g, fun c' q g => by rw [e]; exact s4 c' q g⟩, by rw [e], fun t ht => ?_⟩
      have := s5 t ht
      rw [Nat.zero_add] at this
      exact this
