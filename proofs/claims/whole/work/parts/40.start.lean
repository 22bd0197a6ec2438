theorem rr0 : RR 0 0 (fun _ => 0) 0 (fun _ => 0) (fun _ => 0) (fun _ => 0) 0 0 (fun _ => 0) (fun _ => 0) (fun _ => 0) 0 (fun _ => 0) (fun _ => 0) 0 0 0 (fun _ => 0) (fun _ => 0) (fun _ => 0) 0 (fun _ => 0) (fun _ => 0) 0 0 0 (fun _ => 0) (fun _ => 0) (fun _ => 0) 0 (fun _ => 0) (-1) 0 0 0 (fun _ => 0) (fun _ => 0) (fun _ => 0) := by
  refine ⟨⟨by omega, fun j hj => absurd hj (by omega)⟩, ⟨Or.inl rfl, by omega, fun j hj => absurd hj (by omega)⟩, ⟨⟨fun _ => 0, fun j hj => absurd hj (by omega), rfl⟩, fun j hj => absurd hj (by omega), by omega, fun j hj => absurd hj (by omega), by omega, rfl, fun j hj => absurd hj (by omega), fun _ _ => ⟨rfl, rfl⟩⟩, ⟨0, by omega, rfl, Or.inl rfl, Or.inl ⟨rfl, by decide⟩⟩, ⟨0, by omega, rfl⟩⟩
set_option maxHeartbeats 8000000 in
set_option maxRecDepth 100000 in
theorem whole_start {p : Program} {e : Env} {s : State} {m : MethodId} {below : List Frame} {meth : Method} {c : Code} (l : Launch) (hflags : l.flags = flags0) {b L : Nat} {xs : Nat → Int32} (hL : L ≤ 256) (C0 : lw_At p s m meth c b L xs) : W p l e room_1 s m #[Value.ref b] below meth c s.heap [] 0 0 (lw_Z below #[Value.ref b] s) (entryFrame m ([Value.ref b] : List Value).toArray 4) := by
  obtain ⟨hx, hb, hr, hml, hown, hts0, hX, hbl, hlocks, hgv⟩ := id C0
  have hts : ∀ w ∈ wsL_law, w.before #[Value.ref b] s = true := fun w h => hts0 w (wsL_law_in w h)
  have hown : s.vm.findClass RL = some m.cls := hown
  have hA : ∀ q : Nat, s.heap.size ≤ q → (fun q : Nat => s.heap.size ≤ q) q := fun _ h => h
  have hAn : ∀ a : Nat, a < s.heap.size → ¬ (fun q : Nat => s.heap.size ≤ q) a := fun _ h => Nat.not_le.mpr h
  have hg := flat_of_before _ hgv
  obtain ⟨c0, i0, hk0⟩ := u_known (C := RX0) (T := TX0) (N := 9) (n := 9) hts0 inX0 (hts0 (.instantiable RX0 9) (List.mem_of_getElem? (i := 99) (by decide +kernel)))
  obtain ⟨c1, i1, hk1⟩ := u_known (C := RX1) (T := TX1) (N := 4) (n := 4) hts0 inX1 (hts0 (.instantiable RX1 4) (List.mem_of_getElem? (i := 76) (by decide +kernel)))
  obtain ⟨c2, i2, hk2⟩ := u_known (C := RX2) (T := TX2) (N := 2) (n := 2) hts0 inX2 (hts0 (.instantiable RX2 2) (List.mem_of_getElem? (i := 58) (by decide +kernel)))
  obtain ⟨c3, i3, hk3⟩ := u_known (C := RX3) (T := TX3) (N := 2) (n := 2) hts0 inX3 (hts0 (.instantiable RX3 2) (List.mem_of_getElem? (i := 141) (by decide +kernel)))
  obtain ⟨c4, i4, hk4⟩ := u_known (C := RX4) (T := TX4) (N := 10) (n := 10) hts0 inX4 (hts0 (.instantiable RX4 10) (List.mem_of_getElem? (i := 50) (by decide +kernel)))
  obtain ⟨c5, i5, hk5⟩ := u_known (C := RX5) (T := TX5) (N := 24) (n := 24) hts0 inX5 (hts0 (.instantiable RX5 24) (List.mem_of_getElem? (i := 549) (by decide +kernel)))
  obtain ⟨D, hKc⟩ : ∃ D : va_G, ∀ (k : Nat) (q : vw_C), vwCl[k]? = some q → u_Kn s q.1 q.2.1 q.2.2 (D.1 k) (D.2 k) := by
    refine ⟨(fun k => if k = 0 then c0 else if k = 1 then c1 else if k = 2 then c2 else if k = 3 then c3 else if k = 4 then c4 else c5, fun k => if k = 0 then i0 else if k = 1 then i1 else if k = 2 then i2 else if k = 3 then i3 else if k = 4 then i4 else i5), ?_⟩
    intro k q hq
    match k, hq with
    | 0, hq => cases hq; exact hk0
    | 1, hq => cases hq; exact hk1
    | 2, hq => cases hq; exact hk2
    | 3, hq => cases hq; exact hk3
    | 4, hq => cases hq; exact hk4
    | 5, hq => cases hq; exact hk5
    | k + 6, hq => simp [vwCl] at hq
  obtain ⟨cI, kI, comp, a1, a2, a3⟩ := Cond.arrayClass_spec (type := .int) (hts0 (.arrayClass .int) (List.mem_of_getElem? (i := 74) (by decide +kernel)))
  have hK : va_K D vwCl [(cI, .int)] s := by
    refine ⟨hKc, fun k q h => ?_⟩
    match k, h with
    | 0, h => cases h; exact ⟨fun n z => ⟨fun k h => (by cases h), kI, a2, comp, a3⟩, a1⟩
    | k + 1, h => simp at h
  have z0 : ∀ i : Nat, i < 1 → i = 0 := fun i hi => by omega
  obtain ⟨adK, adV, hSS, hte⟩ := vk_Sof (args := #[Value.ref b]) (s := s) (N := 1) (tm := fun _ => .string "DarkOffice$Page" 27) (len := [5]) (byt := [[108, 119, 116, 100, 104]]) (A := fun q : Nat => s.heap.size ≤ q)
    (fun i hi => by obtain rfl := z0 i hi; decide)
    (fun i hi => by obtain rfl := z0 i hi; exact hg _ (by decide +kernel))
    (fun i hi => by obtain rfl := z0 i hi; exact hg _ (by decide +kernel))
    (fun i hi => by obtain rfl := z0 i hi; exact hg _ (by decide +kernel))
    (fun i hi => by obtain rfl := z0 i hi; exact hg _ (by decide +kernel))
    (fun i hi j hj => by
      obtain rfl := z0 i hi
      have hj : j < 5 := hj
      rcases (show j = 0 ∨ j = 1 ∨ j = 2 ∨ j = 3 ∨ j = 4 by omega) with rfl | rfl | rfl | rfl | rfl <;> exact hg _ (by decide +kernel))
    (fun i j hi hj h => absurd (show i = j by omega) h) hAn
  have hte0 := hte 0 (by decide)
  have hte1 := va_eqR (t := .string "DarkOffice$Page" 27) (u := .string "DarkOffice$Lamps" 39) (hg _ (by decide +kernel)) hte0
  have hSS1 : vk_S 1 [5] [[108, 119, 116, 100, 104]] (fun _ => adK 0) (fun _ => adV 0) (fun q : Nat => s.heap.size ≤ q) s s.heap := by
    refine ⟨fun i hi => ?_, fun i j hi hj _ => by omega⟩
    obtain rfl := z0 i hi
    exact hSS.1 0 hi
  have hZ : zS (adK 0) (adV 0) (fun q : Nat => s.heap.size ≤ q) s s.heap := ⟨vk_R.of (hts0 (.stringRef RX2 27 "lwtdh") (List.mem_of_getElem? (i := 207) (by decide +kernel))) hte0, vk_R.of (hts0 (.stringRef RX1 39 "lwtdh") (List.mem_of_getElem? (i := 309) (by decide +kernel))) hte1, hSS1, va_Zof (hts0 (.laysStatic "java/lang/String" "COMPACT_STRINGS" "Z") (List.mem_of_getElem? (i := 221) (by decide +kernel))) (hts0 (.initialized "java/lang/String") (List.mem_of_getElem? (i := 42) (by decide +kernel))) (va_eqt (hg _ (by decide +kernel))) hAn⟩
  have hE : nX s := ⟨va_Nw.of rfl (hts0 (.methodLinkNest RX4 9 yX2_init RX4) (List.mem_of_getElem? (i := 59) (by decide +kernel))), va_Nw.of rfl (hts0 (.methodLinkNest RX4 18 yX1_init RX4) (List.mem_of_getElem? (i := 77) (by decide +kernel))), va_Nw.of rfl (hts0 (.methodLinkNest RX4 25 yX0_init RX4) (List.mem_of_getElem? (i := 100) (by decide +kernel))), va_Nw.of rfl (hts0 (.methodLinkNest RX4 35 yX3_init RX4) (List.mem_of_getElem? (i := 142) (by decide +kernel)))⟩
  have hS : va_S (fun q : Nat => s.heap.size ≤ q) s.heap s.heap [] := va_S.rf
  have hP : va_P D vwCl [] s.heap := fun k q h => by simp at h
  have hD : va_D (fun q : Nat => s.heap.size ≤ q) [] := ⟨fun i j p q h => by simp at h, fun k q h => by simp at h⟩
  have hl := lv_entry ([.ref b]) (n := 4) (Nat.le_of_ble_eq_true rfl)
  rw [lg_entry_eq]
  generalize (lg_sl ([.ref b]) ++ List.replicate (4 - (lg_sl ([.ref b])).length) Slot.unset).toArray = ls at hl ⊢
  have hl : lv_has ls 4 [(0, .ref b)] := hl
  refine va_new (ci := 4) (fs := [.null, .null, .null, .null, .null, .null, .null, .int 0, .int 0, .int 0]) (C := RX4) (T := TX4) (N := 10) hx hb hts0 inX4 tyX4 tyX4_ok hown (hts0 (.classLink RL 7 RX4) (List.mem_of_getElem? (i := 49) (by decide +kernel))) (hts0 (.instantiable RX4 10) (List.mem_of_getElem? (i := 50) (by decide +kernel))) (hts0 (.initialized RX4) (List.mem_of_getElem? (i := 36) (by decide +kernel))) hK hP hD hS hA rfl (fun j hj => by rcases (show j = 0 ∨ j = 1 ∨ j = 2 ∨ j = 3 ∨ j = 4 ∨ j = 5 ∨ j = 6 ∨ j = 7 ∨ j = 8 ∨ j = 9 by omega) with rfl | rfl | rfl | rfl | rfl | rfl | rfl | rfl | rfl | rfl <;> rfl) (Nat.le_of_ble_eq_true rfl) (Nat.le_of_ble_eq_true rfl) dL_law_0 (fun q0 H hP hD hS => ?_)
  have hP : va_P D vwCl [(q0, .inr (4, [.null, .null, .null, .null, .null, .null, .null, .int 0, .int 0, .int 0]))] H := hP
  have hD : va_D (fun q : Nat => s.heap.size ≤ q) [(q0, .inr (4, [.null, .null, .null, .null, .null, .null, .null, .int 0, .int 0, .int 0]))] := hD
  refine W.widen (k := 1) (n := 10) (by omega) (by omega) ?_
  refine lv_dup hx hb dL_law_3 rfl ?_
  refine cI' (y := yX4_init) (E := nX) ⟨hx, hb, hml, hown, hts⟩ (c_X4_init l D cI q0) (cwI 0 hts gL_law_X4_init rfl rfl rfl (hts0 (.initialized RX4) (List.mem_of_getElem? (i := 36) (by decide +kernel))) (hts0 (.methodLink RL 9 yX4_init) (List.mem_of_getElem? (i := 51) (by decide +kernel))) (hts0 (.instanceMethod yX4_init) (List.mem_of_getElem? (i := 52) (by decide +kernel))) rfl (by decide +kernel) ⟨Nat.le_of_ble_eq_true rfl, Nat.le_of_ble_eq_true rfl⟩) (fun _ _ h1 h2 => nX.same h1 h2) (fun _ h1 => nX.warm h1 hE) hK hP hD hS hA [0] [] rfl rfl rfl rfl rfl (by decide) (As := []) (rest := [.ref q0]) rfl hl.1 rfl (Nat.le_of_ble_eq_true rfl) dL_law_4 ⟨Nat.le_of_ble_eq_true rfl, Nat.le_of_ble_eq_true rfl⟩ (fun w1 hw1 H locs hP hD hS => ?_)
  obtain ⟨q1, q2, q3, q4, q5, q6, q7, q8, q9, q10, q11, q12, q13, q14, q15, q16, q17, q18, q19, q20, q21, q22, rfl⟩ := hw1
  have hP : va_P D vwCl [(q0, .inr (4, [.ref q1, .ref q3, .ref q7, .ref q13, .ref q19, .ref q21, .ref q22, .int 0, .int 0, .int 0])), (q1, .inr (2, [.ref q2, .int 0])), (q2, .inl (cI, 20, .inl (fun _ => 0))), (q3, .inr (1, [.ref q4, .ref q5, .ref q6, .int 0])), (q4, .inl (cI, 6, .inl (fun _ => 0))), (q5, .inl (cI, 6, .inl (fun _ => 0))), (q6, .inl (cI, 6, .inl (fun _ => 0))), (q7, .inr (0, [.int 0, .int 0, .int 0, .ref q8, .ref q9, .ref q10, .int 0, .ref q11, .ref q12])), (q8, .inl (cI, 4, .inl (fun _ => 0))), (q9, .inl (cI, 4, .inl (fun _ => 0))), (q10, .inl (cI, 4, .inl (fun _ => 0))), (q11, .inl (cI, 7, .inl (fun _ => 0))), (q12, .inl (cI, 7, .inl (fun _ => 0))), (q13, .inr (0, [.int 0, .int 0, .int 0, .ref q14, .ref q15, .ref q16, .int 0, .ref q17, .ref q18])), (q14, .inl (cI, 4, .inl (fun _ => 0))), (q15, .inl (cI, 4, .inl (fun _ => 0))), (q16, .inl (cI, 4, .inl (fun _ => 0))), (q17, .inl (cI, 7, .inl (fun _ => 0))), (q18, .inl (cI, 7, .inl (fun _ => 0))), (q19, .inr (3, [.ref q20, .int 0])), (q20, .inl (cI, 64, .inl (fun _ => 0))), (q21, .inl (cI, 3, .inl (fun _ => 0))), (q22, .inl (cI, 7, .inl (fun _ => 0)))] H := hP
  have hD : va_D (fun q : Nat => s.heap.size ≤ q) [(q0, .inr (4, [.ref q1, .ref q3, .ref q7, .ref q13, .ref q19, .ref q21, .ref q22, .int 0, .int 0, .int 0])), (q1, .inr (2, [.ref q2, .int 0])), (q2, .inl (cI, 20, .inl (fun _ => 0))), (q3, .inr (1, [.ref q4, .ref q5, .ref q6, .int 0])), (q4, .inl (cI, 6, .inl (fun _ => 0))), (q5, .inl (cI, 6, .inl (fun _ => 0))), (q6, .inl (cI, 6, .inl (fun _ => 0))), (q7, .inr (0, [.int 0, .int 0, .int 0, .ref q8, .ref q9, .ref q10, .int 0, .ref q11, .ref q12])), (q8, .inl (cI, 4, .inl (fun _ => 0))), (q9, .inl (cI, 4, .inl (fun _ => 0))), (q10, .inl (cI, 4, .inl (fun _ => 0))), (q11, .inl (cI, 7, .inl (fun _ => 0))), (q12, .inl (cI, 7, .inl (fun _ => 0))), (q13, .inr (0, [.int 0, .int 0, .int 0, .ref q14, .ref q15, .ref q16, .int 0, .ref q17, .ref q18])), (q14, .inl (cI, 4, .inl (fun _ => 0))), (q15, .inl (cI, 4, .inl (fun _ => 0))), (q16, .inl (cI, 4, .inl (fun _ => 0))), (q17, .inl (cI, 7, .inl (fun _ => 0))), (q18, .inl (cI, 7, .inl (fun _ => 0))), (q19, .inr (3, [.ref q20, .int 0])), (q20, .inl (cI, 64, .inl (fun _ => 0))), (q21, .inl (cI, 3, .inl (fun _ => 0))), (q22, .inl (cI, 7, .inl (fun _ => 0)))] := hD
  refine W.widen (k := 23) (n := 200) (by omega) (by omega) ?_
  refine lv_astore_n (lv' := [(1, .ref q0), (0, .ref b)]) hx hb dL_law_7 rfl hl (by decide) rfl (fun ls hl => ?_)
  refine va_new (ci := 5) (fs := [.null, .int 0, .int 0, .int 0, .int 0, .null, .int 0, .null, .null, .int 0, .int 0, .null, .null, .int 0, .null, .int 0, .int 0, .int 0, .int 0, .int 0, .null, .null, .null, .long 0]) (C := RX5) (T := TX5) (N := 24) hx hb hts0 inX5 tyX5 tyX5_ok hown (hts0 (.classLink RL 10 RX5) (List.mem_of_getElem? (i := 548) (by decide +kernel))) (hts0 (.instantiable RX5 24) (List.mem_of_getElem? (i := 549) (by decide +kernel))) (hts0 (.initialized RX5) (List.mem_of_getElem? (i := 41) (by decide +kernel))) hK hP hD hS hA rfl (fun j hj => by rcases (show j = 0 ∨ j = 1 ∨ j = 2 ∨ j = 3 ∨ j = 4 ∨ j = 5 ∨ j = 6 ∨ j = 7 ∨ j = 8 ∨ j = 9 ∨ j = 10 ∨ j = 11 ∨ j = 12 ∨ j = 13 ∨ j = 14 ∨ j = 15 ∨ j = 16 ∨ j = 17 ∨ j = 18 ∨ j = 19 ∨ j = 20 ∨ j = 21 ∨ j = 22 ∨ j = 23 by omega) with rfl | rfl | rfl | rfl | rfl | rfl | rfl | rfl | rfl | rfl | rfl | rfl | rfl | rfl | rfl | rfl | rfl | rfl | rfl | rfl | rfl | rfl | rfl | rfl <;> rfl) (Nat.le_of_ble_eq_true rfl) (Nat.le_of_ble_eq_true rfl) dL_law_8 (fun r0 H hP hD hS => ?_)
  have hP : va_P D vwCl [(q0, .inr (4, [.ref q1, .ref q3, .ref q7, .ref q13, .ref q19, .ref q21, .ref q22, .int 0, .int 0, .int 0])), (q1, .inr (2, [.ref q2, .int 0])), (q2, .inl (cI, 20, .inl (fun _ => 0))), (q3, .inr (1, [.ref q4, .ref q5, .ref q6, .int 0])), (q4, .inl (cI, 6, .inl (fun _ => 0))), (q5, .inl (cI, 6, .inl (fun _ => 0))), (q6, .inl (cI, 6, .inl (fun _ => 0))), (q7, .inr (0, [.int 0, .int 0, .int 0, .ref q8, .ref q9, .ref q10, .int 0, .ref q11, .ref q12])), (q8, .inl (cI, 4, .inl (fun _ => 0))), (q9, .inl (cI, 4, .inl (fun _ => 0))), (q10, .inl (cI, 4, .inl (fun _ => 0))), (q11, .inl (cI, 7, .inl (fun _ => 0))), (q12, .inl (cI, 7, .inl (fun _ => 0))), (q13, .inr (0, [.int 0, .int 0, .int 0, .ref q14, .ref q15, .ref q16, .int 0, .ref q17, .ref q18])), (q14, .inl (cI, 4, .inl (fun _ => 0))), (q15, .inl (cI, 4, .inl (fun _ => 0))), (q16, .inl (cI, 4, .inl (fun _ => 0))), (q17, .inl (cI, 7, .inl (fun _ => 0))), (q18, .inl (cI, 7, .inl (fun _ => 0))), (q19, .inr (3, [.ref q20, .int 0])), (q20, .inl (cI, 64, .inl (fun _ => 0))), (q21, .inl (cI, 3, .inl (fun _ => 0))), (q22, .inl (cI, 7, .inl (fun _ => 0))), (r0, .inr (5, [.null, .int 0, .int 0, .int 0, .int 0, .null, .int 0, .null, .null, .int 0, .int 0, .null, .null, .int 0, .null, .int 0, .int 0, .int 0, .int 0, .int 0, .null, .null, .null, .long 0]))] H := hP
  have hD : va_D (fun q : Nat => s.heap.size ≤ q) [(q0, .inr (4, [.ref q1, .ref q3, .ref q7, .ref q13, .ref q19, .ref q21, .ref q22, .int 0, .int 0, .int 0])), (q1, .inr (2, [.ref q2, .int 0])), (q2, .inl (cI, 20, .inl (fun _ => 0))), (q3, .inr (1, [.ref q4, .ref q5, .ref q6, .int 0])), (q4, .inl (cI, 6, .inl (fun _ => 0))), (q5, .inl (cI, 6, .inl (fun _ => 0))), (q6, .inl (cI, 6, .inl (fun _ => 0))), (q7, .inr (0, [.int 0, .int 0, .int 0, .ref q8, .ref q9, .ref q10, .int 0, .ref q11, .ref q12])), (q8, .inl (cI, 4, .inl (fun _ => 0))), (q9, .inl (cI, 4, .inl (fun _ => 0))), (q10, .inl (cI, 4, .inl (fun _ => 0))), (q11, .inl (cI, 7, .inl (fun _ => 0))), (q12, .inl (cI, 7, .inl (fun _ => 0))), (q13, .inr (0, [.int 0, .int 0, .int 0, .ref q14, .ref q15, .ref q16, .int 0, .ref q17, .ref q18])), (q14, .inl (cI, 4, .inl (fun _ => 0))), (q15, .inl (cI, 4, .inl (fun _ => 0))), (q16, .inl (cI, 4, .inl (fun _ => 0))), (q17, .inl (cI, 7, .inl (fun _ => 0))), (q18, .inl (cI, 7, .inl (fun _ => 0))), (q19, .inr (3, [.ref q20, .int 0])), (q20, .inl (cI, 64, .inl (fun _ => 0))), (q21, .inl (cI, 3, .inl (fun _ => 0))), (q22, .inl (cI, 7, .inl (fun _ => 0))), (r0, .inr (5, [.null, .int 0, .int 0, .int 0, .int 0, .null, .int 0, .null, .null, .int 0, .int 0, .null, .null, .int 0, .null, .int 0, .int 0, .int 0, .int 0, .int 0, .null, .null, .null, .long 0]))] := hD
  refine W.widen (k := 24) (n := 224) (by omega) (by omega) ?_
  refine lv_dup hx hb dL_law_11 rfl ?_
  refine cI' (y := yX5_init) (E := nE) ⟨hx, hb, hml, hown, hts⟩ (c_X5_init l D cI r0) (cwI 0 hts gL_law_X5_init rfl rfl rfl (hts0 (.initialized RX5) (List.mem_of_getElem? (i := 41) (by decide +kernel))) (hts0 (.methodLink RL 12 yX5_init) (List.mem_of_getElem? (i := 550) (by decide +kernel))) (hts0 (.instanceMethod yX5_init) (List.mem_of_getElem? (i := 551) (by decide +kernel))) rfl (by decide +kernel) ⟨Nat.le_of_ble_eq_true rfl, Nat.le_of_ble_eq_true rfl⟩) (fun _ _ _ h => h) (fun _ _ => trivial) hK hP hD hS hA [23] [0, 1, 2, 3, 4, 5, 6, 7, 8, 9, 10, 11, 12, 13, 14, 15, 16, 17, 18, 19, 20, 21, 22] rfl rfl rfl rfl rfl (by decide) (As := []) (rest := [.ref r0]) rfl hl.1 rfl (Nat.le_of_ble_eq_true rfl) dL_law_12 ⟨Nat.le_of_ble_eq_true rfl, Nat.le_of_ble_eq_true rfl⟩ (fun w1 hw1 H locs hP hD hS => ?_)
  obtain ⟨r1, r2, r3, r4, r5, r6, r7, r8, r9, r10, rfl⟩ := hw1
  have hP : va_P D vwCl [(q0, .inr (4, [.ref q1, .ref q3, .ref q7, .ref q13, .ref q19, .ref q21, .ref q22, .int 0, .int 0, .int 0])), (q1, .inr (2, [.ref q2, .int 0])), (q2, .inl (cI, 20, .inl (fun _ => 0))), (q3, .inr (1, [.ref q4, .ref q5, .ref q6, .int 0])), (q4, .inl (cI, 6, .inl (fun _ => 0))), (q5, .inl (cI, 6, .inl (fun _ => 0))), (q6, .inl (cI, 6, .inl (fun _ => 0))), (q7, .inr (0, [.int 0, .int 0, .int 0, .ref q8, .ref q9, .ref q10, .int 0, .ref q11, .ref q12])), (q8, .inl (cI, 4, .inl (fun _ => 0))), (q9, .inl (cI, 4, .inl (fun _ => 0))), (q10, .inl (cI, 4, .inl (fun _ => 0))), (q11, .inl (cI, 7, .inl (fun _ => 0))), (q12, .inl (cI, 7, .inl (fun _ => 0))), (q13, .inr (0, [.int 0, .int 0, .int 0, .ref q14, .ref q15, .ref q16, .int 0, .ref q17, .ref q18])), (q14, .inl (cI, 4, .inl (fun _ => 0))), (q15, .inl (cI, 4, .inl (fun _ => 0))), (q16, .inl (cI, 4, .inl (fun _ => 0))), (q17, .inl (cI, 7, .inl (fun _ => 0))), (q18, .inl (cI, 7, .inl (fun _ => 0))), (q19, .inr (3, [.ref q20, .int 0])), (q20, .inl (cI, 64, .inl (fun _ => 0))), (q21, .inl (cI, 3, .inl (fun _ => 0))), (q22, .inl (cI, 7, .inl (fun _ => 0))), (r0, .inr (5, [.ref r1, .int 0, .int 0, .int 0, .int 0, .ref r2, .int 0, .ref r3, .ref r4, .int 0, .int 0, .ref r5, .ref r6, .int 0, .ref r7, .int 0, .int (-1), .int 0, .int 0, .int 0, .ref r8, .ref r9, .ref r10, .long 0])), (r1, .inl (cI, 20, .inl (fun _ => 0))), (r2, .inl (cI, 18, .inl (fun _ => 0))), (r3, .inl (cI, 12, .inl (fun _ => 0))), (r4, .inl (cI, 6, .inl (fun _ => 0))), (r5, .inl (cI, 7, .inl (fun _ => 0))), (r6, .inl (cI, 7, .inl (fun _ => 0))), (r7, .inl (cI, 24, .inl (fun _ => 0))), (r8, .inl (cI, 18, .inl (fun _ => 0))), (r9, .inl (cI, 12, .inl (fun _ => 0))), (r10, .inl (cI, 24, .inl (fun _ => 0)))] H := hP
  have hD : va_D (fun q : Nat => s.heap.size ≤ q) [(q0, .inr (4, [.ref q1, .ref q3, .ref q7, .ref q13, .ref q19, .ref q21, .ref q22, .int 0, .int 0, .int 0])), (q1, .inr (2, [.ref q2, .int 0])), (q2, .inl (cI, 20, .inl (fun _ => 0))), (q3, .inr (1, [.ref q4, .ref q5, .ref q6, .int 0])), (q4, .inl (cI, 6, .inl (fun _ => 0))), (q5, .inl (cI, 6, .inl (fun _ => 0))), (q6, .inl (cI, 6, .inl (fun _ => 0))), (q7, .inr (0, [.int 0, .int 0, .int 0, .ref q8, .ref q9, .ref q10, .int 0, .ref q11, .ref q12])), (q8, .inl (cI, 4, .inl (fun _ => 0))), (q9, .inl (cI, 4, .inl (fun _ => 0))), (q10, .inl (cI, 4, .inl (fun _ => 0))), (q11, .inl (cI, 7, .inl (fun _ => 0))), (q12, .inl (cI, 7, .inl (fun _ => 0))), (q13, .inr (0, [.int 0, .int 0, .int 0, .ref q14, .ref q15, .ref q16, .int 0, .ref q17, .ref q18])), (q14, .inl (cI, 4, .inl (fun _ => 0))), (q15, .inl (cI, 4, .inl (fun _ => 0))), (q16, .inl (cI, 4, .inl (fun _ => 0))), (q17, .inl (cI, 7, .inl (fun _ => 0))), (q18, .inl (cI, 7, .inl (fun _ => 0))), (q19, .inr (3, [.ref q20, .int 0])), (q20, .inl (cI, 64, .inl (fun _ => 0))), (q21, .inl (cI, 3, .inl (fun _ => 0))), (q22, .inl (cI, 7, .inl (fun _ => 0))), (r0, .inr (5, [.ref r1, .int 0, .int 0, .int 0, .int 0, .ref r2, .int 0, .ref r3, .ref r4, .int 0, .int 0, .ref r5, .ref r6, .int 0, .ref r7, .int 0, .int (-1), .int 0, .int 0, .int 0, .ref r8, .ref r9, .ref r10, .long 0])), (r1, .inl (cI, 20, .inl (fun _ => 0))), (r2, .inl (cI, 18, .inl (fun _ => 0))), (r3, .inl (cI, 12, .inl (fun _ => 0))), (r4, .inl (cI, 6, .inl (fun _ => 0))), (r5, .inl (cI, 7, .inl (fun _ => 0))), (r6, .inl (cI, 7, .inl (fun _ => 0))), (r7, .inl (cI, 24, .inl (fun _ => 0))), (r8, .inl (cI, 18, .inl (fun _ => 0))), (r9, .inl (cI, 12, .inl (fun _ => 0))), (r10, .inl (cI, 24, .inl (fun _ => 0)))] := hD
  refine W.widen (k := 34) (n := 372) (by omega) (by omega) ?_
  refine lv_astore_n (lv' := [(2, .ref r0), (1, .ref q0), (0, .ref b)]) hx hb dL_law_15 rfl hl (by decide) rfl (fun ls hl => ?_)
  refine lv_iconst (v := 0) hx hb dL_law_16 (by decide) ?_
  refine lv_istore_n (lv' := [(3, .int 0), (2, .ref r0), (1, .ref q0), (0, .ref b)]) hx hb dL_law_17 rfl hl (by decide) rfl (fun ls hl => ?_)
  exact law_loop hL C0 hZ hK q0 q1 q2 q3 q4 q5 q6 q7 q8 q9 q10 q11 q12 q13 q14 q15 q16 q17 q18 q19 q20 q21 q22 r0 r1 r2 r3 r4 r5 r6 r7 r8 r9 r10 (L + 1) 0 (Nat.zero_le L) (by omega) 0 (fun _ => 0) 0 (fun _ => 0) (fun _ => 0) (fun _ => 0) 0 0 (fun _ => 0) (fun _ => 0) (fun _ => 0) 0 (fun _ => 0) (fun _ => 0) 0 0 0 (fun _ => 0) (fun _ => 0) (fun _ => 0) 0 (fun _ => 0) (fun _ => 0) 0 0 0 (fun _ => 0) (fun _ => 0) (fun _ => 0) 0 (fun _ => 0) (-1) 0 0 0 (fun _ => 0) (fun _ => 0) (fun _ => 0) 0 0 (fun _ => 0) (fun _ => 0) (fun _ => 0) (fun _ => 0) 0 (fun _ => 0) (fun _ => 0) 0 0 rr0 _ _ hP hD hS ls (lv_sub hl [3, 2, 1, 0] rfl)
set_option maxHeartbeats 4000000 in
theorem lw_walk (l : Launch) (hflags : l.flags = flags0) (b : Addr) (xs : List Int32) : MetFree l x (headSpec (Jvm.Cond.code x code maxLocals ret :: tables_1) room_1) (lw_P b xs) (fun _ _ _ _ _ => True) lw_Q := by
  refine MetFree.of_bodyS (code := code) (maxLocals := maxLocals) (ret := ret) (by decide) ?_ ?_
  · intro args s m h hn
    obtain ⟨meth, c, h1, h2, h3, h4, h5, h6, -, -⟩ := Cond.code_spec hn (atoms_spec (ws := Jvm.Cond.code x code maxLocals ret :: tables_1) h _ List.mem_cons_self)
    exact ⟨meth, c, h1, h2, h3, h4, h5, h6⟩
  · intro p e s m args below meth c s₁ B hml0 hP _
    obtain ⟨rfl, hx, hbd, hgv⟩ := hP
    obtain ⟨scr, harrAt, hlist, hof, hsmall⟩ := hx
    obtain ⟨hcb, hkn, -, -⟩ := State.arrayAt?_spec harrAt
    have hown : s.vm.findClass R_law = some m.cls := findClass_of_methodNamed B.named
    have hts0 : ∀ c ∈ (Jvm.Cond.code x code maxLocals ret :: tables_1), c.before #[Value.ref b] s = true := atoms_spec (ws := Jvm.Cond.code x code maxLocals ret :: tables_1) B.pre
    have hts : ∀ w ∈ lw_tbl, w.before #[Value.ref b] s = true := k2_hts_sels lw_privs (fun w hw => hts0 w (List.mem_cons_of_mem _ hw)) lw_privs_ok
    have hml : c.maxLocals = 4 := B.maxLocals_eq (hts0 _ List.mem_cons_self)
    have X₀ : Stand p l e room_1 s m #[Value.ref b] below meth c s₁ [] 0 0 := Stand.of_body B
    have hh0 : s₁.heap = s.heap := by rw [B.state]; rfl
    have hsz : scr.slots.size = xs.length := by rw [← Array.length_toList, hlist, List.length_map]
    have hval : ∀ j : Nat, j < xs.length → scr.slots[j]? = some (.int (xs.getD j 0)) := fun j hj => by
      rw [← Array.getElem?_toList, hlist]
      simp [hj]
    have hbl : b < s.heap.size := (Array.getElem?_eq_some_iff.mp hcb).1
    have hX : va_X b xs.length (fun j => xs.getD j 0) s s.heap := ⟨scr, hcb, hof, hkn, hsz, hval⟩
    have K : W p l e room_1 s m #[Value.ref b] below meth c s₁.heap [] 0 0 (lw_Z below #[Value.ref b] s) (entryFrame m ([Value.ref b] : List Value).toArray 4) := by
      rw [hh0]
      exact whole_start l hflags hbd ⟨B.exec, B.bytes, B.returns, hml, hown, hts, hX, hbl, B.notSynchronized, hgv⟩
    obtain ⟨t, a1, o, b1, b2, b3⟩ := K s₁ rfl X₀
    exact ⟨t, o, a1, b1, b2, b3⟩
theorem lw_pre_spec {args : Array Value} {s : State} (h : (Jvm.Cond.and given_1 narrow_1).before args s = true) (hr : rest_1_c.before args s = true) : ∃ (b : Addr) (xs : List Int32), lw_P b xs args s := by
  have hs := flat_of_before _ h
  have hq := flat_of_before _ hr
  have hc : (Cond.count 1).before args s = true := hs _ (by decide +kernel)
  have harr : (Cond.arrayOf (.arg 0) .int).before args s = true := hs _ (by decide +kernel)
  have hle : (Cond.le (.length (.arg 0)) (.int 256)).before args s = true := hs _ (by decide +kernel)
  have hlen : (Cond.isInt (.length (.arg 0))).before args s = true := hq _ (by decide +kernel)
  have hall : (Cond.all (.arg 0) (.isInt (.elem (.arg 0) (.index 0)))).before args s = true := hq _ (by decide +kernel)
  obtain ⟨b, xs, hb, hx⟩ := State.ints_of_pre rfl harr hlen hall
  have hsm : xs.length < 2 ^ 31 := hx.choose_spec.2.2.2
  have hev : (Term.length (.arg 0)).eval args s none [] s = some (.int xs.length.toInt32) := hx.length_eval hb
  have hv := Cond.le_ints hev (show (Term.int 256).eval args s none [] s = some (.int 256) from rfl)
  have hd : xs.length.toInt32 ≤ 256 := by
    simpa [Cond.before, Cond.holds, hv] using hle
  have hN : xs.length ≤ 256 := (Int32.ofNat_le_ofNat hsm (by decide)).mp (show Int32.ofNat xs.length ≤ Int32.ofNat 256 from hd)
  exact ⟨b, xs, Cond.one_arg hc (show args[0]? = some (.ref b) from hb), hx, hN, h⟩
theorem lw_comes (l : Launch) (hflags : l.flags = flags0) : Comes l x (Jvm.Cond.code x code maxLocals ret :: tables_1) room_1 (fun tb e args s => Calls_1 tb e args s ∧ rest_1 tb e args s ∧ Pre_1 tb e args s)
    (fun _ _ args s o t => lw_Q args s o t) := by
  intro p e ha hc hk s m args below hf hfit hheap happ hpre
  obtain ⟨b, xs, hP⟩ := lw_pre_spec hpre.2.2 hpre.2.1
  obtain ⟨k, o, h1, h2, h3, hQ⟩ := lw_walk l hflags b xs p e ha hc hk s m args below hf ((Spec.applies_iff_loose hf).mp happ).1 hP trivial
  exact ⟨k, o, h1, h2, h3, hQ⟩
theorem lw_frame {s t : State} {o : Outcome} {args : Array Value} (h : Framed s o t [] 600000 7302249) :
    Framed s o t (fieldLocs frame_1_writes args s ++ arrayLocs frame_1_arrays args s ++ staticLocs frame_1_statics s) 600000 7302249 := h
theorem lw_limb (L : Cond) (hL : ∀ (args : Array Value) (s t : State), L.after args s (.returned (some (.int 1))) t = true) :
    ArmFor flags0 classFile x code maxLocals ret World_1 tables_1 room_1 Calls_1 rest_1 Pre_1
      (fun tb e a s o t => postC L tb e a s o t ∧ Framed s o t (fieldLocs frame_1_writes a s ++ arrayLocs frame_1_arrays a s ++ staticLocs frame_1_statics s) 600000 7302249) := by
  intro l hflags _ _ p e ha hc hk s m args below hf hfit hheap happ hpre
  obtain ⟨k, o, h1, h2, h3, rfl, hF⟩ := lw_comes l hflags p e ha hc hk s m args below hf hfit hheap happ hpre
  exact ⟨k, _, h1, h2, h3, hL args s _, lw_frame hF⟩
theorem i_vc : Claimed_1_1 ∧ Claimed_1_2 := ⟨lw_limb limb_1_1 (fun args s t => by simp [limb_1_1, Cond.after, Cond.holds, Cond.value]), lw_limb limb_1_2 (fun args s t => Cond.after_iff.mpr (by
  first | (rw [show limb_1_2 = Cond.eq .result (.int 1) from rfl, Cond.eq_ints (x := 1) (y := 1) rfl rfl]; simp; done) | (simp [limb_1_2, Cond.value, Term.eval]; done)))⟩
