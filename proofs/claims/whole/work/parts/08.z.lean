/-! contracts over the one String constant of the class (both places hold the same object) -/
def bS (j : Nat) : Int32 := (([[108, 119, 116, 100, 104]] : List (List Int32)).getD 0 []).getD j 0
def zS (aT aV : Nat) (A : Nat → Prop) (U : State) (H : Heap) : Prop := vk_R RX2 27 "lwtdh" aT U ∧ vk_R RX1 39 "lwtdh" aT U ∧ vk_S 1 [5] [[108, 119, 116, 100, 104]] (fun _ => aT) (fun _ => aV) A U H ∧ va_Z "java/lang/String" "COMPACT_STRINGS" "Z" (.int 1) A U H
theorem zS.warm {aT aV : Nat} {A : Nat → Prop} {s U : State} {H : Heap} (hW : s.WarmedH U.vm) (h : zS aT aV A s H) : zS aT aV A U H := ⟨h.1.warm hW, h.2.1.warm hW, vk_S.moved hW.alike h.2.2.1, va_Z.moved hW.alike h.2.2.2⟩
theorem zS.same {aT aV : Nat} {A : Nat → Prop} {u U : State} {H : Heap} (hv : U.vm = u.vm) (hA : u.vm.Alike U.vm) (h : zS aT aV A u H) : zS aT aV A U H := ⟨h.1.same hv, h.2.1.same hv, vk_S.moved hA h.2.2.1, va_Z.moved hA h.2.2.2⟩
theorem zS.narrow {aT aV : Nat} {A B : Nat → Prop} {U : State} {H : Heap} (h : zS aT aV A U H) (hAB : ∀ q, B q → A q) : zS aT aV B U H := ⟨h.1, h.2.1, h.2.2.1.narrow hAB, h.2.2.2.narrow hAB⟩
theorem zS.keep {aT aV : Nat} {A : Nat → Prop} {s : State} {H : Heap} {locs : List Loc} (h : zS aT aV A s s.heap) (hS : va_S A s.heap H locs) : zS aT aV A s H := ⟨h.1, h.2.1, h.2.2.1.kept hS.2.1, h.2.2.2.kept hS.2.1⟩
theorem zS.low {aT aV : Nat} {A : Nat → Prop} {s : State} {H : Heap} {locs : List Loc} (h : zS aT aV A s s.heap) (hS : va_S A s.heap H locs) : zS aT aV (fun _ => False) s H := (h.keep hS).narrow (fun _ q => q.elim)
abbrev rPZ (D : va_G) (cI : ClassId) (aT aV : Nat) (av : List Value) (wc : va_W) : Array Value → State → Prop := va_Pc av (fun U => va_P D vwCl wc U.heap ∧ va_K D vwCl [(cI, .int)] U ∧ zS aT aV (fun _ => False) U U.heap)
abbrev xPZ (D : va_G) (cI : ClassId) (aT aV : Nat) (av : List Value) (wc : va_W) (sz : Nat) : Array Value → State → Prop := va_Pc av (fun U => U.heap.size = sz ∧ va_P D vwCl wc U.heap ∧ va_K D vwCl [(cI, .int)] U ∧ va_D (fun _ => True) wc ∧ zS aT aV (va_A wc sz) U U.heap)
def MetRZ (l : Launch) (y : MethodName) (ws : List Cond) (rm : Room) (D : va_G) (cI : ClassId) (aT aV : Nat) (av : List Value) (wc : va_W) (v : Option Value) : Prop := Met l y ws rm (rPZ D cI aT aV av wc) (rQ v) 0 0 (fun _ => False)
def MetXZ (l : Launch) (y : MethodName) (ws : List Cond) (rm : Room) (D : va_G) (cI : ClassId) (aT aV : Nat) (av : List Value) (wc : va_W) (v : Option Value) (w1 : va_W) : Prop := ∀ sz : Nat, Met l y ws rm (xPZ D cI aT aV av wc sz) (xQ D (va_A wc sz) v w1) 0 0 (va_A wc sz)
theorem mRZ {l : Launch} {y : MethodName} {ws ws' : List Cond} {rm : Room} {D : va_G} {cI : ClassId} {aT aV : Nat} {av : List Value} {wc : va_W} {v : Option Value} {cc : ByteArray} {maxL : Nat} {ret : Option FieldType}
    (hy : plainName y.cls = true) (hw : ws = Cond.code y cc maxL ret :: ws') (hlen : (lg_sl av).length ≤ maxL)
    (body : ∀ (p : Program) (e : Env) (s : State) (m : MethodId) (args : Array Value) (below : List Frame) (meth : Method) (c : Code) (Q : State → Prop), p.tables.exec = Jvm.exec → c.code = cc → meth.sig.returnType = ret → c.maxLocals = maxL → s.vm.findClass y.cls = some m.cls → (∀ w ∈ ws, w.before args s = true) → meth.locks = false →
      va_P D vwCl wc s.heap → va_K D vwCl [(cI, .int)] s → zS aT aV (fun _ => False) s s.heap → Q = MQ below (rQ v) args s 0 0 (fun _ => False) → ∀ ls : Array Slot, lv_has ls maxL (lv_args 0 av) → W p l e rm s m args below meth c s.heap [] 0 0 Q (F0 m 0 ls [])) : MetRZ l y ws rm D cI aT aV av wc v := by
  refine Met.ofW (cc := cc) (maxL := maxL) (ret := ret) hy hw ?_
  intro p e s m args below meth c s₁ B hml hv
  obtain ⟨rfl, hP, hK, hZ⟩ := hv
  have hl := lv_entry av (n := maxL) hlen
  rw [lg_entry_eq]
  exact body p e s m _ below meth c _ B.exec B.bytes B.returns hml (findClass_of_methodNamed B.named) (atoms_spec (ws := ws) B.pre) B.notSynchronized hP hK hZ rfl _ hl
theorem mXZ {l : Launch} {y : MethodName} {ws ws' : List Cond} {rm : Room} {D : va_G} {cI : ClassId} {aT aV : Nat} {av : List Value} {wc : va_W} {v : Option Value} {w1 : va_W} {cc : ByteArray} {maxL : Nat} {ret : Option FieldType}
    (hy : plainName y.cls = true) (hw : ws = Cond.code y cc maxL ret :: ws') (hlen : (lg_sl av).length ≤ maxL)
    (body : ∀ (p : Program) (e : Env) (s : State) (m : MethodId) (args : Array Value) (below : List Frame) (meth : Method) (c : Code) (Q : State → Prop) (A : Nat → Prop), p.tables.exec = Jvm.exec → c.code = cc → meth.sig.returnType = ret → c.maxLocals = maxL → s.vm.findClass y.cls = some m.cls → (∀ w ∈ ws, w.before args s = true) → meth.locks = false →
      va_P D vwCl wc s.heap → va_K D vwCl [(cI, .int)] s → va_D A wc → (∀ q : Nat, s.heap.size ≤ q → A q) → va_S A s.heap s.heap [] → zS aT aV A s s.heap → Q = MQ below (xQ D A v w1) args s 0 0 A → ∀ ls : Array Slot, lv_has ls maxL (lv_args 0 av) → W p l e rm s m args below meth c s.heap [] 0 0 Q (F0 m 0 ls [])) : MetXZ l y ws rm D cI aT aV av wc v w1 := by
  intro sz
  refine Met.ofW (cc := cc) (maxL := maxL) (ret := ret) hy hw ?_
  intro p e s m args below meth c s₁ B hml hv
  obtain ⟨rfl, hsz, hP, hK, hD0, hZ⟩ := hv
  subst hsz
  have hl := lv_entry av (n := maxL) hlen
  rw [lg_entry_eq]
  exact body p e s m _ below meth c _ (va_A wc s.heap.size) B.exec B.bytes B.returns hml (findClass_of_methodNamed B.named) (atoms_spec (ws := ws) B.pre) B.notSynchronized hP hK hD0.self (fun q h => Or.inr h) va_S.rf hZ rfl _ hl
section CallsZ
variable {p : Program} {l : Launch} {e : Env} {R : Room} {s : State} {m : MethodId} {args : Array Value} {below : List Frame} {meth : Method} {c : Code} {H : Heap} {locs : List Loc} {cells slots : Nat} {Q : State → Prop}
variable {y : MethodName} {bytes cc : ByteArray} {maxL nL n index : Nat} {ret : Option FieldType} {ws : List Cond} {rm : Room} {Ts : List Cond} {own C : String} {b : Nat} {As rest st : List Value} {pc : Nat} {ls : Array Slot}
variable {D : va_G} {cI : ClassId} {A : Nat → Prop} {w wc w1 w2 : va_W} {st' : List Value} {aT aV : Nat}
theorem rBZ (av : List Value) : FrameBlind (rPZ D cI aT aV av wc) := by
  intro a U g mk q
  obtain ⟨q0, qP, qK, qZ⟩ := q
  exact ⟨q0, qP, va_K.moved (u := U) (U := U.calling g mk a) (Vm.Alike.refl U.vm) qK, qZ.same (U := U.calling g mk a) rfl (Vm.Alike.refl U.vm)⟩
theorem xBZ (av : List Value) (sz : Nat) : FrameBlind (xPZ D cI aT aV av wc sz) := by
  intro a U g mk q
  obtain ⟨q0, q1, qP, qK, qD, qZ⟩ := q
  exact ⟨q0, q1, qP, va_K.moved (u := U) (U := U.calling g mk a) (Vm.Alike.refl U.vm) qK, qD, qZ.same (U := U.calling g mk a) rfl (Vm.Alike.refl U.vm)⟩
theorem rVZ {v : Option Value} (S : CallFix p m c cc nL s args Ts own) (hM : MetRZ l y ws rm D cI aT aV (.ref b :: As) wc v) (cw : CallW R s args own C index y bytes maxL ret ws rm 0 0 n) (hK : va_K D vwCl [(cI, .int)] s) (hP : va_P D vwCl wc H) (hZ : zS aT aV (fun _ => False) s H) (q0 : Nat) {ci : Nat} {q : vw_C} {fs : List Value} (hc : vwCl[ci]? = some q) (he : wc[q0]? = some (b, .inr (ci, fs))) (hC : q.1 = C)
    (hn : As.length = n) (hsize : ls.size = nL) (hstack : st = As.reverse ++ .ref b :: rest) (hst : v.toList ++ rest = st') (hW : (rest.map fun v => v.category).sum ≤ 8) (hdg : decode cc pc = .ok (.invokevirtual index, 3)) (hf : cells ≤ R.cells ∧ slots ≤ R.slots)
    (kk : W p l e R s m args below meth c H locs cells slots Q (F0 m (pc + 3) ls st')) : W p l e R s m args below meth c H locs cells slots Q (F0 m pc ls st) := by
  subst hC; subst hst
  exact rGo hf (W.runV S hM cw ⟨rBZ _, va_recv hK hP hc he, fun U hU hW => ⟨rfl, by rw [hU]; exact hP, va_K.moved hW.alike hK, by rw [hU]; exact hZ.warm hW⟩⟩ rfl hn hsize hstack (lv_room hW) hdg hf) kk
/-- a call on the String itself -/
theorem rVT {v : Option Value} (S : CallFix p m c cc nL s args Ts own) (hM : MetRZ l y ws rm D cI aT aV (.ref aT :: As) wc v) (cw : CallW R s args own C index y bytes maxL ret ws rm 0 0 n) (hK : va_K D vwCl [(cI, .int)] s) (hP : va_P D vwCl wc H) (hZ : zS aT aV (fun _ => False) s H) (hC : C = "java/lang/String")
    (hn : As.length = n) (hsize : ls.size = nL) (hstack : st = As.reverse ++ .ref aT :: rest) (hst : v.toList ++ rest = st') (hW : (rest.map fun v => v.category).sum ≤ 8) (hdg : decode cc pc = .ok (.invokevirtual index, 3)) (hf : cells ≤ R.cells ∧ slots ≤ R.slots)
    (kk : W p l e R s m args below meth c H locs cells slots Q (F0 m (pc + 3) ls st')) : W p l e R s m args below meth c H locs cells slots Q (F0 m pc ls st) := by
  subst hC; subst hst
  obtain ⟨cell, h1, h2, h3, -⟩ := (hZ.2.2.1.1 0 (by decide)).1
  exact rGo hf (W.runV S hM cw ⟨rBZ _, ⟨cell, h1, h2, h3⟩, fun U hU hW => ⟨rfl, by rw [hU]; exact hP, va_K.moved hW.alike hK, by rw [hU]; exact hZ.warm hW⟩⟩ rfl hn hsize hstack (lv_room hW) hdg hf) kk
theorem rSZ {v : Option Value} (S : CallFix p m c cc nL s args Ts own) (hM : MetRZ l y ws rm D cI aT aV As wc v) (cw : CallB R s args own index y bytes maxL ret ws rm 0 0 n ∧ (Cond.static y).before args s = true) (hK : va_K D vwCl [(cI, .int)] s) (hP : va_P D vwCl wc H) (hZ : zS aT aV (fun _ => False) s H)
    (hn : As.length = n) (hsize : ls.size = nL) (hstack : st = As.reverse ++ rest) (hst : v.toList ++ rest = st') (hW : (rest.map fun v => v.category).sum ≤ 8) (hdg : decode cc pc = .ok (.invokestatic index, 3)) (hf : cells ≤ R.cells ∧ slots ≤ R.slots)
    (kk : W p l e R s m args below meth c H locs cells slots Q (F0 m (pc + 3) ls st')) : W p l e R s m args below meth c H locs cells slots Q (F0 m pc ls st) := by
  subst hst
  exact rGo hf (W.runS S hM cw ⟨rBZ _, fun U hU hW => ⟨rfl, by rw [hU]; exact hP, va_K.moved hW.alike hK, by rw [hU]; exact hZ.warm hW⟩⟩ rfl hn hsize hstack (lv_room hW) hdg hf) kk
theorem xVZ {v : Option Value} (S : CallFix p m c cc nL s args Ts own) (hM : MetXZ l y ws rm D cI aT aV (.ref b :: As) wc v w1) (cw : CallW R s args own C index y bytes maxL ret ws rm 0 0 n) (hK : va_K D vwCl [(cI, .int)] s) (hP : va_P D vwCl w H) (hD : va_D A w) (hS : va_S A s.heap H locs) (hA : ∀ q : Nat, s.heap.size ≤ q → A q)
    (isC isR perm : List Nat) (hC : isC.map (fun i => w[i]?) = wc.map some) (hC2 : isC.filterMap (fun i => w[i]?) = wc) (hC3 : va_nd isC = true) (hR : isR.map (fun i => w[i]?) = (isR.filterMap (fun i => w[i]?)).map some) (hnd : va_nd isR = true) (hdis : ∀ i ∈ isR, i ∉ isC) (hp1 : va_nd perm = true) (hp : perm.map (fun i => (isR.filterMap (fun i => w[i]?) ++ w1)[i]?) = w2.map some) (hp2 : perm.filterMap (fun i => (isR.filterMap (fun i => w[i]?) ++ w1)[i]?) = w2)
    (hZ : zS aT aV A s H) (q0 : Nat) {ci : Nat} {q : vw_C} {fs : List Value} (hc : vwCl[ci]? = some q) (he : wc[q0]? = some (b, .inr (ci, fs))) (hCq : q.1 = C)
    (hn : As.length = n) (hsize : ls.size = nL) (hstack : st = As.reverse ++ .ref b :: rest) (hst : v.toList ++ rest = st') (hW : (rest.map fun v => v.category).sum ≤ 8) (hdg : decode cc pc = .ok (.invokevirtual index, 3)) (hf : cells ≤ R.cells ∧ slots ≤ R.slots)
    (kk : ∀ (H1 : Heap) (locs1 : List Loc), va_P D vwCl w2 H1 → va_D A w2 → va_S A s.heap H1 locs1 → W p l e R s m args below meth c H1 locs1 cells slots Q (F0 m (pc + 3) ls st')) : W p l e R s m args below meth c H locs cells slots Q (F0 m pc ls st) := by
  subst hCq; subst hst
  have hPc := hP.sub isC hC2
  have hDc := hD.sub isC hC3 hC
  have hF := va_free (wc := wc) hD hS hA isC hC
  exact xGo (W.runV S (hM H.size) cw ⟨xBZ _ _, va_recv hK hPc hc he, fun U hU hW => ⟨rfl, by rw [hU], by rw [hU]; exact hPc, va_K.moved hW.alike hK, hDc.weaken (fun _ _ _ _ => trivial), by rw [hU]; exact (hZ.narrow hF).warm hW⟩⟩ rfl hn hsize hstack (lv_room hW) hdg hf) hP hD hS hA isC isR perm hC hR hnd hdis hp1 hp hp2 kk
end CallsZ
