/-! the relation between the class's numbers and the reference's -/
def pk (v : Nat → Nat) : Nat → Nat
  | 0 => 0
  | n + 1 => pk v n + v n * 16 ^ n
def bmask (b : Int32) (m : Nat) (bo : Nat → Int32) : Nat → Nat
  | 0 => 0
  | j + 1 => if bo (3 * j) = nI m ∧ bo (3 * j + 2) = b then bmask b m bo j ||| 2 ^ (bo (3 * j + 1)).toNatClampNeg else bmask b m bo j
def RPg (pl : Nat) (co mco : Nat → Int32) : Prop := pl ≤ 20 ∧ ∀ j, j < pl → mco j = co j ∧ ∃ k, 1 ≤ k ∧ k ≤ 126 ∧ co j = nI k
def RLm (nl : Nat) (kd ho sn : Nat → Int32) : Prop := (nl = 0 ∨ 2 ≤ nl) ∧ nl ≤ 6 ∧ ∀ l, l < nl → (∃ k, k ≤ 4 ∧ kd l = nI k) ∧ (∃ h, 1 ≤ h ∧ h ≤ 9 ∧ ho l = nI h) ∧ sn l = f_X5_seesOf nl (fun _ => kd l) l
def RBk (nl : Nat) (to : Int32) (tl td : Nat → Int32) (bk : Nat) (bo : Nat → Int32) : Prop := bk ≤ 8 ∧ to = nI bk ∧ (∀ j, j < bk → ∃ m l, m ≤ 6 ∧ l < nl ∧ bo (3 * j) = nI m ∧ bo (3 * j + 1) = nI l ∧ (bo (3 * j + 2) = 0 ∨ bo (3 * j + 2) = 1)) ∧ ∀ m, m ≤ 6 → tl m = nI (bmask 1 m bo bk) ∧ td m = nI (bmask 0 m bo bk)
def REv (nl : Nat) (kd ho : Nat → Int32) (li : Int32) (pe : Nat) (sc wv dk : Nat → Int32) (to : Int32) (tl td : Nat → Int32) (ro ss : Nat → Int32) (bk : Nat) (bo : Nat → Int32) : Prop :=
  (∃ v : Nat → Nat, (∀ l, l < nl → v l ≤ 9 ∧ ro (3 * l + 2) = nI (v l)) ∧ li = nI (pk v nl)) ∧ (∀ l, l < nl → ro (3 * l) = kd l ∧ ro (3 * l + 1) = ho l) ∧ pe ≤ 4 ∧ (∀ j, j < pe → ss (3 * j) = sc j ∧ (∃ q, q < nl ∧ sc j = nI q) ∧ ss (3 * j + 1) = wv j ∧ ss (3 * j + 2) = dk j) ∧ RBk nl to tl td bk bo
def RKp (qb nl : Nat) (kd ho : Nat → Int32) (ik ofr ko : Int32) (kli kmi kpe : Int32) (ksc kwv kdk : Nat → Int32) (kto : Int32) (ktl ktd : Nat → Int32) (kro kss : Nat → Int32) (mkpe mkmi kbk : Int32) (kbo : Nat → Int32) : Prop :=
  ∃ q, q ≤ qb ∧ ofr = nI q ∧ (ko = -1 ∨ ∃ r, r ≤ q ∧ ko = nI r) ∧ ((ik = 0 ∧ ¬ ko = ofr) ∨ (ik = 1 ∧ ko = ofr ∧ ¬ nl = 0 ∧ mkmi = kmi ∧ ∃ kp kb, kpe = nI kp ∧ mkpe = nI kp ∧ kbk = nI kb ∧ REv nl kd ho kli kp ksc kwv kdk kto ktl ktd kro kss kb kbo))
def RR (qb pl : Nat) (co : Nat → Int32) (nl : Nat) (kd ho sn : Nat → Int32) (li : Int32) (pe : Nat) (sc wv dk : Nat → Int32) (to : Int32) (tl td : Nat → Int32) (kli kmi kpe : Int32) (ksc kwv kdk : Nat → Int32) (kto : Int32) (ktl ktd : Nat → Int32) (ik ofr rd : Int32) (mco ro ss : Nat → Int32) (bk : Nat) (bo : Nat → Int32) (ko mkpe mkmi kbk : Int32) (kro kss kbo : Nat → Int32) : Prop :=
  RPg pl co mco ∧ RLm nl kd ho sn ∧ REv nl kd ho li pe sc wv dk to tl td ro ss bk bo ∧ RKp qb nl kd ho ik ofr ko kli kmi kpe ksc kwv kdk kto ktl ktd kro kss mkpe mkmi kbk kbo ∧ ∃ r, r ≤ 20 ∧ rd = nI r
theorem REv.hss {nl : Nat} {kd ho : Nat → Int32} {li : Int32} {pe : Nat} {sc wv dk : Nat → Int32} {to : Int32} {tl td ro ss : Nat → Int32} {bk : Nat} {bo : Nat → Int32} (hn : nl ≤ 6) (h : REv nl kd ho li pe sc wv dk to tl td ro ss bk bo) : ∀ j, j < pe → vp_in (ss (3 * j)) 6 := by
  intro j hj
  obtain ⟨e, ⟨q, hq, eq⟩, -⟩ := h.2.2.2.1 j hj
  rw [e, eq]
  exact vp_in_nI (by omega) (by decide)
theorem REv.hbo {nl : Nat} {kd ho : Nat → Int32} {li : Int32} {pe : Nat} {sc wv dk : Nat → Int32} {to : Int32} {tl td ro ss : Nat → Int32} {bk : Nat} {bo : Nat → Int32} (hn : nl ≤ 6) (h : REv nl kd ho li pe sc wv dk to tl td ro ss bk bo) : ∀ j, j < bk → vp_in (bo (3 * j + 1)) 6 := by
  intro j hj
  obtain ⟨m, q, -, hq, -, e, -⟩ := h.2.2.2.2.2.2.1 j hj
  rw [e]
  exact vp_in_nI (by omega) (by decide)
theorem law_gt {L i : Nat} (hL : L ≤ 256) (hi : i ≤ 256) : (nI L - 4 < nI i) ↔ L < i + 4 := by
  rw [Int32.lt_iff_toInt_lt, show (4 : Int32) = nI 4 from rfl, pk_sub_toInt (by omega) (by omega), nI_toInt (by omega)]
  omega
theorem lcmp_self (x : Int64) : lg_cmp x x = 0 := by
  unfold lg_cmp
  rw [if_neg (Int64.lt_irrefl), if_pos rfl]
